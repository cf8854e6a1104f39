theorem dL_declares_0 : decode cL_declares 0 = .ok (.aload_n 0, 1) := by decide +kernel
theorem dL_declares_1 : decode cL_declares 1 = .ok (.iload_n 1, 1) := by decide +kernel
theorem dL_declares_2 : decode cL_declares 2 = .ok (.iload_n 2, 1) := by decide +kernel
theorem dL_declares_3 : decode cL_declares 3 = .ok (.iload_n 3, 1) := by decide +kernel
theorem dL_declares_4 : decode cL_declares 4 = .ok (.iload 4, 2) := by decide +kernel
theorem dL_declares_6 : decode cL_declares 6 = .ok (.invokevirtual 7, 3) := by decide +kernel
theorem dL_declares_9 : decode cL_declares 9 = .ok (.iconst 1, 1) := by decide +kernel
theorem dL_declares_10 : decode cL_declares 10 = .ok (.ireturn, 1) := by decide +kernel
theorem dL_declares_11 : decode cL_declares 11 = .ok (.astore 5, 2) := by decide +kernel
theorem dL_declares_13 : decode cL_declares 13 = .ok (.ldc 15, 2) := by decide +kernel
theorem dL_declares_15 : decode cL_declares 15 = .ok (.ireturn, 1) := by decide +kernel
theorem dL_declares_16 : decode cL_declares 16 = .ok (.astore 5, 2) := by decide +kernel
theorem dL_declares_18 : decode cL_declares 18 = .ok (.ldc 18, 2) := by decide +kernel
theorem dL_declares_20 : decode cL_declares 20 = .ok (.ireturn, 1) := by decide +kernel
theorem dL_declares_21 : decode cL_declares 21 = .ok (.astore 5, 2) := by decide +kernel
theorem dL_declares_23 : decode cL_declares 23 = .ok (.ldc 21, 2) := by decide +kernel
theorem dL_declares_25 : decode cL_declares 25 = .ok (.ireturn, 1) := by decide +kernel
theorem dL_facts_0 : decode cL_facts 0 = .ok (.aload_n 0, 1) := by decide +kernel
theorem dL_facts_1 : decode cL_facts 1 = .ok (.iload_n 1, 1) := by decide +kernel
theorem dL_facts_2 : decode cL_facts 2 = .ok (.iload_n 2, 1) := by decide +kernel
theorem dL_facts_3 : decode cL_facts 3 = .ok (.iload_n 3, 1) := by decide +kernel
theorem dL_facts_4 : decode cL_facts 4 = .ok (.iload 4, 2) := by decide +kernel
theorem dL_facts_6 : decode cL_facts 6 = .ok (.iload 5, 2) := by decide +kernel
theorem dL_facts_8 : decode cL_facts 8 = .ok (.iload 6, 2) := by decide +kernel
theorem dL_facts_10 : decode cL_facts 10 = .ok (.iload 7, 2) := by decide +kernel
theorem dL_facts_12 : decode cL_facts 12 = .ok (.invokevirtual 22, 3) := by decide +kernel
theorem dL_facts_15 : decode cL_facts 15 = .ok (.ireturn, 1) := by decide +kernel
theorem dL_facts_16 : decode cL_facts 16 = .ok (.astore 8, 2) := by decide +kernel
theorem dL_facts_18 : decode cL_facts 18 = .ok (.ldc 15, 2) := by decide +kernel
theorem dL_facts_20 : decode cL_facts 20 = .ok (.ireturn, 1) := by decide +kernel
theorem dL_facts_21 : decode cL_facts 21 = .ok (.astore 8, 2) := by decide +kernel
theorem dL_facts_23 : decode cL_facts 23 = .ok (.ldc 18, 2) := by decide +kernel
theorem dL_facts_25 : decode cL_facts 25 = .ok (.ireturn, 1) := by decide +kernel
theorem dL_facts_26 : decode cL_facts 26 = .ok (.astore 8, 2) := by decide +kernel
theorem dL_facts_28 : decode cL_facts 28 = .ok (.ldc 21, 2) := by decide +kernel
theorem dL_facts_30 : decode cL_facts 30 = .ok (.ireturn, 1) := by decide +kernel
theorem dL_drops_0 : decode cL_drops 0 = .ok (.aload_n 0, 1) := by decide +kernel
theorem dL_drops_1 : decode cL_drops 1 = .ok (.iload_n 1, 1) := by decide +kernel
theorem dL_drops_2 : decode cL_drops 2 = .ok (.invokevirtual 26, 3) := by decide +kernel
theorem dL_drops_5 : decode cL_drops 5 = .ok (.ireturn, 1) := by decide +kernel
theorem dL_drops_6 : decode cL_drops 6 = .ok (.astore_n 2, 1) := by decide +kernel
theorem dL_drops_7 : decode cL_drops 7 = .ok (.ldc 15, 2) := by decide +kernel
theorem dL_drops_9 : decode cL_drops 9 = .ok (.ireturn, 1) := by decide +kernel
theorem dL_drops_10 : decode cL_drops 10 = .ok (.astore_n 2, 1) := by decide +kernel
theorem dL_drops_11 : decode cL_drops 11 = .ok (.ldc 21, 2) := by decide +kernel
theorem dL_drops_13 : decode cL_drops 13 = .ok (.ireturn, 1) := by decide +kernel
theorem dL_passes_0 : decode cL_passes 0 = .ok (.aload_n 0, 1) := by decide +kernel
theorem dL_passes_1 : decode cL_passes 1 = .ok (.invokevirtual 30, 3) := by decide +kernel
theorem dL_passes_4 : decode cL_passes 4 = .ok (.ireturn, 1) := by decide +kernel
theorem dL_passes_5 : decode cL_passes 5 = .ok (.astore_n 1, 1) := by decide +kernel
theorem dL_passes_6 : decode cL_passes 6 = .ok (.ldc 21, 2) := by decide +kernel
theorem dL_passes_8 : decode cL_passes 8 = .ok (.ireturn, 1) := by decide +kernel
theorem dL_heads_0 : decode cL_heads 0 = .ok (.aload_n 0, 1) := by decide +kernel
theorem dL_heads_1 : decode cL_heads 1 = .ok (.iload_n 1, 1) := by decide +kernel
theorem dL_heads_2 : decode cL_heads 2 = .ok (.iload_n 2, 1) := by decide +kernel
theorem dL_heads_3 : decode cL_heads 3 = .ok (.iload_n 3, 1) := by decide +kernel
theorem dL_heads_4 : decode cL_heads 4 = .ok (.iload 4, 2) := by decide +kernel
theorem dL_heads_6 : decode cL_heads 6 = .ok (.invokevirtual 34, 3) := by decide +kernel
theorem dL_heads_9 : decode cL_heads 9 = .ok (.iconst 1, 1) := by decide +kernel
theorem dL_heads_10 : decode cL_heads 10 = .ok (.ireturn, 1) := by decide +kernel
theorem dL_heads_11 : decode cL_heads 11 = .ok (.astore 5, 2) := by decide +kernel
theorem dL_heads_13 : decode cL_heads 13 = .ok (.ldc 15, 2) := by decide +kernel
theorem dL_heads_15 : decode cL_heads 15 = .ok (.ireturn, 1) := by decide +kernel
theorem dL_heads_16 : decode cL_heads 16 = .ok (.astore 5, 2) := by decide +kernel
theorem dL_heads_18 : decode cL_heads 18 = .ok (.ldc 18, 2) := by decide +kernel
theorem dL_heads_20 : decode cL_heads 20 = .ok (.ireturn, 1) := by decide +kernel
theorem dL_atoms_0 : decode cL_atoms 0 = .ok (.aload_n 0, 1) := by decide +kernel
theorem dL_atoms_1 : decode cL_atoms 1 = .ok (.iload_n 1, 1) := by decide +kernel
theorem dL_atoms_2 : decode cL_atoms 2 = .ok (.iload_n 2, 1) := by decide +kernel
theorem dL_atoms_3 : decode cL_atoms 3 = .ok (.iload_n 3, 1) := by decide +kernel
theorem dL_atoms_4 : decode cL_atoms 4 = .ok (.iload 4, 2) := by decide +kernel
theorem dL_atoms_6 : decode cL_atoms 6 = .ok (.iload 5, 2) := by decide +kernel
theorem dL_atoms_8 : decode cL_atoms 8 = .ok (.invokevirtual 37, 3) := by decide +kernel
theorem dL_atoms_11 : decode cL_atoms 11 = .ok (.ireturn, 1) := by decide +kernel
theorem dL_atoms_12 : decode cL_atoms 12 = .ok (.astore 6, 2) := by decide +kernel
theorem dL_atoms_14 : decode cL_atoms 14 = .ok (.ldc 15, 2) := by decide +kernel
theorem dL_atoms_16 : decode cL_atoms 16 = .ok (.ireturn, 1) := by decide +kernel
theorem dL_atoms_17 : decode cL_atoms 17 = .ok (.astore 6, 2) := by decide +kernel
theorem dL_atoms_19 : decode cL_atoms 19 = .ok (.ldc 18, 2) := by decide +kernel
theorem dL_atoms_21 : decode cL_atoms 21 = .ok (.ireturn, 1) := by decide +kernel
theorem dL_atoms_22 : decode cL_atoms 22 = .ok (.astore 6, 2) := by decide +kernel
theorem dL_atoms_24 : decode cL_atoms 24 = .ok (.ldc 21, 2) := by decide +kernel
theorem dL_atoms_26 : decode cL_atoms 26 = .ok (.ireturn, 1) := by decide +kernel
theorem dL_compares_0 : decode cL_compares 0 = .ok (.aload_n 0, 1) := by decide +kernel
theorem dL_compares_1 : decode cL_compares 1 = .ok (.iload_n 1, 1) := by decide +kernel
theorem dL_compares_2 : decode cL_compares 2 = .ok (.iload_n 2, 1) := by decide +kernel
theorem dL_compares_3 : decode cL_compares 3 = .ok (.iload_n 3, 1) := by decide +kernel
theorem dL_compares_4 : decode cL_compares 4 = .ok (.invokevirtual 41, 3) := by decide +kernel
theorem dL_compares_7 : decode cL_compares 7 = .ok (.ireturn, 1) := by decide +kernel
theorem dL_compares_8 : decode cL_compares 8 = .ok (.astore 4, 2) := by decide +kernel
theorem dL_compares_10 : decode cL_compares 10 = .ok (.ldc 15, 2) := by decide +kernel
theorem dL_compares_12 : decode cL_compares 12 = .ok (.ireturn, 1) := by decide +kernel
theorem dL_compares_13 : decode cL_compares 13 = .ok (.astore 4, 2) := by decide +kernel
theorem dL_compares_15 : decode cL_compares 15 = .ok (.ldc 18, 2) := by decide +kernel
theorem dL_compares_17 : decode cL_compares 17 = .ok (.ireturn, 1) := by decide +kernel
theorem dL_compares_18 : decode cL_compares 18 = .ok (.astore 4, 2) := by decide +kernel
theorem dL_compares_20 : decode cL_compares 20 = .ok (.ldc 21, 2) := by decide +kernel
theorem dL_compares_22 : decode cL_compares 22 = .ok (.ireturn, 1) := by decide +kernel
theorem dL_adds_0 : decode cL_adds 0 = .ok (.aload_n 0, 1) := by decide +kernel
theorem dL_adds_1 : decode cL_adds 1 = .ok (.iload_n 1, 1) := by decide +kernel
theorem dL_adds_2 : decode cL_adds 2 = .ok (.iload_n 2, 1) := by decide +kernel
theorem dL_adds_3 : decode cL_adds 3 = .ok (.iload_n 3, 1) := by decide +kernel
theorem dL_adds_4 : decode cL_adds 4 = .ok (.invokevirtual 45, 3) := by decide +kernel
theorem dL_adds_7 : decode cL_adds 7 = .ok (.ireturn, 1) := by decide +kernel
theorem dL_adds_8 : decode cL_adds 8 = .ok (.astore 4, 2) := by decide +kernel
theorem dL_adds_10 : decode cL_adds 10 = .ok (.ldc 18, 2) := by decide +kernel
theorem dL_adds_12 : decode cL_adds 12 = .ok (.ireturn, 1) := by decide +kernel
theorem dL_adds_13 : decode cL_adds 13 = .ok (.astore 4, 2) := by decide +kernel
theorem dL_adds_15 : decode cL_adds 15 = .ok (.ldc 21, 2) := by decide +kernel
theorem dL_adds_17 : decode cL_adds 17 = .ok (.ireturn, 1) := by decide +kernel
theorem dL_enters_0 : decode cL_enters 0 = .ok (.aload_n 0, 1) := by decide +kernel
theorem dL_enters_1 : decode cL_enters 1 = .ok (.invokevirtual 48, 3) := by decide +kernel
theorem dL_enters_4 : decode cL_enters 4 = .ok (.ireturn, 1) := by decide +kernel
theorem dL_enters_5 : decode cL_enters 5 = .ok (.astore_n 1, 1) := by decide +kernel
theorem dL_enters_6 : decode cL_enters 6 = .ok (.ldc 18, 2) := by decide +kernel
theorem dL_enters_8 : decode cL_enters 8 = .ok (.ireturn, 1) := by decide +kernel
theorem dL_enters_9 : decode cL_enters 9 = .ok (.astore_n 1, 1) := by decide +kernel
theorem dL_enters_10 : decode cL_enters 10 = .ok (.ldc 21, 2) := by decide +kernel
theorem dL_enters_12 : decode cL_enters 12 = .ok (.ireturn, 1) := by decide +kernel
theorem dL_denies_0 : decode cL_denies 0 = .ok (.aload_n 0, 1) := by decide +kernel
theorem dL_denies_1 : decode cL_denies 1 = .ok (.invokevirtual 51, 3) := by decide +kernel
theorem dL_denies_4 : decode cL_denies 4 = .ok (.ireturn, 1) := by decide +kernel
theorem dL_denies_5 : decode cL_denies 5 = .ok (.astore_n 1, 1) := by decide +kernel
theorem dL_denies_6 : decode cL_denies 6 = .ok (.ldc 18, 2) := by decide +kernel
theorem dL_denies_8 : decode cL_denies 8 = .ok (.ireturn, 1) := by decide +kernel
theorem dL_denies_9 : decode cL_denies 9 = .ok (.astore_n 1, 1) := by decide +kernel
theorem dL_denies_10 : decode cL_denies 10 = .ok (.ldc 21, 2) := by decide +kernel
theorem dL_denies_12 : decode cL_denies 12 = .ok (.ireturn, 1) := by decide +kernel
theorem dL_removes_0 : decode cL_removes 0 = .ok (.aload_n 0, 1) := by decide +kernel
theorem dL_removes_1 : decode cL_removes 1 = .ok (.iload_n 1, 1) := by decide +kernel
theorem dL_removes_2 : decode cL_removes 2 = .ok (.invokevirtual 54, 3) := by decide +kernel
theorem dL_removes_5 : decode cL_removes 5 = .ok (.ireturn, 1) := by decide +kernel
theorem dL_removes_6 : decode cL_removes 6 = .ok (.astore_n 2, 1) := by decide +kernel
theorem dL_removes_7 : decode cL_removes 7 = .ok (.ldc 15, 2) := by decide +kernel
theorem dL_removes_9 : decode cL_removes 9 = .ok (.ireturn, 1) := by decide +kernel
theorem dL_removes_10 : decode cL_removes 10 = .ok (.astore_n 2, 1) := by decide +kernel
theorem dL_removes_11 : decode cL_removes 11 = .ok (.ldc 21, 2) := by decide +kernel
theorem dL_removes_13 : decode cL_removes 13 = .ok (.ireturn, 1) := by decide +kernel
theorem dL_holds_0 : decode cL_holds 0 = .ok (.aload_n 0, 1) := by decide +kernel
theorem dL_holds_1 : decode cL_holds 1 = .ok (.iload_n 1, 1) := by decide +kernel
theorem dL_holds_2 : decode cL_holds 2 = .ok (.iload_n 2, 1) := by decide +kernel
theorem dL_holds_3 : decode cL_holds 3 = .ok (.iload_n 3, 1) := by decide +kernel
theorem dL_holds_4 : decode cL_holds 4 = .ok (.iload 4, 2) := by decide +kernel
theorem dL_holds_6 : decode cL_holds 6 = .ok (.invokevirtual 57, 3) := by decide +kernel
theorem dL_holds_9 : decode cL_holds 9 = .ok (.ifCond .eq 7, 3) := by decide +kernel
theorem dL_holds_12 : decode cL_holds 12 = .ok (.iconst 1, 1) := by decide +kernel
theorem dL_holds_13 : decode cL_holds 13 = .ok (.goto 4, 3) := by decide +kernel
theorem dL_holds_16 : decode cL_holds 16 = .ok (.iconst 0, 1) := by decide +kernel
theorem dL_holds_17 : decode cL_holds 17 = .ok (.ireturn, 1) := by decide +kernel
theorem dL_holds_18 : decode cL_holds 18 = .ok (.astore 5, 2) := by decide +kernel
theorem dL_holds_20 : decode cL_holds 20 = .ok (.ldc 15, 2) := by decide +kernel
theorem dL_holds_22 : decode cL_holds 22 = .ok (.ireturn, 1) := by decide +kernel
theorem dL_holdsAt_0 : decode cL_holdsAt 0 = .ok (.aload_n 0, 1) := by decide +kernel
theorem dL_holdsAt_1 : decode cL_holdsAt 1 = .ok (.iload_n 1, 1) := by decide +kernel
theorem dL_holdsAt_2 : decode cL_holdsAt 2 = .ok (.iload_n 2, 1) := by decide +kernel
theorem dL_holdsAt_3 : decode cL_holdsAt 3 = .ok (.iload_n 3, 1) := by decide +kernel
theorem dL_holdsAt_4 : decode cL_holdsAt 4 = .ok (.iload 4, 2) := by decide +kernel
theorem dL_holdsAt_6 : decode cL_holdsAt 6 = .ok (.iload 5, 2) := by decide +kernel
theorem dL_holdsAt_8 : decode cL_holdsAt 8 = .ok (.invokevirtual 61, 3) := by decide +kernel
theorem dL_holdsAt_11 : decode cL_holdsAt 11 = .ok (.ifCond .eq 7, 3) := by decide +kernel
theorem dL_holdsAt_14 : decode cL_holdsAt 14 = .ok (.iconst 1, 1) := by decide +kernel
theorem dL_holdsAt_15 : decode cL_holdsAt 15 = .ok (.goto 4, 3) := by decide +kernel
theorem dL_holdsAt_18 : decode cL_holdsAt 18 = .ok (.iconst 0, 1) := by decide +kernel
theorem dL_holdsAt_19 : decode cL_holdsAt 19 = .ok (.ireturn, 1) := by decide +kernel
theorem dL_holdsAt_20 : decode cL_holdsAt 20 = .ok (.astore 6, 2) := by decide +kernel
theorem dL_holdsAt_22 : decode cL_holdsAt 22 = .ok (.ldc 15, 2) := by decide +kernel
theorem dL_holdsAt_24 : decode cL_holdsAt 24 = .ok (.ireturn, 1) := by decide +kernel
theorem dL_holdsAt_25 : decode cL_holdsAt 25 = .ok (.astore 6, 2) := by decide +kernel
theorem dL_holdsAt_27 : decode cL_holdsAt 27 = .ok (.ldc 18, 2) := by decide +kernel
theorem dL_holdsAt_29 : decode cL_holdsAt 29 = .ok (.ireturn, 1) := by decide +kernel
theorem dL_anew_0 : decode cL_anew 0 = .ok (.aload_n 0, 1) := by decide +kernel
theorem dL_anew_1 : decode cL_anew 1 = .ok (.iload_n 1, 1) := by decide +kernel
theorem dL_anew_2 : decode cL_anew 2 = .ok (.iload_n 2, 1) := by decide +kernel
theorem dL_anew_3 : decode cL_anew 3 = .ok (.iload_n 3, 1) := by decide +kernel
theorem dL_anew_4 : decode cL_anew 4 = .ok (.iload 4, 2) := by decide +kernel
theorem dL_anew_6 : decode cL_anew 6 = .ok (.iload 5, 2) := by decide +kernel
theorem dL_anew_8 : decode cL_anew 8 = .ok (.invokevirtual 65, 3) := by decide +kernel
theorem dL_anew_11 : decode cL_anew 11 = .ok (.ifCond .eq 7, 3) := by decide +kernel
theorem dL_anew_14 : decode cL_anew 14 = .ok (.iconst 1, 1) := by decide +kernel
theorem dL_anew_15 : decode cL_anew 15 = .ok (.goto 4, 3) := by decide +kernel
theorem dL_anew_18 : decode cL_anew 18 = .ok (.iconst 0, 1) := by decide +kernel
theorem dL_anew_19 : decode cL_anew 19 = .ok (.ireturn, 1) := by decide +kernel
theorem dL_anew_20 : decode cL_anew 20 = .ok (.astore 6, 2) := by decide +kernel
theorem dL_anew_22 : decode cL_anew 22 = .ok (.ldc 15, 2) := by decide +kernel
theorem dL_anew_24 : decode cL_anew 24 = .ok (.ireturn, 1) := by decide +kernel
theorem dL_anew_25 : decode cL_anew 25 = .ok (.astore 6, 2) := by decide +kernel
theorem dL_anew_27 : decode cL_anew 27 = .ok (.ldc 18, 2) := by decide +kernel
theorem dL_anew_29 : decode cL_anew 29 = .ok (.ireturn, 1) := by decide +kernel
theorem dL_size_0 : decode cL_size 0 = .ok (.aload_n 0, 1) := by decide +kernel
theorem dL_size_1 : decode cL_size 1 = .ok (.iload_n 1, 1) := by decide +kernel
theorem dL_size_2 : decode cL_size 2 = .ok (.invokevirtual 68, 3) := by decide +kernel
theorem dL_size_5 : decode cL_size 5 = .ok (.ireturn, 1) := by decide +kernel
theorem dL_size_6 : decode cL_size 6 = .ok (.astore_n 2, 1) := by decide +kernel
theorem dL_size_7 : decode cL_size 7 = .ok (.ldc 15, 2) := by decide +kernel
theorem dL_size_9 : decode cL_size 9 = .ok (.ireturn, 1) := by decide +kernel
theorem dL_at_0 : decode cL_at 0 = .ok (.aload_n 0, 1) := by decide +kernel
theorem dL_at_1 : decode cL_at 1 = .ok (.iload_n 1, 1) := by decide +kernel
theorem dL_at_2 : decode cL_at 2 = .ok (.iload_n 2, 1) := by decide +kernel
theorem dL_at_3 : decode cL_at 3 = .ok (.invokevirtual 71, 3) := by decide +kernel
theorem dL_at_6 : decode cL_at 6 = .ok (.ireturn, 1) := by decide +kernel
theorem dL_at_7 : decode cL_at 7 = .ok (.astore_n 3, 1) := by decide +kernel
theorem dL_at_8 : decode cL_at 8 = .ok (.ldc 15, 2) := by decide +kernel
theorem dL_at_10 : decode cL_at 10 = .ok (.ireturn, 1) := by decide +kernel
theorem dL_stratum_0 : decode cL_stratum 0 = .ok (.aload_n 0, 1) := by decide +kernel
theorem dL_stratum_1 : decode cL_stratum 1 = .ok (.iload_n 1, 1) := by decide +kernel
theorem dL_stratum_2 : decode cL_stratum 2 = .ok (.invokevirtual 75, 3) := by decide +kernel
theorem dL_stratum_5 : decode cL_stratum 5 = .ok (.ireturn, 1) := by decide +kernel
theorem dL_stratum_6 : decode cL_stratum 6 = .ok (.astore_n 2, 1) := by decide +kernel
theorem dL_stratum_7 : decode cL_stratum 7 = .ok (.ldc 15, 2) := by decide +kernel
theorem dL_stratum_9 : decode cL_stratum 9 = .ok (.ireturn, 1) := by decide +kernel
theorem dL_ways_0 : decode cL_ways 0 = .ok (.aload_n 0, 1) := by decide +kernel
theorem dL_ways_1 : decode cL_ways 1 = .ok (.iload_n 1, 1) := by decide +kernel
theorem dL_ways_2 : decode cL_ways 2 = .ok (.iload_n 2, 1) := by decide +kernel
theorem dL_ways_3 : decode cL_ways 3 = .ok (.iload_n 3, 1) := by decide +kernel
theorem dL_ways_4 : decode cL_ways 4 = .ok (.iload 4, 2) := by decide +kernel
theorem dL_ways_6 : decode cL_ways 6 = .ok (.invokevirtual 78, 3) := by decide +kernel
theorem dL_ways_9 : decode cL_ways 9 = .ok (.ireturn, 1) := by decide +kernel
theorem dL_ways_10 : decode cL_ways 10 = .ok (.astore 5, 2) := by decide +kernel
theorem dL_ways_12 : decode cL_ways 12 = .ok (.ldc 15, 2) := by decide +kernel
theorem dL_ways_14 : decode cL_ways 14 = .ok (.ireturn, 1) := by decide +kernel
theorem dL_cheapest_0 : decode cL_cheapest 0 = .ok (.aload_n 0, 1) := by decide +kernel
theorem dL_cheapest_1 : decode cL_cheapest 1 = .ok (.iload_n 1, 1) := by decide +kernel
theorem dL_cheapest_2 : decode cL_cheapest 2 = .ok (.iload_n 2, 1) := by decide +kernel
theorem dL_cheapest_3 : decode cL_cheapest 3 = .ok (.iload_n 3, 1) := by decide +kernel
theorem dL_cheapest_4 : decode cL_cheapest 4 = .ok (.iload 4, 2) := by decide +kernel
theorem dL_cheapest_6 : decode cL_cheapest 6 = .ok (.invokevirtual 82, 3) := by decide +kernel
theorem dL_cheapest_9 : decode cL_cheapest 9 = .ok (.ireturn, 1) := by decide +kernel
theorem dL_cheapest_10 : decode cL_cheapest 10 = .ok (.astore 5, 2) := by decide +kernel
theorem dL_cheapest_12 : decode cL_cheapest 12 = .ok (.ldc 15, 2) := by decide +kernel
theorem dL_cheapest_14 : decode cL_cheapest 14 = .ok (.ireturn, 1) := by decide +kernel
theorem dL_needed_0 : decode cL_needed 0 = .ok (.aload_n 0, 1) := by decide +kernel
theorem dL_needed_1 : decode cL_needed 1 = .ok (.iload_n 1, 1) := by decide +kernel
theorem dL_needed_2 : decode cL_needed 2 = .ok (.iload_n 2, 1) := by decide +kernel
theorem dL_needed_3 : decode cL_needed 3 = .ok (.iload_n 3, 1) := by decide +kernel
theorem dL_needed_4 : decode cL_needed 4 = .ok (.iload 4, 2) := by decide +kernel
theorem dL_needed_6 : decode cL_needed 6 = .ok (.invokevirtual 85, 3) := by decide +kernel
theorem dL_needed_9 : decode cL_needed 9 = .ok (.ireturn, 1) := by decide +kernel
theorem dL_needed_10 : decode cL_needed 10 = .ok (.astore 5, 2) := by decide +kernel
theorem dL_needed_12 : decode cL_needed 12 = .ok (.ldc 15, 2) := by decide +kernel
theorem dL_needed_14 : decode cL_needed 14 = .ok (.ireturn, 1) := by decide +kernel
theorem dL_whyNot_0 : decode cL_whyNot 0 = .ok (.aload_n 0, 1) := by decide +kernel
theorem dL_whyNot_1 : decode cL_whyNot 1 = .ok (.iload_n 1, 1) := by decide +kernel
theorem dL_whyNot_2 : decode cL_whyNot 2 = .ok (.iload_n 2, 1) := by decide +kernel
theorem dL_whyNot_3 : decode cL_whyNot 3 = .ok (.iload_n 3, 1) := by decide +kernel
theorem dL_whyNot_4 : decode cL_whyNot 4 = .ok (.iload 4, 2) := by decide +kernel
theorem dL_whyNot_6 : decode cL_whyNot 6 = .ok (.invokevirtual 88, 3) := by decide +kernel
theorem dL_whyNot_9 : decode cL_whyNot 9 = .ok (.ireturn, 1) := by decide +kernel
theorem dL_whyNot_10 : decode cL_whyNot 10 = .ok (.astore 5, 2) := by decide +kernel
theorem dL_whyNot_12 : decode cL_whyNot 12 = .ok (.ldc 15, 2) := by decide +kernel
theorem dL_whyNot_14 : decode cL_whyNot 14 = .ok (.ireturn, 1) := by decide +kernel
theorem dL_whyNot_15 : decode cL_whyNot 15 = .ok (.astore 5, 2) := by decide +kernel
theorem dL_whyNot_17 : decode cL_whyNot 17 = .ok (.ldc 18, 2) := by decide +kernel
theorem dL_whyNot_19 : decode cL_whyNot 19 = .ok (.ireturn, 1) := by decide +kernel
theorem dL_whyNot_20 : decode cL_whyNot 20 = .ok (.astore 5, 2) := by decide +kernel
theorem dL_whyNot_22 : decode cL_whyNot 22 = .ok (.ldc 21, 2) := by decide +kernel
theorem dL_whyNot_24 : decode cL_whyNot 24 = .ok (.ireturn, 1) := by decide +kernel
theorem dL_goals_0 : decode cL_goals 0 = .ok (.aload_n 0, 1) := by decide +kernel
theorem dL_goals_1 : decode cL_goals 1 = .ok (.iload_n 1, 1) := by decide +kernel
theorem dL_goals_2 : decode cL_goals 2 = .ok (.iload_n 2, 1) := by decide +kernel
theorem dL_goals_3 : decode cL_goals 3 = .ok (.iload_n 3, 1) := by decide +kernel
theorem dL_goals_4 : decode cL_goals 4 = .ok (.iload 4, 2) := by decide +kernel
theorem dL_goals_6 : decode cL_goals 6 = .ok (.invokevirtual 91, 3) := by decide +kernel
theorem dL_goals_9 : decode cL_goals 9 = .ok (.ireturn, 1) := by decide +kernel
theorem dL_goals_10 : decode cL_goals 10 = .ok (.astore 5, 2) := by decide +kernel
theorem dL_goals_12 : decode cL_goals 12 = .ok (.ldc 15, 2) := by decide +kernel
theorem dL_goals_14 : decode cL_goals 14 = .ok (.ireturn, 1) := by decide +kernel
theorem dL_goals_15 : decode cL_goals 15 = .ok (.astore 5, 2) := by decide +kernel
theorem dL_goals_17 : decode cL_goals 17 = .ok (.ldc 18, 2) := by decide +kernel
theorem dL_goals_19 : decode cL_goals 19 = .ok (.ireturn, 1) := by decide +kernel
theorem dL_order_0 : decode cL_order 0 = .ok (.aload_n 0, 1) := by decide +kernel
theorem dL_order_1 : decode cL_order 1 = .ok (.iload_n 1, 1) := by decide +kernel
theorem dL_order_2 : decode cL_order 2 = .ok (.iload_n 2, 1) := by decide +kernel
theorem dL_order_3 : decode cL_order 3 = .ok (.invokevirtual 94, 3) := by decide +kernel
theorem dL_order_6 : decode cL_order 6 = .ok (.ireturn, 1) := by decide +kernel
theorem dL_order_7 : decode cL_order 7 = .ok (.astore_n 3, 1) := by decide +kernel
theorem dL_order_8 : decode cL_order 8 = .ok (.ldc 15, 2) := by decide +kernel
theorem dL_order_10 : decode cL_order 10 = .ok (.ireturn, 1) := by decide +kernel
theorem dL_joins_0 : decode cL_joins 0 = .ok (.aload_n 0, 1) := by decide +kernel
theorem dL_joins_1 : decode cL_joins 1 = .ok (.iload_n 1, 1) := by decide +kernel
theorem dL_joins_2 : decode cL_joins 2 = .ok (.invokevirtual 97, 3) := by decide +kernel
theorem dL_joins_5 : decode cL_joins 5 = .ok (.ireturn, 1) := by decide +kernel
theorem dL_joins_6 : decode cL_joins 6 = .ok (.astore_n 2, 1) := by decide +kernel
theorem dL_joins_7 : decode cL_joins 7 = .ok (.ldc 15, 2) := by decide +kernel
theorem dL_joins_9 : decode cL_joins 9 = .ok (.ireturn, 1) := by decide +kernel
theorem dL_indexes_0 : decode cL_indexes 0 = .ok (.aload_n 0, 1) := by decide +kernel
theorem dL_indexes_1 : decode cL_indexes 1 = .ok (.iload_n 1, 1) := by decide +kernel
theorem dL_indexes_2 : decode cL_indexes 2 = .ok (.invokevirtual 100, 3) := by decide +kernel
theorem dL_indexes_5 : decode cL_indexes 5 = .ok (.ireturn, 1) := by decide +kernel
theorem dL_indexes_6 : decode cL_indexes 6 = .ok (.astore_n 2, 1) := by decide +kernel
theorem dL_indexes_7 : decode cL_indexes 7 = .ok (.ldc 15, 2) := by decide +kernel
theorem dL_indexes_9 : decode cL_indexes 9 = .ok (.ireturn, 1) := by decide +kernel
theorem dL_drawn_0 : decode cL_drawn 0 = .ok (.iload_n 1, 1) := by decide +kernel
theorem dL_drawn_1 : decode cL_drawn 1 = .ok (.aload_n 0, 1) := by decide +kernel
theorem dL_drawn_2 : decode cL_drawn 2 = .ok (.arraylength, 1) := by decide +kernel
theorem dL_drawn_3 : decode cL_drawn 3 = .ok (.if_icmp .ge 9, 3) := by decide +kernel
theorem dL_drawn_6 : decode cL_drawn 6 = .ok (.aload_n 0, 1) := by decide +kernel
theorem dL_drawn_7 : decode cL_drawn 7 = .ok (.iload_n 1, 1) := by decide +kernel
theorem dL_drawn_8 : decode cL_drawn 8 = .ok (.iaload, 1) := by decide +kernel
theorem dL_drawn_9 : decode cL_drawn 9 = .ok (.goto 13, 3) := by decide +kernel
theorem dL_drawn_12 : decode cL_drawn 12 = .ok (.ldc 103, 2) := by decide +kernel
theorem dL_drawn_14 : decode cL_drawn 14 = .ok (.iload_n 1, 1) := by decide +kernel
theorem dL_drawn_15 : decode cL_drawn 15 = .ok (.iconst 3, 1) := by decide +kernel
theorem dL_drawn_16 : decode cL_drawn 16 = .ok (.iadd, 1) := by decide +kernel
theorem dL_drawn_17 : decode cL_drawn 17 = .ok (.imul, 1) := by decide +kernel
theorem dL_drawn_18 : decode cL_drawn 18 = .ok (.sipush 14177, 3) := by decide +kernel
theorem dL_drawn_21 : decode cL_drawn 21 = .ok (.iadd, 1) := by decide +kernel
theorem dL_drawn_22 : decode cL_drawn 22 = .ok (.ldc 104, 2) := by decide +kernel
theorem dL_drawn_24 : decode cL_drawn 24 = .ok (.iand, 1) := by decide +kernel
theorem dL_drawn_25 : decode cL_drawn 25 = .ok (.ireturn, 1) := by decide +kernel
theorem dL_refuses_0 : decode cL_refuses 0 = .ok (.iload_n 2, 1) := by decide +kernel
theorem dL_refuses_1 : decode cL_refuses 1 = .ok (.iconst 2, 1) := by decide +kernel
theorem dL_refuses_2 : decode cL_refuses 2 = .ok (.irem, 1) := by decide +kernel
theorem dL_refuses_3 : decode cL_refuses 3 = .ok (.ifCond .ne 7, 3) := by decide +kernel
theorem dL_refuses_6 : decode cL_refuses 6 = .ok (.iconst 1, 1) := by decide +kernel
theorem dL_refuses_7 : decode cL_refuses 7 = .ok (.goto 4, 3) := by decide +kernel
theorem dL_refuses_10 : decode cL_refuses 10 = .ok (.iconst 0, 1) := by decide +kernel
theorem dL_refuses_11 : decode cL_refuses 11 = .ok (.istore_n 3, 1) := by decide +kernel
theorem dL_refuses_12 : decode cL_refuses 12 = .ok (.iload_n 3, 1) := by decide +kernel
theorem dL_refuses_13 : decode cL_refuses 13 = .ok (.ifCond .eq 12, 3) := by decide +kernel
theorem dL_refuses_16 : decode cL_refuses 16 = .ok (.iconst (-1), 1) := by decide +kernel
theorem dL_refuses_17 : decode cL_refuses 17 = .ok (.iload_n 2, 1) := by decide +kernel
theorem dL_refuses_18 : decode cL_refuses 18 = .ok (.bipush 50, 2) := by decide +kernel
theorem dL_refuses_20 : decode cL_refuses 20 = .ok (.irem, 1) := by decide +kernel
theorem dL_refuses_21 : decode cL_refuses 21 = .ok (.isub, 1) := by decide +kernel
theorem dL_refuses_22 : decode cL_refuses 22 = .ok (.goto 9, 3) := by decide +kernel
theorem dL_refuses_25 : decode cL_refuses 25 = .ok (.bipush 6, 2) := by decide +kernel
theorem dL_refuses_27 : decode cL_refuses 27 = .ok (.iload_n 2, 1) := by decide +kernel
theorem dL_refuses_28 : decode cL_refuses 28 = .ok (.iconst 4, 1) := by decide +kernel
theorem dL_refuses_29 : decode cL_refuses 29 = .ok (.irem, 1) := by decide +kernel
theorem dL_refuses_30 : decode cL_refuses 30 = .ok (.iadd, 1) := by decide +kernel
theorem dL_refuses_31 : decode cL_refuses 31 = .ok (.istore 4, 2) := by decide +kernel
theorem dL_refuses_33 : decode cL_refuses 33 = .ok (.iload_n 3, 1) := by decide +kernel
theorem dL_refuses_34 : decode cL_refuses 34 = .ok (.ifCond .eq 12, 3) := by decide +kernel
theorem dL_refuses_37 : decode cL_refuses 37 = .ok (.iconst (-1), 1) := by decide +kernel
theorem dL_refuses_38 : decode cL_refuses 38 = .ok (.iload_n 2, 1) := by decide +kernel
theorem dL_refuses_39 : decode cL_refuses 39 = .ok (.bipush 50, 2) := by decide +kernel
theorem dL_refuses_41 : decode cL_refuses 41 = .ok (.irem, 1) := by decide +kernel
theorem dL_refuses_42 : decode cL_refuses 42 = .ok (.isub, 1) := by decide +kernel
theorem dL_refuses_43 : decode cL_refuses 43 = .ok (.goto 10, 3) := by decide +kernel
theorem dL_refuses_46 : decode cL_refuses 46 = .ok (.bipush 10, 2) := by decide +kernel
theorem dL_refuses_48 : decode cL_refuses 48 = .ok (.iload_n 2, 1) := by decide +kernel
theorem dL_refuses_49 : decode cL_refuses 49 = .ok (.bipush 50, 2) := by decide +kernel
theorem dL_refuses_51 : decode cL_refuses 51 = .ok (.irem, 1) := by decide +kernel
theorem dL_refuses_52 : decode cL_refuses 52 = .ok (.iadd, 1) := by decide +kernel
theorem dL_refuses_53 : decode cL_refuses 53 = .ok (.istore 5, 2) := by decide +kernel
theorem dL_refuses_55 : decode cL_refuses 55 = .ok (.iload_n 3, 1) := by decide +kernel
theorem dL_refuses_56 : decode cL_refuses 56 = .ok (.ifCond .eq 12, 3) := by decide +kernel
theorem dL_refuses_59 : decode cL_refuses 59 = .ok (.iconst (-1), 1) := by decide +kernel
theorem dL_refuses_60 : decode cL_refuses 60 = .ok (.iload_n 2, 1) := by decide +kernel
theorem dL_refuses_61 : decode cL_refuses 61 = .ok (.bipush 50, 2) := by decide +kernel
theorem dL_refuses_63 : decode cL_refuses 63 = .ok (.irem, 1) := by decide +kernel
theorem dL_refuses_64 : decode cL_refuses 64 = .ok (.isub, 1) := by decide +kernel
theorem dL_refuses_65 : decode cL_refuses 65 = .ok (.goto 11, 3) := by decide +kernel
theorem dL_refuses_68 : decode cL_refuses 68 = .ok (.aload_n 1, 1) := by decide +kernel
theorem dL_refuses_69 : decode cL_refuses 69 = .ok (.iconst 0, 1) := by decide +kernel
theorem dL_refuses_70 : decode cL_refuses 70 = .ok (.iaload, 1) := by decide +kernel
theorem dL_refuses_71 : decode cL_refuses 71 = .ok (.iload_n 2, 1) := by decide +kernel
theorem dL_refuses_72 : decode cL_refuses 72 = .ok (.bipush 50, 2) := by decide +kernel
theorem dL_refuses_74 : decode cL_refuses 74 = .ok (.irem, 1) := by decide +kernel
theorem dL_refuses_75 : decode cL_refuses 75 = .ok (.iadd, 1) := by decide +kernel
theorem dL_refuses_76 : decode cL_refuses 76 = .ok (.istore 6, 2) := by decide +kernel
theorem dL_refuses_78 : decode cL_refuses 78 = .ok (.iload_n 3, 1) := by decide +kernel
theorem dL_refuses_79 : decode cL_refuses 79 = .ok (.ifCond .eq 12, 3) := by decide +kernel
theorem dL_refuses_82 : decode cL_refuses 82 = .ok (.iconst (-1), 1) := by decide +kernel
theorem dL_refuses_83 : decode cL_refuses 83 = .ok (.iload_n 2, 1) := by decide +kernel
theorem dL_refuses_84 : decode cL_refuses 84 = .ok (.bipush 50, 2) := by decide +kernel
theorem dL_refuses_86 : decode cL_refuses 86 = .ok (.irem, 1) := by decide +kernel
theorem dL_refuses_87 : decode cL_refuses 87 = .ok (.isub, 1) := by decide +kernel
theorem dL_refuses_88 : decode cL_refuses 88 = .ok (.goto 11, 3) := by decide +kernel
theorem dL_refuses_91 : decode cL_refuses 91 = .ok (.aload_n 1, 1) := by decide +kernel
theorem dL_refuses_92 : decode cL_refuses 92 = .ok (.iconst 1, 1) := by decide +kernel
theorem dL_refuses_93 : decode cL_refuses 93 = .ok (.iaload, 1) := by decide +kernel
theorem dL_refuses_94 : decode cL_refuses 94 = .ok (.iload_n 2, 1) := by decide +kernel
theorem dL_refuses_95 : decode cL_refuses 95 = .ok (.bipush 50, 2) := by decide +kernel
theorem dL_refuses_97 : decode cL_refuses 97 = .ok (.irem, 1) := by decide +kernel
theorem dL_refuses_98 : decode cL_refuses 98 = .ok (.iadd, 1) := by decide +kernel
theorem dL_refuses_99 : decode cL_refuses 99 = .ok (.istore 7, 2) := by decide +kernel
theorem dL_refuses_101 : decode cL_refuses 101 = .ok (.iload_n 3, 1) := by decide +kernel
theorem dL_refuses_102 : decode cL_refuses 102 = .ok (.ifCond .eq 10, 3) := by decide +kernel
theorem dL_refuses_105 : decode cL_refuses 105 = .ok (.bipush (-9), 2) := by decide +kernel
theorem dL_refuses_107 : decode cL_refuses 107 = .ok (.iload_n 2, 1) := by decide +kernel
theorem dL_refuses_108 : decode cL_refuses 108 = .ok (.isub, 1) := by decide +kernel
theorem dL_refuses_109 : decode cL_refuses 109 = .ok (.goto 8, 3) := by decide +kernel
theorem dL_refuses_112 : decode cL_refuses 112 = .ok (.sipush 128, 3) := by decide +kernel
theorem dL_refuses_115 : decode cL_refuses 115 = .ok (.iload_n 2, 1) := by decide +kernel
theorem dL_refuses_116 : decode cL_refuses 116 = .ok (.iadd, 1) := by decide +kernel
theorem dL_refuses_117 : decode cL_refuses 117 = .ok (.istore 8, 2) := by decide +kernel
theorem dL_refuses_119 : decode cL_refuses 119 = .ok (.iload_n 2, 1) := by decide +kernel
theorem dL_refuses_120 : decode cL_refuses 120 = .ok (.iconst 2, 1) := by decide +kernel
theorem dL_refuses_121 : decode cL_refuses 121 = .ok (.idiv, 1) := by decide +kernel
theorem dL_refuses_122 : decode cL_refuses 122 = .ok (.iconst 2, 1) := by decide +kernel
theorem dL_refuses_123 : decode cL_refuses 123 = .ok (.irem, 1) := by decide +kernel
theorem dL_refuses_124 : decode cL_refuses 124 = .ok (.istore 9, 2) := by decide +kernel
theorem dL_refuses_126 : decode cL_refuses 126 = .ok (.aload_n 0, 1) := by decide +kernel
theorem dL_refuses_127 : decode cL_refuses 127 = .ok (.iload 5, 2) := by decide +kernel
theorem dL_refuses_129 : decode cL_refuses 129 = .ok (.iconst 1, 1) := by decide +kernel
theorem dL_refuses_130 : decode cL_refuses 130 = .ok (.iconst 0, 1) := by decide +kernel
theorem dL_refuses_131 : decode cL_refuses 131 = .ok (.iconst 1, 1) := by decide +kernel
theorem dL_refuses_132 : decode cL_refuses 132 = .ok (.invokestatic 105, 3) := by decide +kernel
theorem dL_refuses_135 : decode cL_refuses 135 = .ok (.ldc 15, 2) := by decide +kernel
theorem dL_refuses_137 : decode cL_refuses 137 = .ok (.if_icmp .ne 476, 3) := by decide +kernel
theorem dL_refuses_140 : decode cL_refuses 140 = .ok (.aload_n 0, 1) := by decide +kernel
theorem dL_refuses_141 : decode cL_refuses 141 = .ok (.bipush 9, 2) := by decide +kernel
theorem dL_refuses_143 : decode cL_refuses 143 = .ok (.iconst 1, 1) := by decide +kernel
theorem dL_refuses_144 : decode cL_refuses 144 = .ok (.iconst 4, 1) := by decide +kernel
theorem dL_refuses_145 : decode cL_refuses 145 = .ok (.iload_n 2, 1) := by decide +kernel
theorem dL_refuses_146 : decode cL_refuses 146 = .ok (.iadd, 1) := by decide +kernel
theorem dL_refuses_147 : decode cL_refuses 147 = .ok (.iconst 1, 1) := by decide +kernel
theorem dL_refuses_148 : decode cL_refuses 148 = .ok (.invokestatic 105, 3) := by decide +kernel
theorem dL_refuses_151 : decode cL_refuses 151 = .ok (.ldc 15, 2) := by decide +kernel
theorem dL_refuses_153 : decode cL_refuses 153 = .ok (.if_icmp .ne 460, 3) := by decide +kernel
theorem dL_refuses_156 : decode cL_refuses 156 = .ok (.aload_n 0, 1) := by decide +kernel
theorem dL_refuses_157 : decode cL_refuses 157 = .ok (.bipush 9, 2) := by decide +kernel
theorem dL_refuses_159 : decode cL_refuses 159 = .ok (.iconst 4, 1) := by decide +kernel
theorem dL_refuses_160 : decode cL_refuses 160 = .ok (.iload_n 2, 1) := by decide +kernel
theorem dL_refuses_161 : decode cL_refuses 161 = .ok (.iadd, 1) := by decide +kernel
theorem dL_refuses_162 : decode cL_refuses 162 = .ok (.iconst 0, 1) := by decide +kernel
theorem dL_refuses_163 : decode cL_refuses 163 = .ok (.iconst 1, 1) := by decide +kernel
theorem dL_refuses_164 : decode cL_refuses 164 = .ok (.invokestatic 105, 3) := by decide +kernel
theorem dL_refuses_167 : decode cL_refuses 167 = .ok (.ldc 18, 2) := by decide +kernel
theorem dL_refuses_169 : decode cL_refuses 169 = .ok (.if_icmp .ne 444, 3) := by decide +kernel
theorem dL_refuses_172 : decode cL_refuses 172 = .ok (.aload_n 0, 1) := by decide +kernel
theorem dL_refuses_173 : decode cL_refuses 173 = .ok (.bipush 9, 2) := by decide +kernel
theorem dL_refuses_175 : decode cL_refuses 175 = .ok (.iconst 2, 1) := by decide +kernel
theorem dL_refuses_176 : decode cL_refuses 176 = .ok (.iconst 0, 1) := by decide +kernel
theorem dL_refuses_177 : decode cL_refuses 177 = .ok (.iconst 3, 1) := by decide +kernel
theorem dL_refuses_178 : decode cL_refuses 178 = .ok (.iload_n 2, 1) := by decide +kernel
theorem dL_refuses_179 : decode cL_refuses 179 = .ok (.iadd, 1) := by decide +kernel
theorem dL_refuses_180 : decode cL_refuses 180 = .ok (.invokestatic 105, 3) := by decide +kernel
theorem dL_refuses_183 : decode cL_refuses 183 = .ok (.ldc 18, 2) := by decide +kernel
theorem dL_refuses_185 : decode cL_refuses 185 = .ok (.if_icmp .ne 428, 3) := by decide +kernel
theorem dL_refuses_188 : decode cL_refuses 188 = .ok (.aload_n 0, 1) := by decide +kernel
theorem dL_refuses_189 : decode cL_refuses 189 = .ok (.bipush 9, 2) := by decide +kernel
theorem dL_refuses_191 : decode cL_refuses 191 = .ok (.iconst 2, 1) := by decide +kernel
theorem dL_refuses_192 : decode cL_refuses 192 = .ok (.iconst 1, 1) := by decide +kernel
theorem dL_refuses_193 : decode cL_refuses 193 = .ok (.iconst 2, 1) := by decide +kernel
theorem dL_refuses_194 : decode cL_refuses 194 = .ok (.invokestatic 105, 3) := by decide +kernel
theorem dL_refuses_197 : decode cL_refuses 197 = .ok (.ldc 18, 2) := by decide +kernel
theorem dL_refuses_199 : decode cL_refuses 199 = .ok (.if_icmp .ne 414, 3) := by decide +kernel
theorem dL_refuses_202 : decode cL_refuses 202 = .ok (.aload_n 0, 1) := by decide +kernel
theorem dL_refuses_203 : decode cL_refuses 203 = .ok (.iload_n 2, 1) := by decide +kernel
theorem dL_refuses_204 : decode cL_refuses 204 = .ok (.bipush 6, 2) := by decide +kernel
theorem dL_refuses_206 : decode cL_refuses 206 = .ok (.irem, 1) := by decide +kernel
theorem dL_refuses_207 : decode cL_refuses 207 = .ok (.iconst 1, 1) := by decide +kernel
theorem dL_refuses_208 : decode cL_refuses 208 = .ok (.iconst 0, 1) := by decide +kernel
theorem dL_refuses_209 : decode cL_refuses 209 = .ok (.iconst 1, 1) := by decide +kernel
theorem dL_refuses_210 : decode cL_refuses 210 = .ok (.invokestatic 105, 3) := by decide +kernel
theorem dL_refuses_213 : decode cL_refuses 213 = .ok (.ldc 21, 2) := by decide +kernel
theorem dL_refuses_215 : decode cL_refuses 215 = .ok (.if_icmp .ne 398, 3) := by decide +kernel
theorem dL_refuses_218 : decode cL_refuses 218 = .ok (.aload_n 0, 1) := by decide +kernel
theorem dL_refuses_219 : decode cL_refuses 219 = .ok (.iload 4, 2) := by decide +kernel
theorem dL_refuses_221 : decode cL_refuses 221 = .ok (.iconst 0, 1) := by decide +kernel
theorem dL_refuses_222 : decode cL_refuses 222 = .ok (.iconst 0, 1) := by decide +kernel
theorem dL_refuses_223 : decode cL_refuses 223 = .ok (.iconst 0, 1) := by decide +kernel
theorem dL_refuses_224 : decode cL_refuses 224 = .ok (.iconst 0, 1) := by decide +kernel
theorem dL_refuses_225 : decode cL_refuses 225 = .ok (.iconst 0, 1) := by decide +kernel
theorem dL_refuses_226 : decode cL_refuses 226 = .ok (.iconst 0, 1) := by decide +kernel
theorem dL_refuses_227 : decode cL_refuses 227 = .ok (.invokestatic 111, 3) := by decide +kernel
theorem dL_refuses_230 : decode cL_refuses 230 = .ok (.ldc 15, 2) := by decide +kernel
theorem dL_refuses_232 : decode cL_refuses 232 = .ok (.if_icmp .ne 381, 3) := by decide +kernel
theorem dL_refuses_235 : decode cL_refuses 235 = .ok (.aload_n 0, 1) := by decide +kernel
theorem dL_refuses_236 : decode cL_refuses 236 = .ok (.iload 9, 2) := by decide +kernel
theorem dL_refuses_238 : decode cL_refuses 238 = .ok (.iload 8, 2) := by decide +kernel
theorem dL_refuses_240 : decode cL_refuses 240 = .ok (.iconst 0, 1) := by decide +kernel
theorem dL_refuses_241 : decode cL_refuses 241 = .ok (.iconst 0, 1) := by decide +kernel
theorem dL_refuses_242 : decode cL_refuses 242 = .ok (.iconst 1, 1) := by decide +kernel
theorem dL_refuses_243 : decode cL_refuses 243 = .ok (.iconst 0, 1) := by decide +kernel
theorem dL_refuses_244 : decode cL_refuses 244 = .ok (.iconst 0, 1) := by decide +kernel
theorem dL_refuses_245 : decode cL_refuses 245 = .ok (.invokestatic 111, 3) := by decide +kernel
theorem dL_refuses_248 : decode cL_refuses 248 = .ok (.ldc 18, 2) := by decide +kernel
theorem dL_refuses_250 : decode cL_refuses 250 = .ok (.if_icmp .ne 363, 3) := by decide +kernel
theorem dL_refuses_253 : decode cL_refuses 253 = .ok (.aload_n 0, 1) := by decide +kernel
theorem dL_refuses_254 : decode cL_refuses 254 = .ok (.iload 9, 2) := by decide +kernel
theorem dL_refuses_256 : decode cL_refuses 256 = .ok (.iconst 0, 1) := by decide +kernel
theorem dL_refuses_257 : decode cL_refuses 257 = .ok (.iconst 0, 1) := by decide +kernel
theorem dL_refuses_258 : decode cL_refuses 258 = .ok (.iconst 1, 1) := by decide +kernel
theorem dL_refuses_259 : decode cL_refuses 259 = .ok (.iload_n 2, 1) := by decide +kernel
theorem dL_refuses_260 : decode cL_refuses 260 = .ok (.bipush 100, 2) := by decide +kernel
theorem dL_refuses_262 : decode cL_refuses 262 = .ok (.irem, 1) := by decide +kernel
theorem dL_refuses_263 : decode cL_refuses 263 = .ok (.iadd, 1) := by decide +kernel
theorem dL_refuses_264 : decode cL_refuses 264 = .ok (.iconst 1, 1) := by decide +kernel
theorem dL_refuses_265 : decode cL_refuses 265 = .ok (.iconst 0, 1) := by decide +kernel
theorem dL_refuses_266 : decode cL_refuses 266 = .ok (.iconst 0, 1) := by decide +kernel
theorem dL_refuses_267 : decode cL_refuses 267 = .ok (.invokestatic 111, 3) := by decide +kernel
theorem dL_refuses_270 : decode cL_refuses 270 = .ok (.ldc 18, 2) := by decide +kernel
theorem dL_refuses_272 : decode cL_refuses 272 = .ok (.if_icmp .ne 341, 3) := by decide +kernel
theorem dL_refuses_275 : decode cL_refuses 275 = .ok (.aload_n 0, 1) := by decide +kernel
theorem dL_refuses_276 : decode cL_refuses 276 = .ok (.iload 9, 2) := by decide +kernel
theorem dL_refuses_278 : decode cL_refuses 278 = .ok (.iconst 0, 1) := by decide +kernel
theorem dL_refuses_279 : decode cL_refuses 279 = .ok (.iconst 0, 1) := by decide +kernel
theorem dL_refuses_280 : decode cL_refuses 280 = .ok (.iconst 0, 1) := by decide +kernel
theorem dL_refuses_281 : decode cL_refuses 281 = .ok (.bipush 101, 2) := by decide +kernel
theorem dL_refuses_283 : decode cL_refuses 283 = .ok (.iload_n 2, 1) := by decide +kernel
theorem dL_refuses_284 : decode cL_refuses 284 = .ok (.iadd, 1) := by decide +kernel
theorem dL_refuses_285 : decode cL_refuses 285 = .ok (.iconst 0, 1) := by decide +kernel
theorem dL_refuses_286 : decode cL_refuses 286 = .ok (.iconst 0, 1) := by decide +kernel
theorem dL_refuses_287 : decode cL_refuses 287 = .ok (.invokestatic 111, 3) := by decide +kernel
theorem dL_refuses_290 : decode cL_refuses 290 = .ok (.ldc 18, 2) := by decide +kernel
theorem dL_refuses_292 : decode cL_refuses 292 = .ok (.if_icmp .ne 321, 3) := by decide +kernel
theorem dL_refuses_295 : decode cL_refuses 295 = .ok (.aload_n 0, 1) := by decide +kernel
theorem dL_refuses_296 : decode cL_refuses 296 = .ok (.iload 9, 2) := by decide +kernel
theorem dL_refuses_298 : decode cL_refuses 298 = .ok (.iconst 0, 1) := by decide +kernel
theorem dL_refuses_299 : decode cL_refuses 299 = .ok (.iconst 0, 1) := by decide +kernel
theorem dL_refuses_300 : decode cL_refuses 300 = .ok (.iconst 0, 1) := by decide +kernel
theorem dL_refuses_301 : decode cL_refuses 301 = .ok (.iload_n 2, 1) := by decide +kernel
theorem dL_refuses_302 : decode cL_refuses 302 = .ok (.ineg, 1) := by decide +kernel
theorem dL_refuses_303 : decode cL_refuses 303 = .ok (.iconst 0, 1) := by decide +kernel
theorem dL_refuses_304 : decode cL_refuses 304 = .ok (.iconst 0, 1) := by decide +kernel
theorem dL_refuses_305 : decode cL_refuses 305 = .ok (.invokestatic 111, 3) := by decide +kernel
theorem dL_refuses_308 : decode cL_refuses 308 = .ok (.ldc 18, 2) := by decide +kernel
theorem dL_refuses_310 : decode cL_refuses 310 = .ok (.if_icmp .ne 303, 3) := by decide +kernel
theorem dL_refuses_313 : decode cL_refuses 313 = .ok (.aload_n 0, 1) := by decide +kernel
theorem dL_refuses_314 : decode cL_refuses 314 = .ok (.iload 9, 2) := by decide +kernel
theorem dL_refuses_316 : decode cL_refuses 316 = .ok (.iconst 0, 1) := by decide +kernel
theorem dL_refuses_317 : decode cL_refuses 317 = .ok (.iconst 0, 1) := by decide +kernel
theorem dL_refuses_318 : decode cL_refuses 318 = .ok (.iconst 0, 1) := by decide +kernel
theorem dL_refuses_319 : decode cL_refuses 319 = .ok (.iconst 1, 1) := by decide +kernel
theorem dL_refuses_320 : decode cL_refuses 320 = .ok (.iconst 4, 1) := by decide +kernel
theorem dL_refuses_321 : decode cL_refuses 321 = .ok (.iload_n 2, 1) := by decide +kernel
theorem dL_refuses_322 : decode cL_refuses 322 = .ok (.iadd, 1) := by decide +kernel
theorem dL_refuses_323 : decode cL_refuses 323 = .ok (.iconst 4, 1) := by decide +kernel
theorem dL_refuses_324 : decode cL_refuses 324 = .ok (.iload_n 2, 1) := by decide +kernel
theorem dL_refuses_325 : decode cL_refuses 325 = .ok (.iadd, 1) := by decide +kernel
theorem dL_refuses_326 : decode cL_refuses 326 = .ok (.invokestatic 111, 3) := by decide +kernel
theorem dL_refuses_329 : decode cL_refuses 329 = .ok (.ldc 18, 2) := by decide +kernel
theorem dL_refuses_331 : decode cL_refuses 331 = .ok (.if_icmp .ne 282, 3) := by decide +kernel
theorem dL_refuses_334 : decode cL_refuses 334 = .ok (.aload_n 0, 1) := by decide +kernel
theorem dL_refuses_335 : decode cL_refuses 335 = .ok (.iload 9, 2) := by decide +kernel
theorem dL_refuses_337 : decode cL_refuses 337 = .ok (.iconst 0, 1) := by decide +kernel
theorem dL_refuses_338 : decode cL_refuses 338 = .ok (.iconst 0, 1) := by decide +kernel
theorem dL_refuses_339 : decode cL_refuses 339 = .ok (.iconst 0, 1) := by decide +kernel
theorem dL_refuses_340 : decode cL_refuses 340 = .ok (.iconst 1, 1) := by decide +kernel
theorem dL_refuses_341 : decode cL_refuses 341 = .ok (.iconst 2, 1) := by decide +kernel
theorem dL_refuses_342 : decode cL_refuses 342 = .ok (.iconst 1, 1) := by decide +kernel
theorem dL_refuses_343 : decode cL_refuses 343 = .ok (.invokestatic 111, 3) := by decide +kernel
theorem dL_refuses_346 : decode cL_refuses 346 = .ok (.ldc 18, 2) := by decide +kernel
theorem dL_refuses_348 : decode cL_refuses 348 = .ok (.if_icmp .ne 265, 3) := by decide +kernel
theorem dL_refuses_351 : decode cL_refuses 351 = .ok (.aload_n 0, 1) := by decide +kernel
theorem dL_refuses_352 : decode cL_refuses 352 = .ok (.iload 6, 2) := by decide +kernel
theorem dL_refuses_354 : decode cL_refuses 354 = .ok (.invokestatic 115, 3) := by decide +kernel
theorem dL_refuses_357 : decode cL_refuses 357 = .ok (.ldc 15, 2) := by decide +kernel
theorem dL_refuses_359 : decode cL_refuses 359 = .ok (.if_icmp .ne 254, 3) := by decide +kernel
theorem dL_refuses_362 : decode cL_refuses 362 = .ok (.aload_n 0, 1) := by decide +kernel
theorem dL_refuses_363 : decode cL_refuses 363 = .ok (.iload 4, 2) := by decide +kernel
theorem dL_refuses_365 : decode cL_refuses 365 = .ok (.iconst 0, 1) := by decide +kernel
theorem dL_refuses_366 : decode cL_refuses 366 = .ok (.iconst 0, 1) := by decide +kernel
theorem dL_refuses_367 : decode cL_refuses 367 = .ok (.iconst 0, 1) := by decide +kernel
theorem dL_refuses_368 : decode cL_refuses 368 = .ok (.invokestatic 119, 3) := by decide +kernel
theorem dL_refuses_371 : decode cL_refuses 371 = .ok (.ldc 15, 2) := by decide +kernel
theorem dL_refuses_373 : decode cL_refuses 373 = .ok (.if_icmp .ne 240, 3) := by decide +kernel
theorem dL_refuses_376 : decode cL_refuses 376 = .ok (.aload_n 0, 1) := by decide +kernel
theorem dL_refuses_377 : decode cL_refuses 377 = .ok (.iload 9, 2) := by decide +kernel
theorem dL_refuses_379 : decode cL_refuses 379 = .ok (.iload 8, 2) := by decide +kernel
theorem dL_refuses_381 : decode cL_refuses 381 = .ok (.iconst 0, 1) := by decide +kernel
theorem dL_refuses_382 : decode cL_refuses 382 = .ok (.iconst 0, 1) := by decide +kernel
theorem dL_refuses_383 : decode cL_refuses 383 = .ok (.invokestatic 119, 3) := by decide +kernel
theorem dL_refuses_386 : decode cL_refuses 386 = .ok (.ldc 18, 2) := by decide +kernel
theorem dL_refuses_388 : decode cL_refuses 388 = .ok (.if_icmp .ne 225, 3) := by decide +kernel
theorem dL_refuses_391 : decode cL_refuses 391 = .ok (.aload_n 0, 1) := by decide +kernel
theorem dL_refuses_392 : decode cL_refuses 392 = .ok (.iconst 2, 1) := by decide +kernel
theorem dL_refuses_393 : decode cL_refuses 393 = .ok (.iconst (-1), 1) := by decide +kernel
theorem dL_refuses_394 : decode cL_refuses 394 = .ok (.iconst 1, 1) := by decide +kernel
theorem dL_refuses_395 : decode cL_refuses 395 = .ok (.iconst 0, 1) := by decide +kernel
theorem dL_refuses_396 : decode cL_refuses 396 = .ok (.invokestatic 119, 3) := by decide +kernel
theorem dL_refuses_399 : decode cL_refuses 399 = .ok (.ldc 18, 2) := by decide +kernel
theorem dL_refuses_401 : decode cL_refuses 401 = .ok (.if_icmp .ne 212, 3) := by decide +kernel
theorem dL_refuses_404 : decode cL_refuses 404 = .ok (.aload_n 0, 1) := by decide +kernel
theorem dL_refuses_405 : decode cL_refuses 405 = .ok (.iload 4, 2) := by decide +kernel
theorem dL_refuses_407 : decode cL_refuses 407 = .ok (.iconst 1, 1) := by decide +kernel
theorem dL_refuses_408 : decode cL_refuses 408 = .ok (.iconst 0, 1) := by decide +kernel
theorem dL_refuses_409 : decode cL_refuses 409 = .ok (.iconst 0, 1) := by decide +kernel
theorem dL_refuses_410 : decode cL_refuses 410 = .ok (.iconst 0, 1) := by decide +kernel
theorem dL_refuses_411 : decode cL_refuses 411 = .ok (.invokestatic 122, 3) := by decide +kernel
theorem dL_refuses_414 : decode cL_refuses 414 = .ok (.ldc 15, 2) := by decide +kernel
theorem dL_refuses_416 : decode cL_refuses 416 = .ok (.if_icmp .ne 197, 3) := by decide +kernel
theorem dL_refuses_419 : decode cL_refuses 419 = .ok (.aload_n 0, 1) := by decide +kernel
theorem dL_refuses_420 : decode cL_refuses 420 = .ok (.iload 9, 2) := by decide +kernel
theorem dL_refuses_422 : decode cL_refuses 422 = .ok (.iconst 1, 1) := by decide +kernel
theorem dL_refuses_423 : decode cL_refuses 423 = .ok (.iconst 0, 1) := by decide +kernel
theorem dL_refuses_424 : decode cL_refuses 424 = .ok (.iload 8, 2) := by decide +kernel
theorem dL_refuses_426 : decode cL_refuses 426 = .ok (.iconst 0, 1) := by decide +kernel
theorem dL_refuses_427 : decode cL_refuses 427 = .ok (.invokestatic 122, 3) := by decide +kernel
theorem dL_refuses_430 : decode cL_refuses 430 = .ok (.ldc 18, 2) := by decide +kernel
theorem dL_refuses_432 : decode cL_refuses 432 = .ok (.if_icmp .ne 181, 3) := by decide +kernel
theorem dL_refuses_435 : decode cL_refuses 435 = .ok (.aload_n 0, 1) := by decide +kernel
theorem dL_refuses_436 : decode cL_refuses 436 = .ok (.iconst 4, 1) := by decide +kernel
theorem dL_refuses_437 : decode cL_refuses 437 = .ok (.iload_n 2, 1) := by decide +kernel
theorem dL_refuses_438 : decode cL_refuses 438 = .ok (.iadd, 1) := by decide +kernel
theorem dL_refuses_439 : decode cL_refuses 439 = .ok (.iconst 0, 1) := by decide +kernel
theorem dL_refuses_440 : decode cL_refuses 440 = .ok (.iconst 0, 1) := by decide +kernel
theorem dL_refuses_441 : decode cL_refuses 441 = .ok (.invokestatic 126, 3) := by decide +kernel
theorem dL_refuses_444 : decode cL_refuses 444 = .ok (.ldc 15, 2) := by decide +kernel
theorem dL_refuses_446 : decode cL_refuses 446 = .ok (.if_icmp .ne 167, 3) := by decide +kernel
theorem dL_refuses_449 : decode cL_refuses 449 = .ok (.aload_n 0, 1) := by decide +kernel
theorem dL_refuses_450 : decode cL_refuses 450 = .ok (.iload_n 2, 1) := by decide +kernel
theorem dL_refuses_451 : decode cL_refuses 451 = .ok (.iconst 4, 1) := by decide +kernel
theorem dL_refuses_452 : decode cL_refuses 452 = .ok (.irem, 1) := by decide +kernel
theorem dL_refuses_453 : decode cL_refuses 453 = .ok (.iload 8, 2) := by decide +kernel
theorem dL_refuses_455 : decode cL_refuses 455 = .ok (.iconst 0, 1) := by decide +kernel
theorem dL_refuses_456 : decode cL_refuses 456 = .ok (.invokestatic 126, 3) := by decide +kernel
theorem dL_refuses_459 : decode cL_refuses 459 = .ok (.ldc 18, 2) := by decide +kernel
theorem dL_refuses_461 : decode cL_refuses 461 = .ok (.if_icmp .ne 152, 3) := by decide +kernel
theorem dL_refuses_464 : decode cL_refuses 464 = .ok (.aload_n 0, 1) := by decide +kernel
theorem dL_refuses_465 : decode cL_refuses 465 = .ok (.iconst 0, 1) := by decide +kernel
theorem dL_refuses_466 : decode cL_refuses 466 = .ok (.iload 8, 2) := by decide +kernel
theorem dL_refuses_468 : decode cL_refuses 468 = .ok (.iconst 0, 1) := by decide +kernel
theorem dL_refuses_469 : decode cL_refuses 469 = .ok (.invokestatic 130, 3) := by decide +kernel
theorem dL_refuses_472 : decode cL_refuses 472 = .ok (.ldc 18, 2) := by decide +kernel
theorem dL_refuses_474 : decode cL_refuses 474 = .ok (.if_icmp .ne 139, 3) := by decide +kernel
theorem dL_refuses_477 : decode cL_refuses 477 = .ok (.aload_n 0, 1) := by decide +kernel
theorem dL_refuses_478 : decode cL_refuses 478 = .ok (.iload 7, 2) := by decide +kernel
theorem dL_refuses_480 : decode cL_refuses 480 = .ok (.invokestatic 133, 3) := by decide +kernel
theorem dL_refuses_483 : decode cL_refuses 483 = .ok (.ldc 15, 2) := by decide +kernel
theorem dL_refuses_485 : decode cL_refuses 485 = .ok (.if_icmp .ne 128, 3) := by decide +kernel
theorem dL_refuses_488 : decode cL_refuses 488 = .ok (.aload_n 1, 1) := by decide +kernel
theorem dL_refuses_489 : decode cL_refuses 489 = .ok (.iconst 3, 1) := by decide +kernel
theorem dL_refuses_490 : decode cL_refuses 490 = .ok (.iaload, 1) := by decide +kernel
theorem dL_refuses_491 : decode cL_refuses 491 = .ok (.iconst 5, 1) := by decide +kernel
theorem dL_refuses_492 : decode cL_refuses 492 = .ok (.if_icmp .lt 41, 3) := by decide +kernel
theorem dL_refuses_495 : decode cL_refuses 495 = .ok (.aload_n 0, 1) := by decide +kernel
theorem dL_refuses_496 : decode cL_refuses 496 = .ok (.iconst 0, 1) := by decide +kernel
theorem dL_refuses_497 : decode cL_refuses 497 = .ok (.iconst 0, 1) := by decide +kernel
theorem dL_refuses_498 : decode cL_refuses 498 = .ok (.iconst 0, 1) := by decide +kernel
theorem dL_refuses_499 : decode cL_refuses 499 = .ok (.invokestatic 126, 3) := by decide +kernel
theorem dL_refuses_502 : decode cL_refuses 502 = .ok (.ldc 21, 2) := by decide +kernel
theorem dL_refuses_504 : decode cL_refuses 504 = .ok (.if_icmp .ne 109, 3) := by decide +kernel
theorem dL_refuses_507 : decode cL_refuses 507 = .ok (.aload_n 0, 1) := by decide +kernel
theorem dL_refuses_508 : decode cL_refuses 508 = .ok (.iconst 0, 1) := by decide +kernel
theorem dL_refuses_509 : decode cL_refuses 509 = .ok (.iconst 0, 1) := by decide +kernel
theorem dL_refuses_510 : decode cL_refuses 510 = .ok (.iconst 0, 1) := by decide +kernel
theorem dL_refuses_511 : decode cL_refuses 511 = .ok (.invokestatic 130, 3) := by decide +kernel
theorem dL_refuses_514 : decode cL_refuses 514 = .ok (.ldc 21, 2) := by decide +kernel
theorem dL_refuses_516 : decode cL_refuses 516 = .ok (.if_icmp .ne 97, 3) := by decide +kernel
theorem dL_refuses_519 : decode cL_refuses 519 = .ok (.aload_n 0, 1) := by decide +kernel
theorem dL_refuses_520 : decode cL_refuses 520 = .ok (.iconst 2, 1) := by decide +kernel
theorem dL_refuses_521 : decode cL_refuses 521 = .ok (.iconst 0, 1) := by decide +kernel
theorem dL_refuses_522 : decode cL_refuses 522 = .ok (.iconst 0, 1) := by decide +kernel
theorem dL_refuses_523 : decode cL_refuses 523 = .ok (.iconst 0, 1) := by decide +kernel
theorem dL_refuses_524 : decode cL_refuses 524 = .ok (.iconst 0, 1) := by decide +kernel
theorem dL_refuses_525 : decode cL_refuses 525 = .ok (.invokestatic 122, 3) := by decide +kernel
theorem dL_refuses_528 : decode cL_refuses 528 = .ok (.ldc 21, 2) := by decide +kernel
theorem dL_refuses_530 : decode cL_refuses 530 = .ok (.if_icmp .ne 83, 3) := by decide +kernel
theorem dL_refuses_533 : decode cL_refuses 533 = .ok (.aload_n 1, 1) := by decide +kernel
theorem dL_refuses_534 : decode cL_refuses 534 = .ok (.iconst 4, 1) := by decide +kernel
theorem dL_refuses_535 : decode cL_refuses 535 = .ok (.iaload, 1) := by decide +kernel
theorem dL_refuses_536 : decode cL_refuses 536 = .ok (.iconst 3, 1) := by decide +kernel
theorem dL_refuses_537 : decode cL_refuses 537 = .ok (.if_icmp .lt 17, 3) := by decide +kernel
theorem dL_refuses_540 : decode cL_refuses 540 = .ok (.aload_n 0, 1) := by decide +kernel
theorem dL_refuses_541 : decode cL_refuses 541 = .ok (.iconst 2, 1) := by decide +kernel
theorem dL_refuses_542 : decode cL_refuses 542 = .ok (.iconst 1, 1) := by decide +kernel
theorem dL_refuses_543 : decode cL_refuses 543 = .ok (.iconst 0, 1) := by decide +kernel
theorem dL_refuses_544 : decode cL_refuses 544 = .ok (.iconst 0, 1) := by decide +kernel
theorem dL_refuses_545 : decode cL_refuses 545 = .ok (.iconst 0, 1) := by decide +kernel
theorem dL_refuses_546 : decode cL_refuses 546 = .ok (.invokestatic 122, 3) := by decide +kernel
theorem dL_refuses_549 : decode cL_refuses 549 = .ok (.ldc 21, 2) := by decide +kernel
theorem dL_refuses_551 : decode cL_refuses 551 = .ok (.if_icmp .ne 62, 3) := by decide +kernel
theorem dL_refuses_554 : decode cL_refuses 554 = .ok (.aload_n 1, 1) := by decide +kernel
theorem dL_refuses_555 : decode cL_refuses 555 = .ok (.iconst 3, 1) := by decide +kernel
theorem dL_refuses_556 : decode cL_refuses 556 = .ok (.iaload, 1) := by decide +kernel
theorem dL_refuses_557 : decode cL_refuses 557 = .ok (.ifCond .gt 12, 3) := by decide +kernel
theorem dL_refuses_560 : decode cL_refuses 560 = .ok (.aload_n 0, 1) := by decide +kernel
theorem dL_refuses_561 : decode cL_refuses 561 = .ok (.invokestatic 136, 3) := by decide +kernel
theorem dL_refuses_564 : decode cL_refuses 564 = .ok (.ldc 18, 2) := by decide +kernel
theorem dL_refuses_566 : decode cL_refuses 566 = .ok (.if_icmp .ne 47, 3) := by decide +kernel
theorem dL_refuses_569 : decode cL_refuses 569 = .ok (.aload_n 1, 1) := by decide +kernel
theorem dL_refuses_570 : decode cL_refuses 570 = .ok (.iconst 5, 1) := by decide +kernel
theorem dL_refuses_571 : decode cL_refuses 571 = .ok (.iaload, 1) := by decide +kernel
theorem dL_refuses_572 : decode cL_refuses 572 = .ok (.iconst 3, 1) := by decide +kernel
theorem dL_refuses_573 : decode cL_refuses 573 = .ok (.if_icmp .lt 12, 3) := by decide +kernel
theorem dL_refuses_576 : decode cL_refuses 576 = .ok (.aload_n 0, 1) := by decide +kernel
theorem dL_refuses_577 : decode cL_refuses 577 = .ok (.invokestatic 140, 3) := by decide +kernel
theorem dL_refuses_580 : decode cL_refuses 580 = .ok (.ldc 21, 2) := by decide +kernel
theorem dL_refuses_582 : decode cL_refuses 582 = .ok (.if_icmp .ne 31, 3) := by decide +kernel
theorem dL_refuses_585 : decode cL_refuses 585 = .ok (.aload_n 1, 1) := by decide +kernel
theorem dL_refuses_586 : decode cL_refuses 586 = .ok (.iconst 0, 1) := by decide +kernel
theorem dL_refuses_587 : decode cL_refuses 587 = .ok (.iaload, 1) := by decide +kernel
theorem dL_refuses_588 : decode cL_refuses 588 = .ok (.bipush 24, 2) := by decide +kernel
theorem dL_refuses_590 : decode cL_refuses 590 = .ok (.if_icmp .lt 19, 3) := by decide +kernel
theorem dL_refuses_593 : decode cL_refuses 593 = .ok (.aload_n 0, 1) := by decide +kernel
theorem dL_refuses_594 : decode cL_refuses 594 = .ok (.iconst 2, 1) := by decide +kernel
theorem dL_refuses_595 : decode cL_refuses 595 = .ok (.iconst 1, 1) := by decide +kernel
theorem dL_refuses_596 : decode cL_refuses 596 = .ok (.iconst 0, 1) := by decide +kernel
theorem dL_refuses_597 : decode cL_refuses 597 = .ok (.iconst 0, 1) := by decide +kernel
theorem dL_refuses_598 : decode cL_refuses 598 = .ok (.iconst 1, 1) := by decide +kernel
theorem dL_refuses_599 : decode cL_refuses 599 = .ok (.iconst 0, 1) := by decide +kernel
theorem dL_refuses_600 : decode cL_refuses 600 = .ok (.iconst 0, 1) := by decide +kernel
theorem dL_refuses_601 : decode cL_refuses 601 = .ok (.invokestatic 111, 3) := by decide +kernel
theorem dL_refuses_604 : decode cL_refuses 604 = .ok (.ldc 21, 2) := by decide +kernel
theorem dL_refuses_606 : decode cL_refuses 606 = .ok (.if_icmp .ne 7, 3) := by decide +kernel
theorem dL_refuses_609 : decode cL_refuses 609 = .ok (.iconst 1, 1) := by decide +kernel
theorem dL_refuses_610 : decode cL_refuses 610 = .ok (.goto 4, 3) := by decide +kernel
theorem dL_refuses_613 : decode cL_refuses 613 = .ok (.iconst 0, 1) := by decide +kernel
theorem dL_refuses_614 : decode cL_refuses 614 = .ok (.istore 10, 2) := by decide +kernel
theorem dL_refuses_616 : decode cL_refuses 616 = .ok (.iload 10, 2) := by decide +kernel
theorem dL_refuses_618 : decode cL_refuses 618 = .ok (.ifCond .eq 378, 3) := by decide +kernel
theorem dL_refuses_621 : decode cL_refuses 621 = .ok (.aload_n 0, 1) := by decide +kernel
theorem dL_refuses_622 : decode cL_refuses 622 = .ok (.iload 4, 2) := by decide +kernel
theorem dL_refuses_624 : decode cL_refuses 624 = .ok (.iconst 0, 1) := by decide +kernel
theorem dL_refuses_625 : decode cL_refuses 625 = .ok (.iconst 0, 1) := by decide +kernel
theorem dL_refuses_626 : decode cL_refuses 626 = .ok (.iconst 0, 1) := by decide +kernel
theorem dL_refuses_627 : decode cL_refuses 627 = .ok (.invokestatic 143, 3) := by decide +kernel
theorem dL_refuses_630 : decode cL_refuses 630 = .ok (.ldc 15, 2) := by decide +kernel
theorem dL_refuses_632 : decode cL_refuses 632 = .ok (.if_icmp .ne 364, 3) := by decide +kernel
theorem dL_refuses_635 : decode cL_refuses 635 = .ok (.aload_n 0, 1) := by decide +kernel
theorem dL_refuses_636 : decode cL_refuses 636 = .ok (.iload 9, 2) := by decide +kernel
theorem dL_refuses_638 : decode cL_refuses 638 = .ok (.iload 8, 2) := by decide +kernel
theorem dL_refuses_640 : decode cL_refuses 640 = .ok (.iconst 0, 1) := by decide +kernel
theorem dL_refuses_641 : decode cL_refuses 641 = .ok (.iconst 0, 1) := by decide +kernel
theorem dL_refuses_642 : decode cL_refuses 642 = .ok (.invokestatic 143, 3) := by decide +kernel
theorem dL_refuses_645 : decode cL_refuses 645 = .ok (.ifCond .ne 351, 3) := by decide +kernel
theorem dL_refuses_648 : decode cL_refuses 648 = .ok (.aload_n 0, 1) := by decide +kernel
theorem dL_refuses_649 : decode cL_refuses 649 = .ok (.iload 4, 2) := by decide +kernel
theorem dL_refuses_651 : decode cL_refuses 651 = .ok (.iconst 0, 1) := by decide +kernel
theorem dL_refuses_652 : decode cL_refuses 652 = .ok (.iconst 0, 1) := by decide +kernel
theorem dL_refuses_653 : decode cL_refuses 653 = .ok (.iconst 0, 1) := by decide +kernel
theorem dL_refuses_654 : decode cL_refuses 654 = .ok (.bipush 9, 2) := by decide +kernel
theorem dL_refuses_656 : decode cL_refuses 656 = .ok (.invokestatic 145, 3) := by decide +kernel
theorem dL_refuses_659 : decode cL_refuses 659 = .ok (.ldc 15, 2) := by decide +kernel
theorem dL_refuses_661 : decode cL_refuses 661 = .ok (.if_icmp .ne 335, 3) := by decide +kernel
theorem dL_refuses_664 : decode cL_refuses 664 = .ok (.aload_n 0, 1) := by decide +kernel
theorem dL_refuses_665 : decode cL_refuses 665 = .ok (.iload 9, 2) := by decide +kernel
theorem dL_refuses_667 : decode cL_refuses 667 = .ok (.iconst 0, 1) := by decide +kernel
theorem dL_refuses_668 : decode cL_refuses 668 = .ok (.iconst 0, 1) := by decide +kernel
theorem dL_refuses_669 : decode cL_refuses 669 = .ok (.iconst 0, 1) := by decide +kernel
theorem dL_refuses_670 : decode cL_refuses 670 = .ok (.iload_n 3, 1) := by decide +kernel
theorem dL_refuses_671 : decode cL_refuses 671 = .ok (.ifCond .eq 9, 3) := by decide +kernel
theorem dL_refuses_674 : decode cL_refuses 674 = .ok (.iconst (-1), 1) := by decide +kernel
theorem dL_refuses_675 : decode cL_refuses 675 = .ok (.iload_n 2, 1) := by decide +kernel
theorem dL_refuses_676 : decode cL_refuses 676 = .ok (.isub, 1) := by decide +kernel
theorem dL_refuses_677 : decode cL_refuses 677 = .ok (.goto 6, 3) := by decide +kernel
theorem dL_refuses_680 : decode cL_refuses 680 = .ok (.iconst 4, 1) := by decide +kernel
theorem dL_refuses_681 : decode cL_refuses 681 = .ok (.iload_n 2, 1) := by decide +kernel
theorem dL_refuses_682 : decode cL_refuses 682 = .ok (.iadd, 1) := by decide +kernel
theorem dL_refuses_683 : decode cL_refuses 683 = .ok (.invokestatic 145, 3) := by decide +kernel
theorem dL_refuses_686 : decode cL_refuses 686 = .ok (.ldc 18, 2) := by decide +kernel
theorem dL_refuses_688 : decode cL_refuses 688 = .ok (.if_icmp .ne 308, 3) := by decide +kernel
theorem dL_refuses_691 : decode cL_refuses 691 = .ok (.aload_n 0, 1) := by decide +kernel
theorem dL_refuses_692 : decode cL_refuses 692 = .ok (.iload 9, 2) := by decide +kernel
theorem dL_refuses_694 : decode cL_refuses 694 = .ok (.iconst 0, 1) := by decide +kernel
theorem dL_refuses_695 : decode cL_refuses 695 = .ok (.iconst 0, 1) := by decide +kernel
theorem dL_refuses_696 : decode cL_refuses 696 = .ok (.iconst 0, 1) := by decide +kernel
theorem dL_refuses_697 : decode cL_refuses 697 = .ok (.iconst 4, 1) := by decide +kernel
theorem dL_refuses_698 : decode cL_refuses 698 = .ok (.iload_n 2, 1) := by decide +kernel
theorem dL_refuses_699 : decode cL_refuses 699 = .ok (.iadd, 1) := by decide +kernel
theorem dL_refuses_700 : decode cL_refuses 700 = .ok (.invokestatic 148, 3) := by decide +kernel
theorem dL_refuses_703 : decode cL_refuses 703 = .ok (.ldc 18, 2) := by decide +kernel
theorem dL_refuses_705 : decode cL_refuses 705 = .ok (.if_icmp .ne 291, 3) := by decide +kernel
theorem dL_refuses_708 : decode cL_refuses 708 = .ok (.aload_n 0, 1) := by decide +kernel
theorem dL_refuses_709 : decode cL_refuses 709 = .ok (.iload 4, 2) := by decide +kernel
theorem dL_refuses_711 : decode cL_refuses 711 = .ok (.iconst 0, 1) := by decide +kernel
theorem dL_refuses_712 : decode cL_refuses 712 = .ok (.iconst 0, 1) := by decide +kernel
theorem dL_refuses_713 : decode cL_refuses 713 = .ok (.iconst 0, 1) := by decide +kernel
theorem dL_refuses_714 : decode cL_refuses 714 = .ok (.iconst 0, 1) := by decide +kernel
theorem dL_refuses_715 : decode cL_refuses 715 = .ok (.invokestatic 148, 3) := by decide +kernel
theorem dL_refuses_718 : decode cL_refuses 718 = .ok (.ldc 15, 2) := by decide +kernel
theorem dL_refuses_720 : decode cL_refuses 720 = .ok (.if_icmp .ne 276, 3) := by decide +kernel
theorem dL_refuses_723 : decode cL_refuses 723 = .ok (.aload_n 0, 1) := by decide +kernel
theorem dL_refuses_724 : decode cL_refuses 724 = .ok (.iload 4, 2) := by decide +kernel
theorem dL_refuses_726 : decode cL_refuses 726 = .ok (.invokestatic 151, 3) := by decide +kernel
theorem dL_refuses_729 : decode cL_refuses 729 = .ok (.ldc 15, 2) := by decide +kernel
theorem dL_refuses_731 : decode cL_refuses 731 = .ok (.if_icmp .ne 265, 3) := by decide +kernel
theorem dL_refuses_734 : decode cL_refuses 734 = .ok (.aload_n 0, 1) := by decide +kernel
theorem dL_refuses_735 : decode cL_refuses 735 = .ok (.iload 4, 2) := by decide +kernel
theorem dL_refuses_737 : decode cL_refuses 737 = .ok (.iconst 0, 1) := by decide +kernel
theorem dL_refuses_738 : decode cL_refuses 738 = .ok (.invokestatic 153, 3) := by decide +kernel
theorem dL_refuses_741 : decode cL_refuses 741 = .ok (.ldc 15, 2) := by decide +kernel
theorem dL_refuses_743 : decode cL_refuses 743 = .ok (.if_icmp .ne 253, 3) := by decide +kernel
theorem dL_refuses_746 : decode cL_refuses 746 = .ok (.aload_n 0, 1) := by decide +kernel
theorem dL_refuses_747 : decode cL_refuses 747 = .ok (.iload 9, 2) := by decide +kernel
theorem dL_refuses_749 : decode cL_refuses 749 = .ok (.iconst (-1), 1) := by decide +kernel
theorem dL_refuses_750 : decode cL_refuses 750 = .ok (.iload_n 2, 1) := by decide +kernel
theorem dL_refuses_751 : decode cL_refuses 751 = .ok (.isub, 1) := by decide +kernel
theorem dL_refuses_752 : decode cL_refuses 752 = .ok (.invokestatic 153, 3) := by decide +kernel
theorem dL_refuses_755 : decode cL_refuses 755 = .ok (.ldc 15, 2) := by decide +kernel
theorem dL_refuses_757 : decode cL_refuses 757 = .ok (.if_icmp .ne 239, 3) := by decide +kernel
theorem dL_refuses_760 : decode cL_refuses 760 = .ok (.aload_n 0, 1) := by decide +kernel
theorem dL_refuses_761 : decode cL_refuses 761 = .ok (.iload 9, 2) := by decide +kernel
theorem dL_refuses_763 : decode cL_refuses 763 = .ok (.aload_n 0, 1) := by decide +kernel
theorem dL_refuses_764 : decode cL_refuses 764 = .ok (.iload 9, 2) := by decide +kernel
theorem dL_refuses_766 : decode cL_refuses 766 = .ok (.invokestatic 151, 3) := by decide +kernel
theorem dL_refuses_769 : decode cL_refuses 769 = .ok (.iload_n 2, 1) := by decide +kernel
theorem dL_refuses_770 : decode cL_refuses 770 = .ok (.iadd, 1) := by decide +kernel
theorem dL_refuses_771 : decode cL_refuses 771 = .ok (.invokestatic 153, 3) := by decide +kernel
theorem dL_refuses_774 : decode cL_refuses 774 = .ok (.ldc 15, 2) := by decide +kernel
theorem dL_refuses_776 : decode cL_refuses 776 = .ok (.if_icmp .ne 220, 3) := by decide +kernel
theorem dL_refuses_779 : decode cL_refuses 779 = .ok (.aload_n 0, 1) := by decide +kernel
theorem dL_refuses_780 : decode cL_refuses 780 = .ok (.iload 4, 2) := by decide +kernel
theorem dL_refuses_782 : decode cL_refuses 782 = .ok (.invokestatic 156, 3) := by decide +kernel
theorem dL_refuses_785 : decode cL_refuses 785 = .ok (.ldc 15, 2) := by decide +kernel
theorem dL_refuses_787 : decode cL_refuses 787 = .ok (.if_icmp .ne 209, 3) := by decide +kernel
theorem dL_refuses_790 : decode cL_refuses 790 = .ok (.aload_n 0, 1) := by decide +kernel
theorem dL_refuses_791 : decode cL_refuses 791 = .ok (.iload 4, 2) := by decide +kernel
theorem dL_refuses_793 : decode cL_refuses 793 = .ok (.iconst 0, 1) := by decide +kernel
theorem dL_refuses_794 : decode cL_refuses 794 = .ok (.iconst 0, 1) := by decide +kernel
theorem dL_refuses_795 : decode cL_refuses 795 = .ok (.iconst 0, 1) := by decide +kernel
theorem dL_refuses_796 : decode cL_refuses 796 = .ok (.invokestatic 158, 3) := by decide +kernel
theorem dL_refuses_799 : decode cL_refuses 799 = .ok (.ldc 15, 2) := by decide +kernel
theorem dL_refuses_801 : decode cL_refuses 801 = .ok (.if_icmp .ne 195, 3) := by decide +kernel
theorem dL_refuses_804 : decode cL_refuses 804 = .ok (.aload_n 0, 1) := by decide +kernel
theorem dL_refuses_805 : decode cL_refuses 805 = .ok (.iload 9, 2) := by decide +kernel
theorem dL_refuses_807 : decode cL_refuses 807 = .ok (.iload 8, 2) := by decide +kernel
theorem dL_refuses_809 : decode cL_refuses 809 = .ok (.iconst 0, 1) := by decide +kernel
theorem dL_refuses_810 : decode cL_refuses 810 = .ok (.iconst 0, 1) := by decide +kernel
theorem dL_refuses_811 : decode cL_refuses 811 = .ok (.invokestatic 158, 3) := by decide +kernel
theorem dL_refuses_814 : decode cL_refuses 814 = .ok (.ifCond .ne 182, 3) := by decide +kernel
theorem dL_refuses_817 : decode cL_refuses 817 = .ok (.aload_n 0, 1) := by decide +kernel
theorem dL_refuses_818 : decode cL_refuses 818 = .ok (.iload 4, 2) := by decide +kernel
theorem dL_refuses_820 : decode cL_refuses 820 = .ok (.iconst 0, 1) := by decide +kernel
theorem dL_refuses_821 : decode cL_refuses 821 = .ok (.iconst 0, 1) := by decide +kernel
theorem dL_refuses_822 : decode cL_refuses 822 = .ok (.iconst 0, 1) := by decide +kernel
theorem dL_refuses_823 : decode cL_refuses 823 = .ok (.invokestatic 160, 3) := by decide +kernel
theorem dL_refuses_826 : decode cL_refuses 826 = .ok (.ldc 15, 2) := by decide +kernel
theorem dL_refuses_828 : decode cL_refuses 828 = .ok (.if_icmp .ne 168, 3) := by decide +kernel
theorem dL_refuses_831 : decode cL_refuses 831 = .ok (.aload_n 0, 1) := by decide +kernel
theorem dL_refuses_832 : decode cL_refuses 832 = .ok (.iload 9, 2) := by decide +kernel
theorem dL_refuses_834 : decode cL_refuses 834 = .ok (.iconst 0, 1) := by decide +kernel
theorem dL_refuses_835 : decode cL_refuses 835 = .ok (.iload 8, 2) := by decide +kernel
theorem dL_refuses_837 : decode cL_refuses 837 = .ok (.iconst 0, 1) := by decide +kernel
theorem dL_refuses_838 : decode cL_refuses 838 = .ok (.invokestatic 160, 3) := by decide +kernel
theorem dL_refuses_841 : decode cL_refuses 841 = .ok (.iconst (-1), 1) := by decide +kernel
theorem dL_refuses_842 : decode cL_refuses 842 = .ok (.if_icmp .ne 154, 3) := by decide +kernel
theorem dL_refuses_845 : decode cL_refuses 845 = .ok (.aload_n 0, 1) := by decide +kernel
theorem dL_refuses_846 : decode cL_refuses 846 = .ok (.iload 4, 2) := by decide +kernel
theorem dL_refuses_848 : decode cL_refuses 848 = .ok (.iconst 0, 1) := by decide +kernel
theorem dL_refuses_849 : decode cL_refuses 849 = .ok (.iconst 0, 1) := by decide +kernel
theorem dL_refuses_850 : decode cL_refuses 850 = .ok (.iconst 0, 1) := by decide +kernel
theorem dL_refuses_851 : decode cL_refuses 851 = .ok (.invokestatic 162, 3) := by decide +kernel
theorem dL_refuses_854 : decode cL_refuses 854 = .ok (.ldc 15, 2) := by decide +kernel
theorem dL_refuses_856 : decode cL_refuses 856 = .ok (.if_icmp .ne 140, 3) := by decide +kernel
theorem dL_refuses_859 : decode cL_refuses 859 = .ok (.aload_n 0, 1) := by decide +kernel
theorem dL_refuses_860 : decode cL_refuses 860 = .ok (.iload 9, 2) := by decide +kernel
theorem dL_refuses_862 : decode cL_refuses 862 = .ok (.iconst 0, 1) := by decide +kernel
theorem dL_refuses_863 : decode cL_refuses 863 = .ok (.iconst 0, 1) := by decide +kernel
theorem dL_refuses_864 : decode cL_refuses 864 = .ok (.iconst 5, 1) := by decide +kernel
theorem dL_refuses_865 : decode cL_refuses 865 = .ok (.invokestatic 162, 3) := by decide +kernel
theorem dL_refuses_868 : decode cL_refuses 868 = .ok (.ifCond .ne 128, 3) := by decide +kernel
theorem dL_refuses_871 : decode cL_refuses 871 = .ok (.aload_n 0, 1) := by decide +kernel
theorem dL_refuses_872 : decode cL_refuses 872 = .ok (.iload 4, 2) := by decide +kernel
theorem dL_refuses_874 : decode cL_refuses 874 = .ok (.iconst 0, 1) := by decide +kernel
theorem dL_refuses_875 : decode cL_refuses 875 = .ok (.iconst 0, 1) := by decide +kernel
theorem dL_refuses_876 : decode cL_refuses 876 = .ok (.iconst 0, 1) := by decide +kernel
theorem dL_refuses_877 : decode cL_refuses 877 = .ok (.invokestatic 164, 3) := by decide +kernel
theorem dL_refuses_880 : decode cL_refuses 880 = .ok (.ldc 15, 2) := by decide +kernel
theorem dL_refuses_882 : decode cL_refuses 882 = .ok (.if_icmp .ne 114, 3) := by decide +kernel
theorem dL_refuses_885 : decode cL_refuses 885 = .ok (.aload_n 0, 1) := by decide +kernel
theorem dL_refuses_886 : decode cL_refuses 886 = .ok (.iload 9, 2) := by decide +kernel
theorem dL_refuses_888 : decode cL_refuses 888 = .ok (.iload 8, 2) := by decide +kernel
theorem dL_refuses_890 : decode cL_refuses 890 = .ok (.iconst 0, 1) := by decide +kernel
theorem dL_refuses_891 : decode cL_refuses 891 = .ok (.iconst 0, 1) := by decide +kernel
theorem dL_refuses_892 : decode cL_refuses 892 = .ok (.invokestatic 164, 3) := by decide +kernel
theorem dL_refuses_895 : decode cL_refuses 895 = .ok (.ldc 18, 2) := by decide +kernel
theorem dL_refuses_897 : decode cL_refuses 897 = .ok (.if_icmp .ne 99, 3) := by decide +kernel
theorem dL_refuses_900 : decode cL_refuses 900 = .ok (.aload_n 0, 1) := by decide +kernel
theorem dL_refuses_901 : decode cL_refuses 901 = .ok (.iload 4, 2) := by decide +kernel
theorem dL_refuses_903 : decode cL_refuses 903 = .ok (.iconst 0, 1) := by decide +kernel
theorem dL_refuses_904 : decode cL_refuses 904 = .ok (.iconst 0, 1) := by decide +kernel
theorem dL_refuses_905 : decode cL_refuses 905 = .ok (.iconst 0, 1) := by decide +kernel
theorem dL_refuses_906 : decode cL_refuses 906 = .ok (.invokestatic 166, 3) := by decide +kernel
theorem dL_refuses_909 : decode cL_refuses 909 = .ok (.ldc 15, 2) := by decide +kernel
theorem dL_refuses_911 : decode cL_refuses 911 = .ok (.if_icmp .ne 85, 3) := by decide +kernel
theorem dL_refuses_914 : decode cL_refuses 914 = .ok (.aload_n 0, 1) := by decide +kernel
theorem dL_refuses_915 : decode cL_refuses 915 = .ok (.iload 9, 2) := by decide +kernel
theorem dL_refuses_917 : decode cL_refuses 917 = .ok (.iload_n 3, 1) := by decide +kernel
theorem dL_refuses_918 : decode cL_refuses 918 = .ok (.ifCond .eq 10, 3) := by decide +kernel
theorem dL_refuses_921 : decode cL_refuses 921 = .ok (.bipush (-10), 2) := by decide +kernel
theorem dL_refuses_923 : decode cL_refuses 923 = .ok (.iload_n 2, 1) := by decide +kernel
theorem dL_refuses_924 : decode cL_refuses 924 = .ok (.isub, 1) := by decide +kernel
theorem dL_refuses_925 : decode cL_refuses 925 = .ok (.goto 8, 3) := by decide +kernel
theorem dL_refuses_928 : decode cL_refuses 928 = .ok (.sipush 128, 3) := by decide +kernel
theorem dL_refuses_931 : decode cL_refuses 931 = .ok (.iload_n 2, 1) := by decide +kernel
theorem dL_refuses_932 : decode cL_refuses 932 = .ok (.iadd, 1) := by decide +kernel
theorem dL_refuses_933 : decode cL_refuses 933 = .ok (.iconst 0, 1) := by decide +kernel
theorem dL_refuses_934 : decode cL_refuses 934 = .ok (.iconst 0, 1) := by decide +kernel
theorem dL_refuses_935 : decode cL_refuses 935 = .ok (.invokestatic 166, 3) := by decide +kernel
theorem dL_refuses_938 : decode cL_refuses 938 = .ok (.ldc 18, 2) := by decide +kernel
theorem dL_refuses_940 : decode cL_refuses 940 = .ok (.if_icmp .ne 56, 3) := by decide +kernel
theorem dL_refuses_943 : decode cL_refuses 943 = .ok (.aload_n 0, 1) := by decide +kernel
theorem dL_refuses_944 : decode cL_refuses 944 = .ok (.iload 9, 2) := by decide +kernel
theorem dL_refuses_946 : decode cL_refuses 946 = .ok (.iconst 0, 1) := by decide +kernel
theorem dL_refuses_947 : decode cL_refuses 947 = .ok (.iconst 0, 1) := by decide +kernel
theorem dL_refuses_948 : decode cL_refuses 948 = .ok (.bipush (-9), 2) := by decide +kernel
theorem dL_refuses_950 : decode cL_refuses 950 = .ok (.invokestatic 166, 3) := by decide +kernel
theorem dL_refuses_953 : decode cL_refuses 953 = .ok (.ldc 18, 2) := by decide +kernel
theorem dL_refuses_955 : decode cL_refuses 955 = .ok (.if_icmp .ne 41, 3) := by decide +kernel
theorem dL_refuses_958 : decode cL_refuses 958 = .ok (.aload_n 0, 1) := by decide +kernel
theorem dL_refuses_959 : decode cL_refuses 959 = .ok (.iload 7, 2) := by decide +kernel
theorem dL_refuses_961 : decode cL_refuses 961 = .ok (.iconst 0, 1) := by decide +kernel
theorem dL_refuses_962 : decode cL_refuses 962 = .ok (.invokestatic 168, 3) := by decide +kernel
theorem dL_refuses_965 : decode cL_refuses 965 = .ok (.ldc 15, 2) := by decide +kernel
theorem dL_refuses_967 : decode cL_refuses 967 = .ok (.if_icmp .ne 29, 3) := by decide +kernel
theorem dL_refuses_970 : decode cL_refuses 970 = .ok (.aload_n 0, 1) := by decide +kernel
theorem dL_refuses_971 : decode cL_refuses 971 = .ok (.iload 7, 2) := by decide +kernel
theorem dL_refuses_973 : decode cL_refuses 973 = .ok (.invokestatic 170, 3) := by decide +kernel
theorem dL_refuses_976 : decode cL_refuses 976 = .ok (.ldc 15, 2) := by decide +kernel
theorem dL_refuses_978 : decode cL_refuses 978 = .ok (.if_icmp .ne 18, 3) := by decide +kernel
theorem dL_refuses_981 : decode cL_refuses 981 = .ok (.aload_n 0, 1) := by decide +kernel
theorem dL_refuses_982 : decode cL_refuses 982 = .ok (.iload 4, 2) := by decide +kernel
theorem dL_refuses_984 : decode cL_refuses 984 = .ok (.invokestatic 172, 3) := by decide +kernel
theorem dL_refuses_987 : decode cL_refuses 987 = .ok (.ldc 15, 2) := by decide +kernel
theorem dL_refuses_989 : decode cL_refuses 989 = .ok (.if_icmp .ne 7, 3) := by decide +kernel
theorem dL_refuses_992 : decode cL_refuses 992 = .ok (.iconst 1, 1) := by decide +kernel
theorem dL_refuses_993 : decode cL_refuses 993 = .ok (.goto 4, 3) := by decide +kernel
theorem dL_refuses_996 : decode cL_refuses 996 = .ok (.iconst 0, 1) := by decide +kernel
theorem dL_refuses_997 : decode cL_refuses 997 = .ok (.istore 10, 2) := by decide +kernel
theorem dL_refuses_999 : decode cL_refuses 999 = .ok (.iload 10, 2) := by decide +kernel
theorem dL_refuses_1001 : decode cL_refuses 1001 = .ok (.ifCond .eq 68, 3) := by decide +kernel
theorem dL_refuses_1004 : decode cL_refuses 1004 = .ok (.aload_n 0, 1) := by decide +kernel
theorem dL_refuses_1005 : decode cL_refuses 1005 = .ok (.iload 9, 2) := by decide +kernel
theorem dL_refuses_1007 : decode cL_refuses 1007 = .ok (.invokestatic 151, 3) := by decide +kernel
theorem dL_refuses_1010 : decode cL_refuses 1010 = .ok (.ifCond .le 59, 3) := by decide +kernel
theorem dL_refuses_1013 : decode cL_refuses 1013 = .ok (.aload_n 0, 1) := by decide +kernel
theorem dL_refuses_1014 : decode cL_refuses 1014 = .ok (.iload 9, 2) := by decide +kernel
theorem dL_refuses_1016 : decode cL_refuses 1016 = .ok (.iload_n 2, 1) := by decide +kernel
theorem dL_refuses_1017 : decode cL_refuses 1017 = .ok (.aload_n 0, 1) := by decide +kernel
theorem dL_refuses_1018 : decode cL_refuses 1018 = .ok (.iload 9, 2) := by decide +kernel
theorem dL_refuses_1020 : decode cL_refuses 1020 = .ok (.invokestatic 151, 3) := by decide +kernel
theorem dL_refuses_1023 : decode cL_refuses 1023 = .ok (.irem, 1) := by decide +kernel
theorem dL_refuses_1024 : decode cL_refuses 1024 = .ok (.invokestatic 153, 3) := by decide +kernel
theorem dL_refuses_1027 : decode cL_refuses 1027 = .ok (.istore 11, 2) := by decide +kernel
theorem dL_refuses_1029 : decode cL_refuses 1029 = .ok (.aload_n 0, 1) := by decide +kernel
theorem dL_refuses_1030 : decode cL_refuses 1030 = .ok (.iload 9, 2) := by decide +kernel
theorem dL_refuses_1032 : decode cL_refuses 1032 = .ok (.iload 11, 2) := by decide +kernel
theorem dL_refuses_1034 : decode cL_refuses 1034 = .ok (.sipush 16384, 3) := by decide +kernel
theorem dL_refuses_1037 : decode cL_refuses 1037 = .ok (.idiv, 1) := by decide +kernel
theorem dL_refuses_1038 : decode cL_refuses 1038 = .ok (.iload 11, 2) := by decide +kernel
theorem dL_refuses_1040 : decode cL_refuses 1040 = .ok (.sipush 128, 3) := by decide +kernel
theorem dL_refuses_1043 : decode cL_refuses 1043 = .ok (.idiv, 1) := by decide +kernel
theorem dL_refuses_1044 : decode cL_refuses 1044 = .ok (.sipush 128, 3) := by decide +kernel
theorem dL_refuses_1047 : decode cL_refuses 1047 = .ok (.irem, 1) := by decide +kernel
theorem dL_refuses_1048 : decode cL_refuses 1048 = .ok (.iload 11, 2) := by decide +kernel
theorem dL_refuses_1050 : decode cL_refuses 1050 = .ok (.sipush 128, 3) := by decide +kernel
theorem dL_refuses_1053 : decode cL_refuses 1053 = .ok (.irem, 1) := by decide +kernel
theorem dL_refuses_1054 : decode cL_refuses 1054 = .ok (.invokestatic 164, 3) := by decide +kernel
theorem dL_refuses_1057 : decode cL_refuses 1057 = .ok (.ldc 21, 2) := by decide +kernel
theorem dL_refuses_1059 : decode cL_refuses 1059 = .ok (.if_icmp .ne 7, 3) := by decide +kernel
theorem dL_refuses_1062 : decode cL_refuses 1062 = .ok (.iconst 1, 1) := by decide +kernel
theorem dL_refuses_1063 : decode cL_refuses 1063 = .ok (.goto 4, 3) := by decide +kernel
theorem dL_refuses_1066 : decode cL_refuses 1066 = .ok (.iconst 0, 1) := by decide +kernel
theorem dL_refuses_1067 : decode cL_refuses 1067 = .ok (.istore 10, 2) := by decide +kernel
theorem dL_refuses_1069 : decode cL_refuses 1069 = .ok (.iload 10, 2) := by decide +kernel
theorem dL_refuses_1071 : decode cL_refuses 1071 = .ok (.ifCond .eq 46, 3) := by decide +kernel
theorem dL_refuses_1074 : decode cL_refuses 1074 = .ok (.aload_n 1, 1) := by decide +kernel
theorem dL_refuses_1075 : decode cL_refuses 1075 = .ok (.iconst 1, 1) := by decide +kernel
theorem dL_refuses_1076 : decode cL_refuses 1076 = .ok (.iaload, 1) := by decide +kernel
theorem dL_refuses_1077 : decode cL_refuses 1077 = .ok (.ifCond .eq 36, 3) := by decide +kernel
theorem dL_refuses_1080 : decode cL_refuses 1080 = .ok (.aload_n 0, 1) := by decide +kernel
theorem dL_refuses_1081 : decode cL_refuses 1081 = .ok (.iload_n 2, 1) := by decide +kernel
theorem dL_refuses_1082 : decode cL_refuses 1082 = .ok (.aload_n 1, 1) := by decide +kernel
theorem dL_refuses_1083 : decode cL_refuses 1083 = .ok (.iconst 1, 1) := by decide +kernel
theorem dL_refuses_1084 : decode cL_refuses 1084 = .ok (.iaload, 1) := by decide +kernel
theorem dL_refuses_1085 : decode cL_refuses 1085 = .ok (.irem, 1) := by decide +kernel
theorem dL_refuses_1086 : decode cL_refuses 1086 = .ok (.iconst (-1), 1) := by decide +kernel
theorem dL_refuses_1087 : decode cL_refuses 1087 = .ok (.iload_n 2, 1) := by decide +kernel
theorem dL_refuses_1088 : decode cL_refuses 1088 = .ok (.isub, 1) := by decide +kernel
theorem dL_refuses_1089 : decode cL_refuses 1089 = .ok (.invokestatic 168, 3) := by decide +kernel
theorem dL_refuses_1092 : decode cL_refuses 1092 = .ok (.ldc 15, 2) := by decide +kernel
theorem dL_refuses_1094 : decode cL_refuses 1094 = .ok (.if_icmp .ne 23, 3) := by decide +kernel
theorem dL_refuses_1097 : decode cL_refuses 1097 = .ok (.aload_n 0, 1) := by decide +kernel
theorem dL_refuses_1098 : decode cL_refuses 1098 = .ok (.iload_n 2, 1) := by decide +kernel
theorem dL_refuses_1099 : decode cL_refuses 1099 = .ok (.aload_n 1, 1) := by decide +kernel
theorem dL_refuses_1100 : decode cL_refuses 1100 = .ok (.iconst 1, 1) := by decide +kernel
theorem dL_refuses_1101 : decode cL_refuses 1101 = .ok (.iaload, 1) := by decide +kernel
theorem dL_refuses_1102 : decode cL_refuses 1102 = .ok (.irem, 1) := by decide +kernel
theorem dL_refuses_1103 : decode cL_refuses 1103 = .ok (.iconst 3, 1) := by decide +kernel
theorem dL_refuses_1104 : decode cL_refuses 1104 = .ok (.iload_n 2, 1) := by decide +kernel
theorem dL_refuses_1105 : decode cL_refuses 1105 = .ok (.iadd, 1) := by decide +kernel
theorem dL_refuses_1106 : decode cL_refuses 1106 = .ok (.invokestatic 168, 3) := by decide +kernel
theorem dL_refuses_1109 : decode cL_refuses 1109 = .ok (.iconst (-1), 1) := by decide +kernel
theorem dL_refuses_1110 : decode cL_refuses 1110 = .ok (.if_icmp .ne 7, 3) := by decide +kernel
theorem dL_refuses_1113 : decode cL_refuses 1113 = .ok (.iconst 1, 1) := by decide +kernel
theorem dL_refuses_1114 : decode cL_refuses 1114 = .ok (.goto 4, 3) := by decide +kernel
theorem dL_refuses_1117 : decode cL_refuses 1117 = .ok (.iconst 0, 1) := by decide +kernel
theorem dL_refuses_1118 : decode cL_refuses 1118 = .ok (.ireturn, 1) := by decide +kernel
theorem dL_term_0 : decode cL_term 0 = .ok (.iload_n 0, 1) := by decide +kernel
theorem dL_term_1 : decode cL_term 1 = .ok (.iconst 5, 1) := by decide +kernel
theorem dL_term_2 : decode cL_term 2 = .ok (.irem, 1) := by decide +kernel
theorem dL_term_3 : decode cL_term 3 = .ok (.iconst 4, 1) := by decide +kernel
theorem dL_term_4 : decode cL_term 4 = .ok (.if_icmp .ge 13, 3) := by decide +kernel
theorem dL_term_7 : decode cL_term 7 = .ok (.iconst (-1), 1) := by decide +kernel
theorem dL_term_8 : decode cL_term 8 = .ok (.iload_n 0, 1) := by decide +kernel
theorem dL_term_9 : decode cL_term 9 = .ok (.iconst 5, 1) := by decide +kernel
theorem dL_term_10 : decode cL_term 10 = .ok (.irem, 1) := by decide +kernel
theorem dL_term_11 : decode cL_term 11 = .ok (.iconst 3, 1) := by decide +kernel
theorem dL_term_12 : decode cL_term 12 = .ok (.irem, 1) := by decide +kernel
theorem dL_term_13 : decode cL_term 13 = .ok (.isub, 1) := by decide +kernel
theorem dL_term_14 : decode cL_term 14 = .ok (.goto 8, 3) := by decide +kernel
theorem dL_term_17 : decode cL_term 17 = .ok (.iload_n 0, 1) := by decide +kernel
theorem dL_term_18 : decode cL_term 18 = .ok (.iconst 5, 1) := by decide +kernel
theorem dL_term_19 : decode cL_term 19 = .ok (.idiv, 1) := by decide +kernel
theorem dL_term_20 : decode cL_term 20 = .ok (.iconst 4, 1) := by decide +kernel
theorem dL_term_21 : decode cL_term 21 = .ok (.irem, 1) := by decide +kernel
theorem dL_term_22 : decode cL_term 22 = .ok (.ireturn, 1) := by decide +kernel
theorem dL_act_0 : decode cL_act 0 = .ok (.iload_n 2, 1) := by decide +kernel
theorem dL_act_1 : decode cL_act 1 = .ok (.bipush 16, 2) := by decide +kernel
theorem dL_act_3 : decode cL_act 3 = .ok (.idiv, 1) := by decide +kernel
theorem dL_act_4 : decode cL_act 4 = .ok (.istore_n 3, 1) := by decide +kernel
theorem dL_act_5 : decode cL_act 5 = .ok (.iload_n 3, 1) := by decide +kernel
theorem dL_act_6 : decode cL_act 6 = .ok (.bipush 6, 2) := by decide +kernel
theorem dL_act_8 : decode cL_act 8 = .ok (.irem, 1) := by decide +kernel
theorem dL_act_9 : decode cL_act 9 = .ok (.istore 4, 2) := by decide +kernel
theorem dL_act_11 : decode cL_act 11 = .ok (.iload_n 3, 1) := by decide +kernel
theorem dL_act_12 : decode cL_act 12 = .ok (.bipush 6, 2) := by decide +kernel
theorem dL_act_14 : decode cL_act 14 = .ok (.idiv, 1) := by decide +kernel
theorem dL_act_15 : decode cL_act 15 = .ok (.iconst 4, 1) := by decide +kernel
theorem dL_act_16 : decode cL_act 16 = .ok (.irem, 1) := by decide +kernel
theorem dL_act_17 : decode cL_act 17 = .ok (.istore 5, 2) := by decide +kernel
theorem dL_act_19 : decode cL_act 19 = .ok (.iload_n 3, 1) := by decide +kernel
theorem dL_act_20 : decode cL_act 20 = .ok (.bipush 24, 2) := by decide +kernel
theorem dL_act_22 : decode cL_act 22 = .ok (.idiv, 1) := by decide +kernel
theorem dL_act_23 : decode cL_act 23 = .ok (.iconst 4, 1) := by decide +kernel
theorem dL_act_24 : decode cL_act 24 = .ok (.irem, 1) := by decide +kernel
theorem dL_act_25 : decode cL_act 25 = .ok (.istore 6, 2) := by decide +kernel
theorem dL_act_27 : decode cL_act 27 = .ok (.iload 4, 2) := by decide +kernel
theorem dL_act_29 : decode cL_act 29 = .ok (.iconst 2, 1) := by decide +kernel
theorem dL_act_30 : decode cL_act 30 = .ok (.if_icmp .eq 7, 3) := by decide +kernel
theorem dL_act_33 : decode cL_act 33 = .ok (.iconst 1, 1) := by decide +kernel
theorem dL_act_34 : decode cL_act 34 = .ok (.goto 4, 3) := by decide +kernel
theorem dL_act_37 : decode cL_act 37 = .ok (.iconst 0, 1) := by decide +kernel
theorem dL_act_38 : decode cL_act 38 = .ok (.istore 7, 2) := by decide +kernel
theorem dL_act_40 : decode cL_act 40 = .ok (.iload 4, 2) := by decide +kernel
theorem dL_act_42 : decode cL_act 42 = .ok (.iconst 5, 1) := by decide +kernel
theorem dL_act_43 : decode cL_act 43 = .ok (.if_icmp .ne 7, 3) := by decide +kernel
theorem dL_act_46 : decode cL_act 46 = .ok (.iconst 1, 1) := by decide +kernel
theorem dL_act_47 : decode cL_act 47 = .ok (.goto 4, 3) := by decide +kernel
theorem dL_act_50 : decode cL_act 50 = .ok (.iconst 0, 1) := by decide +kernel
theorem dL_act_51 : decode cL_act 51 = .ok (.istore 8, 2) := by decide +kernel
theorem dL_act_53 : decode cL_act 53 = .ok (.iload_n 2, 1) := by decide +kernel
theorem dL_act_54 : decode cL_act 54 = .ok (.bipush 16, 2) := by decide +kernel
theorem dL_act_56 : decode cL_act 56 = .ok (.irem, 1) := by decide +kernel
theorem dL_act_57 : decode cL_act 57 = .ok (.tableswitch 388 0 14 #[75, 75, 75, 141, 161, 181, 181, 224, 224, 224, 282, 336, 336, 336, 341], 75) := by decide +kernel
theorem dL_act_132 : decode cL_act 132 = .ok (.iload_n 3, 1) := by decide +kernel
theorem dL_act_133 : decode cL_act 133 = .ok (.bipush 96, 2) := by decide +kernel
theorem dL_act_135 : decode cL_act 135 = .ok (.idiv, 1) := by decide +kernel
theorem dL_act_136 : decode cL_act 136 = .ok (.iconst 4, 1) := by decide +kernel
theorem dL_act_137 : decode cL_act 137 = .ok (.irem, 1) := by decide +kernel
theorem dL_act_138 : decode cL_act 138 = .ok (.istore 9, 2) := by decide +kernel
theorem dL_act_140 : decode cL_act 140 = .ok (.aload_n 0, 1) := by decide +kernel
theorem dL_act_141 : decode cL_act 141 = .ok (.iload 4, 2) := by decide +kernel
theorem dL_act_143 : decode cL_act 143 = .ok (.iload 5, 2) := by decide +kernel
theorem dL_act_145 : decode cL_act 145 = .ok (.iload 7, 2) := by decide +kernel
theorem dL_act_147 : decode cL_act 147 = .ok (.ifCond .eq 8, 3) := by decide +kernel
theorem dL_act_150 : decode cL_act 150 = .ok (.iload 6, 2) := by decide +kernel
theorem dL_act_152 : decode cL_act 152 = .ok (.goto 4, 3) := by decide +kernel
theorem dL_act_155 : decode cL_act 155 = .ok (.iconst 0, 1) := by decide +kernel
theorem dL_act_156 : decode cL_act 156 = .ok (.iload 8, 2) := by decide +kernel
theorem dL_act_158 : decode cL_act 158 = .ok (.ifCond .eq 11, 3) := by decide +kernel
theorem dL_act_161 : decode cL_act 161 = .ok (.iload_n 3, 1) := by decide +kernel
theorem dL_act_162 : decode cL_act 162 = .ok (.iconst 5, 1) := by decide +kernel
theorem dL_act_163 : decode cL_act 163 = .ok (.idiv, 1) := by decide +kernel
theorem dL_act_164 : decode cL_act 164 = .ok (.iconst 4, 1) := by decide +kernel
theorem dL_act_165 : decode cL_act 165 = .ok (.irem, 1) := by decide +kernel
theorem dL_act_166 : decode cL_act 166 = .ok (.goto 4, 3) := by decide +kernel
theorem dL_act_169 : decode cL_act 169 = .ok (.iconst 0, 1) := by decide +kernel
theorem dL_act_170 : decode cL_act 170 = .ok (.iconst 1, 1) := by decide +kernel
theorem dL_act_171 : decode cL_act 171 = .ok (.iload_n 3, 1) := by decide +kernel
theorem dL_act_172 : decode cL_act 172 = .ok (.bipush 90, 2) := by decide +kernel
theorem dL_act_174 : decode cL_act 174 = .ok (.irem, 1) := by decide +kernel
theorem dL_act_175 : decode cL_act 175 = .ok (.iadd, 1) := by decide +kernel
theorem dL_act_176 : decode cL_act 176 = .ok (.iload 9, 2) := by decide +kernel
theorem dL_act_178 : decode cL_act 178 = .ok (.iload_n 3, 1) := by decide +kernel
theorem dL_act_179 : decode cL_act 179 = .ok (.sipush 384, 3) := by decide +kernel
theorem dL_act_182 : decode cL_act 182 = .ok (.idiv, 1) := by decide +kernel
theorem dL_act_183 : decode cL_act 183 = .ok (.iconst 2, 1) := by decide +kernel
theorem dL_act_184 : decode cL_act 184 = .ok (.irem, 1) := by decide +kernel
theorem dL_act_185 : decode cL_act 185 = .ok (.ifCond .ne 7, 3) := by decide +kernel
theorem dL_act_188 : decode cL_act 188 = .ok (.iconst 3, 1) := by decide +kernel
theorem dL_act_189 : decode cL_act 189 = .ok (.goto 5, 3) := by decide +kernel
theorem dL_act_192 : decode cL_act 192 = .ok (.iload 9, 2) := by decide +kernel
theorem dL_act_194 : decode cL_act 194 = .ok (.invokestatic 111, 3) := by decide +kernel
theorem dL_act_197 : decode cL_act 197 = .ok (.ireturn, 1) := by decide +kernel
theorem dL_act_198 : decode cL_act 198 = .ok (.aload_n 0, 1) := by decide +kernel
theorem dL_act_199 : decode cL_act 199 = .ok (.aload_n 1, 1) := by decide +kernel
theorem dL_act_200 : decode cL_act 200 = .ok (.iconst 0, 1) := by decide +kernel
theorem dL_act_201 : decode cL_act 201 = .ok (.iaload, 1) := by decide +kernel
theorem dL_act_202 : decode cL_act 202 = .ok (.ifCond .ne 7, 3) := by decide +kernel
theorem dL_act_205 : decode cL_act 205 = .ok (.iconst 0, 1) := by decide +kernel
theorem dL_act_206 : decode cL_act 206 = .ok (.goto 8, 3) := by decide +kernel
theorem dL_act_209 : decode cL_act 209 = .ok (.iload_n 3, 1) := by decide +kernel
theorem dL_act_210 : decode cL_act 210 = .ok (.aload_n 1, 1) := by decide +kernel
theorem dL_act_211 : decode cL_act 211 = .ok (.iconst 0, 1) := by decide +kernel
theorem dL_act_212 : decode cL_act 212 = .ok (.iaload, 1) := by decide +kernel
theorem dL_act_213 : decode cL_act 213 = .ok (.irem, 1) := by decide +kernel
theorem dL_act_214 : decode cL_act 214 = .ok (.invokestatic 115, 3) := by decide +kernel
theorem dL_act_217 : decode cL_act 217 = .ok (.ireturn, 1) := by decide +kernel
theorem dL_act_218 : decode cL_act 218 = .ok (.iload_n 3, 1) := by decide +kernel
theorem dL_act_219 : decode cL_act 219 = .ok (.iconst 5, 1) := by decide +kernel
theorem dL_act_220 : decode cL_act 220 = .ok (.irem, 1) := by decide +kernel
theorem dL_act_221 : decode cL_act 221 = .ok (.ifCond .ne 10, 3) := by decide +kernel
theorem dL_act_224 : decode cL_act 224 = .ok (.aload_n 0, 1) := by decide +kernel
theorem dL_act_225 : decode cL_act 225 = .ok (.invokestatic 140, 3) := by decide +kernel
theorem dL_act_228 : decode cL_act 228 = .ok (.goto 9, 3) := by decide +kernel
theorem dL_act_231 : decode cL_act 231 = .ok (.aload_n 0, 1) := by decide +kernel
theorem dL_act_232 : decode cL_act 232 = .ok (.iload 4, 2) := by decide +kernel
theorem dL_act_234 : decode cL_act 234 = .ok (.invokestatic 151, 3) := by decide +kernel
theorem dL_act_237 : decode cL_act 237 = .ok (.ireturn, 1) := by decide +kernel
theorem dL_act_238 : decode cL_act 238 = .ok (.aload_n 0, 1) := by decide +kernel
theorem dL_act_239 : decode cL_act 239 = .ok (.iload 4, 2) := by decide +kernel
theorem dL_act_241 : decode cL_act 241 = .ok (.iload_n 3, 1) := by decide +kernel
theorem dL_act_242 : decode cL_act 242 = .ok (.invokestatic 174, 3) := by decide +kernel
theorem dL_act_245 : decode cL_act 245 = .ok (.iload 7, 2) := by decide +kernel
theorem dL_act_247 : decode cL_act 247 = .ok (.ifCond .eq 13, 3) := by decide +kernel
theorem dL_act_250 : decode cL_act 250 = .ok (.iload_n 3, 1) := by decide +kernel
theorem dL_act_251 : decode cL_act 251 = .ok (.bipush 7, 2) := by decide +kernel
theorem dL_act_253 : decode cL_act 253 = .ok (.idiv, 1) := by decide +kernel
theorem dL_act_254 : decode cL_act 254 = .ok (.invokestatic 174, 3) := by decide +kernel
theorem dL_act_257 : decode cL_act 257 = .ok (.goto 4, 3) := by decide +kernel
theorem dL_act_260 : decode cL_act 260 = .ok (.iconst 0, 1) := by decide +kernel
theorem dL_act_261 : decode cL_act 261 = .ok (.iload 8, 2) := by decide +kernel
theorem dL_act_263 : decode cL_act 263 = .ok (.ifCond .eq 13, 3) := by decide +kernel
theorem dL_act_266 : decode cL_act 266 = .ok (.iload_n 3, 1) := by decide +kernel
theorem dL_act_267 : decode cL_act 267 = .ok (.bipush 11, 2) := by decide +kernel
theorem dL_act_269 : decode cL_act 269 = .ok (.idiv, 1) := by decide +kernel
theorem dL_act_270 : decode cL_act 270 = .ok (.invokestatic 174, 3) := by decide +kernel
theorem dL_act_273 : decode cL_act 273 = .ok (.goto 4, 3) := by decide +kernel
theorem dL_act_276 : decode cL_act 276 = .ok (.iconst 0, 1) := by decide +kernel
theorem dL_act_277 : decode cL_act 277 = .ok (.invokestatic 119, 3) := by decide +kernel
theorem dL_act_280 : decode cL_act 280 = .ok (.ireturn, 1) := by decide +kernel
theorem dL_act_281 : decode cL_act 281 = .ok (.aload_n 0, 1) := by decide +kernel
theorem dL_act_282 : decode cL_act 282 = .ok (.iload 4, 2) := by decide +kernel
theorem dL_act_284 : decode cL_act 284 = .ok (.iload_n 3, 1) := by decide +kernel
theorem dL_act_285 : decode cL_act 285 = .ok (.iconst 3, 1) := by decide +kernel
theorem dL_act_286 : decode cL_act 286 = .ok (.idiv, 1) := by decide +kernel
theorem dL_act_287 : decode cL_act 287 = .ok (.iconst 5, 1) := by decide +kernel
theorem dL_act_288 : decode cL_act 288 = .ok (.irem, 1) := by decide +kernel
theorem dL_act_289 : decode cL_act 289 = .ok (.ifCond .le 7, 3) := by decide +kernel
theorem dL_act_292 : decode cL_act 292 = .ok (.iconst 1, 1) := by decide +kernel
theorem dL_act_293 : decode cL_act 293 = .ok (.goto 4, 3) := by decide +kernel
theorem dL_act_296 : decode cL_act 296 = .ok (.iconst 0, 1) := by decide +kernel
theorem dL_act_297 : decode cL_act 297 = .ok (.iload_n 3, 1) := by decide +kernel
theorem dL_act_298 : decode cL_act 298 = .ok (.iconst 2, 1) := by decide +kernel
theorem dL_act_299 : decode cL_act 299 = .ok (.idiv, 1) := by decide +kernel
theorem dL_act_300 : decode cL_act 300 = .ok (.invokestatic 174, 3) := by decide +kernel
theorem dL_act_303 : decode cL_act 303 = .ok (.iload 7, 2) := by decide +kernel
theorem dL_act_305 : decode cL_act 305 = .ok (.ifCond .eq 13, 3) := by decide +kernel
theorem dL_act_308 : decode cL_act 308 = .ok (.iload_n 3, 1) := by decide +kernel
theorem dL_act_309 : decode cL_act 309 = .ok (.bipush 7, 2) := by decide +kernel
theorem dL_act_311 : decode cL_act 311 = .ok (.idiv, 1) := by decide +kernel
theorem dL_act_312 : decode cL_act 312 = .ok (.invokestatic 174, 3) := by decide +kernel
theorem dL_act_315 : decode cL_act 315 = .ok (.goto 4, 3) := by decide +kernel
theorem dL_act_318 : decode cL_act 318 = .ok (.iconst 0, 1) := by decide +kernel
theorem dL_act_319 : decode cL_act 319 = .ok (.iload 8, 2) := by decide +kernel
theorem dL_act_321 : decode cL_act 321 = .ok (.ifCond .eq 13, 3) := by decide +kernel
theorem dL_act_324 : decode cL_act 324 = .ok (.iload_n 3, 1) := by decide +kernel
theorem dL_act_325 : decode cL_act 325 = .ok (.bipush 11, 2) := by decide +kernel
theorem dL_act_327 : decode cL_act 327 = .ok (.idiv, 1) := by decide +kernel
theorem dL_act_328 : decode cL_act 328 = .ok (.invokestatic 174, 3) := by decide +kernel
theorem dL_act_331 : decode cL_act 331 = .ok (.goto 4, 3) := by decide +kernel
theorem dL_act_334 : decode cL_act 334 = .ok (.iconst 0, 1) := by decide +kernel
theorem dL_act_335 : decode cL_act 335 = .ok (.invokestatic 122, 3) := by decide +kernel
theorem dL_act_338 : decode cL_act 338 = .ok (.ireturn, 1) := by decide +kernel
theorem dL_act_339 : decode cL_act 339 = .ok (.iload_n 3, 1) := by decide +kernel
theorem dL_act_340 : decode cL_act 340 = .ok (.iconst 2, 1) := by decide +kernel
theorem dL_act_341 : decode cL_act 341 = .ok (.irem, 1) := by decide +kernel
theorem dL_act_342 : decode cL_act 342 = .ok (.ifCond .ne 28, 3) := by decide +kernel
theorem dL_act_345 : decode cL_act 345 = .ok (.aload_n 0, 1) := by decide +kernel
theorem dL_act_346 : decode cL_act 346 = .ok (.iload_n 3, 1) := by decide +kernel
theorem dL_act_347 : decode cL_act 347 = .ok (.iconst 2, 1) := by decide +kernel
theorem dL_act_348 : decode cL_act 348 = .ok (.idiv, 1) := by decide +kernel
theorem dL_act_349 : decode cL_act 349 = .ok (.iconst 4, 1) := by decide +kernel
theorem dL_act_350 : decode cL_act 350 = .ok (.irem, 1) := by decide +kernel
theorem dL_act_351 : decode cL_act 351 = .ok (.iload_n 3, 1) := by decide +kernel
theorem dL_act_352 : decode cL_act 352 = .ok (.iconst 3, 1) := by decide +kernel
theorem dL_act_353 : decode cL_act 353 = .ok (.idiv, 1) := by decide +kernel
theorem dL_act_354 : decode cL_act 354 = .ok (.invokestatic 174, 3) := by decide +kernel
theorem dL_act_357 : decode cL_act 357 = .ok (.iload_n 3, 1) := by decide +kernel
theorem dL_act_358 : decode cL_act 358 = .ok (.bipush 11, 2) := by decide +kernel
theorem dL_act_360 : decode cL_act 360 = .ok (.idiv, 1) := by decide +kernel
theorem dL_act_361 : decode cL_act 361 = .ok (.invokestatic 174, 3) := by decide +kernel
theorem dL_act_364 : decode cL_act 364 = .ok (.invokestatic 126, 3) := by decide +kernel
theorem dL_act_367 : decode cL_act 367 = .ok (.goto 25, 3) := by decide +kernel
theorem dL_act_370 : decode cL_act 370 = .ok (.aload_n 0, 1) := by decide +kernel
theorem dL_act_371 : decode cL_act 371 = .ok (.bipush (-4), 2) := by decide +kernel
theorem dL_act_373 : decode cL_act 373 = .ok (.iload_n 3, 1) := by decide +kernel
theorem dL_act_374 : decode cL_act 374 = .ok (.iconst 2, 1) := by decide +kernel
theorem dL_act_375 : decode cL_act 375 = .ok (.irem, 1) := by decide +kernel
theorem dL_act_376 : decode cL_act 376 = .ok (.isub, 1) := by decide +kernel
theorem dL_act_377 : decode cL_act 377 = .ok (.iload_n 3, 1) := by decide +kernel
theorem dL_act_378 : decode cL_act 378 = .ok (.iconst 3, 1) := by decide +kernel
theorem dL_act_379 : decode cL_act 379 = .ok (.idiv, 1) := by decide +kernel
theorem dL_act_380 : decode cL_act 380 = .ok (.invokestatic 174, 3) := by decide +kernel
theorem dL_act_383 : decode cL_act 383 = .ok (.iload_n 3, 1) := by decide +kernel
theorem dL_act_384 : decode cL_act 384 = .ok (.iconst 5, 1) := by decide +kernel
theorem dL_act_385 : decode cL_act 385 = .ok (.idiv, 1) := by decide +kernel
theorem dL_act_386 : decode cL_act 386 = .ok (.bipush 9, 2) := by decide +kernel
theorem dL_act_388 : decode cL_act 388 = .ok (.irem, 1) := by decide +kernel
theorem dL_act_389 : decode cL_act 389 = .ok (.invokestatic 130, 3) := by decide +kernel
theorem dL_act_392 : decode cL_act 392 = .ok (.ireturn, 1) := by decide +kernel
theorem dL_act_393 : decode cL_act 393 = .ok (.aload_n 0, 1) := by decide +kernel
theorem dL_act_394 : decode cL_act 394 = .ok (.invokestatic 177, 3) := by decide +kernel
theorem dL_act_397 : decode cL_act 397 = .ok (.ireturn, 1) := by decide +kernel
theorem dL_act_398 : decode cL_act 398 = .ok (.iload_n 3, 1) := by decide +kernel
theorem dL_act_399 : decode cL_act 399 = .ok (.iconst 3, 1) := by decide +kernel
theorem dL_act_400 : decode cL_act 400 = .ok (.irem, 1) := by decide +kernel
theorem dL_act_401 : decode cL_act 401 = .ok (.ifCond .ne 10, 3) := by decide +kernel
theorem dL_act_404 : decode cL_act 404 = .ok (.aload_n 0, 1) := by decide +kernel
theorem dL_act_405 : decode cL_act 405 = .ok (.invokestatic 136, 3) := by decide +kernel
theorem dL_act_408 : decode cL_act 408 = .ok (.goto 36, 3) := by decide +kernel
theorem dL_act_411 : decode cL_act 411 = .ok (.iload_n 3, 1) := by decide +kernel
theorem dL_act_412 : decode cL_act 412 = .ok (.iconst 3, 1) := by decide +kernel
theorem dL_act_413 : decode cL_act 413 = .ok (.irem, 1) := by decide +kernel
theorem dL_act_414 : decode cL_act 414 = .ok (.iconst 1, 1) := by decide +kernel
theorem dL_act_415 : decode cL_act 415 = .ok (.if_icmp .ne 10, 3) := by decide +kernel
theorem dL_act_418 : decode cL_act 418 = .ok (.aload_n 0, 1) := by decide +kernel
theorem dL_act_419 : decode cL_act 419 = .ok (.invokevirtual 180, 3) := by decide +kernel
theorem dL_act_422 : decode cL_act 422 = .ok (.goto 22, 3) := by decide +kernel
theorem dL_act_425 : decode cL_act 425 = .ok (.aload_n 0, 1) := by decide +kernel
theorem dL_act_426 : decode cL_act 426 = .ok (.aload_n 1, 1) := by decide +kernel
theorem dL_act_427 : decode cL_act 427 = .ok (.iconst 1, 1) := by decide +kernel
theorem dL_act_428 : decode cL_act 428 = .ok (.iaload, 1) := by decide +kernel
theorem dL_act_429 : decode cL_act 429 = .ok (.ifCond .ne 7, 3) := by decide +kernel
theorem dL_act_432 : decode cL_act 432 = .ok (.iconst 0, 1) := by decide +kernel
theorem dL_act_433 : decode cL_act 433 = .ok (.goto 8, 3) := by decide +kernel
theorem dL_act_436 : decode cL_act 436 = .ok (.iload_n 3, 1) := by decide +kernel
theorem dL_act_437 : decode cL_act 437 = .ok (.aload_n 1, 1) := by decide +kernel
theorem dL_act_438 : decode cL_act 438 = .ok (.iconst 1, 1) := by decide +kernel
theorem dL_act_439 : decode cL_act 439 = .ok (.iaload, 1) := by decide +kernel
theorem dL_act_440 : decode cL_act 440 = .ok (.irem, 1) := by decide +kernel
theorem dL_act_441 : decode cL_act 441 = .ok (.invokestatic 133, 3) := by decide +kernel
theorem dL_act_444 : decode cL_act 444 = .ok (.ireturn, 1) := by decide +kernel
theorem dL_act_445 : decode cL_act 445 = .ok (.aload_n 0, 1) := by decide +kernel
theorem dL_act_446 : decode cL_act 446 = .ok (.aload_n 1, 1) := by decide +kernel
theorem dL_act_447 : decode cL_act 447 = .ok (.iconst 1, 1) := by decide +kernel
theorem dL_act_448 : decode cL_act 448 = .ok (.iaload, 1) := by decide +kernel
theorem dL_act_449 : decode cL_act 449 = .ok (.ifCond .ne 7, 3) := by decide +kernel
theorem dL_act_452 : decode cL_act 452 = .ok (.iconst 0, 1) := by decide +kernel
theorem dL_act_453 : decode cL_act 453 = .ok (.goto 10, 3) := by decide +kernel
theorem dL_act_456 : decode cL_act 456 = .ok (.iload_n 3, 1) := by decide +kernel
theorem dL_act_457 : decode cL_act 457 = .ok (.iconst 3, 1) := by decide +kernel
theorem dL_act_458 : decode cL_act 458 = .ok (.idiv, 1) := by decide +kernel
theorem dL_act_459 : decode cL_act 459 = .ok (.aload_n 1, 1) := by decide +kernel
theorem dL_act_460 : decode cL_act 460 = .ok (.iconst 1, 1) := by decide +kernel
theorem dL_act_461 : decode cL_act 461 = .ok (.iaload, 1) := by decide +kernel
theorem dL_act_462 : decode cL_act 462 = .ok (.irem, 1) := by decide +kernel
theorem dL_act_463 : decode cL_act 463 = .ok (.invokestatic 133, 3) := by decide +kernel
theorem dL_act_466 : decode cL_act 466 = .ok (.ireturn, 1) := by decide +kernel
theorem dL_count_0 : decode cL_count 0 = .ok (.iload_n 1, 1) := by decide +kernel
theorem dL_count_1 : decode cL_count 1 = .ok (.bipush 16, 2) := by decide +kernel
theorem dL_count_3 : decode cL_count 3 = .ok (.irem, 1) := by decide +kernel
theorem dL_count_4 : decode cL_count 4 = .ok (.istore_n 3, 1) := by decide +kernel
theorem dL_count_5 : decode cL_count 5 = .ok (.iload_n 1, 1) := by decide +kernel
theorem dL_count_6 : decode cL_count 6 = .ok (.bipush 16, 2) := by decide +kernel
theorem dL_count_8 : decode cL_count 8 = .ok (.idiv, 1) := by decide +kernel
theorem dL_count_9 : decode cL_count 9 = .ok (.istore 4, 2) := by decide +kernel
theorem dL_count_11 : decode cL_count 11 = .ok (.aload_n 0, 1) := by decide +kernel
theorem dL_count_12 : decode cL_count 12 = .ok (.iconst 0, 1) := by decide +kernel
theorem dL_count_13 : decode cL_count 13 = .ok (.dup2, 1) := by decide +kernel
theorem dL_count_14 : decode cL_count 14 = .ok (.iaload, 1) := by decide +kernel
theorem dL_count_15 : decode cL_count 15 = .ok (.iload_n 3, 1) := by decide +kernel
theorem dL_count_16 : decode cL_count 16 = .ok (.iconst 3, 1) := by decide +kernel
theorem dL_count_17 : decode cL_count 17 = .ok (.if_icmp .ge 11, 3) := by decide +kernel
theorem dL_count_20 : decode cL_count 20 = .ok (.iload_n 2, 1) := by decide +kernel
theorem dL_count_21 : decode cL_count 21 = .ok (.ifCond .lt 7, 3) := by decide +kernel
theorem dL_count_24 : decode cL_count 24 = .ok (.iconst 1, 1) := by decide +kernel
theorem dL_count_25 : decode cL_count 25 = .ok (.goto 4, 3) := by decide +kernel
theorem dL_count_28 : decode cL_count 28 = .ok (.iconst 0, 1) := by decide +kernel
theorem dL_count_29 : decode cL_count 29 = .ok (.iadd, 1) := by decide +kernel
theorem dL_count_30 : decode cL_count 30 = .ok (.iastore, 1) := by decide +kernel
theorem dL_count_31 : decode cL_count 31 = .ok (.aload_n 0, 1) := by decide +kernel
theorem dL_count_32 : decode cL_count 32 = .ok (.iconst 5, 1) := by decide +kernel
theorem dL_count_33 : decode cL_count 33 = .ok (.dup2, 1) := by decide +kernel
theorem dL_count_34 : decode cL_count 34 = .ok (.iaload, 1) := by decide +kernel
theorem dL_count_35 : decode cL_count 35 = .ok (.iload_n 3, 1) := by decide +kernel
theorem dL_count_36 : decode cL_count 36 = .ok (.iconst 4, 1) := by decide +kernel
theorem dL_count_37 : decode cL_count 37 = .ok (.if_icmp .ne 18, 3) := by decide +kernel
theorem dL_count_40 : decode cL_count 40 = .ok (.iload 4, 2) := by decide +kernel
theorem dL_count_42 : decode cL_count 42 = .ok (.iconst 5, 1) := by decide +kernel
theorem dL_count_43 : decode cL_count 43 = .ok (.irem, 1) := by decide +kernel
theorem dL_count_44 : decode cL_count 44 = .ok (.ifCond .ne 11, 3) := by decide +kernel
theorem dL_count_47 : decode cL_count 47 = .ok (.iload_n 2, 1) := by decide +kernel
theorem dL_count_48 : decode cL_count 48 = .ok (.ifCond .lt 7, 3) := by decide +kernel
theorem dL_count_51 : decode cL_count 51 = .ok (.iconst 1, 1) := by decide +kernel
theorem dL_count_52 : decode cL_count 52 = .ok (.goto 4, 3) := by decide +kernel
theorem dL_count_55 : decode cL_count 55 = .ok (.iconst 0, 1) := by decide +kernel
theorem dL_count_56 : decode cL_count 56 = .ok (.iadd, 1) := by decide +kernel
theorem dL_count_57 : decode cL_count 57 = .ok (.iastore, 1) := by decide +kernel
theorem dL_count_58 : decode cL_count 58 = .ok (.iload_n 3, 1) := by decide +kernel
theorem dL_count_59 : decode cL_count 59 = .ok (.bipush 6, 2) := by decide +kernel
theorem dL_count_61 : decode cL_count 61 = .ok (.if_icmp .le 17, 3) := by decide +kernel
theorem dL_count_64 : decode cL_count 64 = .ok (.iload_n 3, 1) := by decide +kernel
theorem dL_count_65 : decode cL_count 65 = .ok (.bipush 10, 2) := by decide +kernel
theorem dL_count_67 : decode cL_count 67 = .ok (.if_icmp .ge 11, 3) := by decide +kernel
theorem dL_count_70 : decode cL_count 70 = .ok (.iload_n 2, 1) := by decide +kernel
theorem dL_count_71 : decode cL_count 71 = .ok (.ifCond .le 7, 3) := by decide +kernel
theorem dL_count_74 : decode cL_count 74 = .ok (.iconst 1, 1) := by decide +kernel
theorem dL_count_75 : decode cL_count 75 = .ok (.goto 4, 3) := by decide +kernel
theorem dL_count_78 : decode cL_count 78 = .ok (.iconst 0, 1) := by decide +kernel
theorem dL_count_79 : decode cL_count 79 = .ok (.istore 5, 2) := by decide +kernel
theorem dL_count_81 : decode cL_count 81 = .ok (.aload_n 0, 1) := by decide +kernel
theorem dL_count_82 : decode cL_count 82 = .ok (.iconst 3, 1) := by decide +kernel
theorem dL_count_83 : decode cL_count 83 = .ok (.dup2, 1) := by decide +kernel
theorem dL_count_84 : decode cL_count 84 = .ok (.iaload, 1) := by decide +kernel
theorem dL_count_85 : decode cL_count 85 = .ok (.iload 5, 2) := by decide +kernel
theorem dL_count_87 : decode cL_count 87 = .ok (.ifCond .ne 13, 3) := by decide +kernel
theorem dL_count_90 : decode cL_count 90 = .ok (.iload_n 3, 1) := by decide +kernel
theorem dL_count_91 : decode cL_count 91 = .ok (.bipush 10, 2) := by decide +kernel
theorem dL_count_93 : decode cL_count 93 = .ok (.if_icmp .ne 11, 3) := by decide +kernel
theorem dL_count_96 : decode cL_count 96 = .ok (.iload_n 2, 1) := by decide +kernel
theorem dL_count_97 : decode cL_count 97 = .ok (.ifCond .le 7, 3) := by decide +kernel
theorem dL_count_100 : decode cL_count 100 = .ok (.iconst 1, 1) := by decide +kernel
theorem dL_count_101 : decode cL_count 101 = .ok (.goto 4, 3) := by decide +kernel
theorem dL_count_104 : decode cL_count 104 = .ok (.iconst 0, 1) := by decide +kernel
theorem dL_count_105 : decode cL_count 105 = .ok (.iadd, 1) := by decide +kernel
theorem dL_count_106 : decode cL_count 106 = .ok (.iastore, 1) := by decide +kernel
theorem dL_count_107 : decode cL_count 107 = .ok (.aload_n 0, 1) := by decide +kernel
theorem dL_count_108 : decode cL_count 108 = .ok (.iconst 4, 1) := by decide +kernel
theorem dL_count_109 : decode cL_count 109 = .ok (.dup2, 1) := by decide +kernel
theorem dL_count_110 : decode cL_count 110 = .ok (.iaload, 1) := by decide +kernel
theorem dL_count_111 : decode cL_count 111 = .ok (.iload 5, 2) := by decide +kernel
theorem dL_count_113 : decode cL_count 113 = .ok (.ifCond .eq 16, 3) := by decide +kernel
theorem dL_count_116 : decode cL_count 116 = .ok (.iload 4, 2) := by decide +kernel
theorem dL_count_118 : decode cL_count 118 = .ok (.iconst 3, 1) := by decide +kernel
theorem dL_count_119 : decode cL_count 119 = .ok (.idiv, 1) := by decide +kernel
theorem dL_count_120 : decode cL_count 120 = .ok (.iconst 5, 1) := by decide +kernel
theorem dL_count_121 : decode cL_count 121 = .ok (.irem, 1) := by decide +kernel
theorem dL_count_122 : decode cL_count 122 = .ok (.ifCond .le 7, 3) := by decide +kernel
theorem dL_count_125 : decode cL_count 125 = .ok (.iconst 1, 1) := by decide +kernel
theorem dL_count_126 : decode cL_count 126 = .ok (.goto 4, 3) := by decide +kernel
theorem dL_count_129 : decode cL_count 129 = .ok (.iconst 0, 1) := by decide +kernel
theorem dL_count_130 : decode cL_count 130 = .ok (.iadd, 1) := by decide +kernel
theorem dL_count_131 : decode cL_count 131 = .ok (.iastore, 1) := by decide +kernel
theorem dL_count_132 : decode cL_count 132 = .ok (.iload_n 3, 1) := by decide +kernel
theorem dL_count_133 : decode cL_count 133 = .ok (.bipush 10, 2) := by decide +kernel
theorem dL_count_135 : decode cL_count 135 = .ok (.if_icmp .le 17, 3) := by decide +kernel
theorem dL_count_138 : decode cL_count 138 = .ok (.iload_n 3, 1) := by decide +kernel
theorem dL_count_139 : decode cL_count 139 = .ok (.bipush 14, 2) := by decide +kernel
theorem dL_count_141 : decode cL_count 141 = .ok (.if_icmp .ge 11, 3) := by decide +kernel
theorem dL_count_144 : decode cL_count 144 = .ok (.iload_n 2, 1) := by decide +kernel
theorem dL_count_145 : decode cL_count 145 = .ok (.ifCond .lt 7, 3) := by decide +kernel
theorem dL_count_148 : decode cL_count 148 = .ok (.iconst 1, 1) := by decide +kernel
theorem dL_count_149 : decode cL_count 149 = .ok (.goto 4, 3) := by decide +kernel
theorem dL_count_152 : decode cL_count 152 = .ok (.iconst 0, 1) := by decide +kernel
theorem dL_count_153 : decode cL_count 153 = .ok (.istore 6, 2) := by decide +kernel
theorem dL_count_155 : decode cL_count 155 = .ok (.iload_n 3, 1) := by decide +kernel
theorem dL_count_156 : decode cL_count 156 = .ok (.bipush 14, 2) := by decide +kernel
theorem dL_count_158 : decode cL_count 158 = .ok (.if_icmp .ne 18, 3) := by decide +kernel
theorem dL_count_161 : decode cL_count 161 = .ok (.iload 4, 2) := by decide +kernel
theorem dL_count_163 : decode cL_count 163 = .ok (.iconst 3, 1) := by decide +kernel
theorem dL_count_164 : decode cL_count 164 = .ok (.irem, 1) := by decide +kernel
theorem dL_count_165 : decode cL_count 165 = .ok (.ifCond .ne 11, 3) := by decide +kernel
theorem dL_count_168 : decode cL_count 168 = .ok (.iload_n 2, 1) := by decide +kernel
theorem dL_count_169 : decode cL_count 169 = .ok (.ifCond .lt 7, 3) := by decide +kernel
theorem dL_count_172 : decode cL_count 172 = .ok (.iconst 1, 1) := by decide +kernel
theorem dL_count_173 : decode cL_count 173 = .ok (.goto 4, 3) := by decide +kernel
theorem dL_count_176 : decode cL_count 176 = .ok (.iconst 0, 1) := by decide +kernel
theorem dL_count_177 : decode cL_count 177 = .ok (.istore 7, 2) := by decide +kernel
theorem dL_count_179 : decode cL_count 179 = .ok (.aload_n 0, 1) := by decide +kernel
theorem dL_count_180 : decode cL_count 180 = .ok (.iconst 1, 1) := by decide +kernel
theorem dL_count_181 : decode cL_count 181 = .ok (.dup2, 1) := by decide +kernel
theorem dL_count_182 : decode cL_count 182 = .ok (.iaload, 1) := by decide +kernel
theorem dL_count_183 : decode cL_count 183 = .ok (.iload 6, 2) := by decide +kernel
theorem dL_count_185 : decode cL_count 185 = .ok (.ifCond .eq 7, 3) := by decide +kernel
theorem dL_count_188 : decode cL_count 188 = .ok (.iconst 1, 1) := by decide +kernel
theorem dL_count_189 : decode cL_count 189 = .ok (.goto 4, 3) := by decide +kernel
theorem dL_count_192 : decode cL_count 192 = .ok (.iconst 0, 1) := by decide +kernel
theorem dL_count_193 : decode cL_count 193 = .ok (.iadd, 1) := by decide +kernel
theorem dL_count_194 : decode cL_count 194 = .ok (.iastore, 1) := by decide +kernel
theorem dL_count_195 : decode cL_count 195 = .ok (.aload_n 0, 1) := by decide +kernel
theorem dL_count_196 : decode cL_count 196 = .ok (.iconst 2, 1) := by decide +kernel
theorem dL_count_197 : decode cL_count 197 = .ok (.dup2, 1) := by decide +kernel
theorem dL_count_198 : decode cL_count 198 = .ok (.iaload, 1) := by decide +kernel
theorem dL_count_199 : decode cL_count 199 = .ok (.iload 7, 2) := by decide +kernel
theorem dL_count_201 : decode cL_count 201 = .ok (.ifCond .eq 7, 3) := by decide +kernel
theorem dL_count_204 : decode cL_count 204 = .ok (.iconst 1, 1) := by decide +kernel
theorem dL_count_205 : decode cL_count 205 = .ok (.goto 4, 3) := by decide +kernel
theorem dL_count_208 : decode cL_count 208 = .ok (.iconst 0, 1) := by decide +kernel
theorem dL_count_209 : decode cL_count 209 = .ok (.iadd, 1) := by decide +kernel
theorem dL_count_210 : decode cL_count 210 = .ok (.iastore, 1) := by decide +kernel
theorem dL_count_211 : decode cL_count 211 = .ok (.iload 6, 2) := by decide +kernel
theorem dL_count_213 : decode cL_count 213 = .ok (.ifCond .ne 22, 3) := by decide +kernel
theorem dL_count_216 : decode cL_count 216 = .ok (.iload 7, 2) := by decide +kernel
theorem dL_count_218 : decode cL_count 218 = .ok (.ifCond .ne 17, 3) := by decide +kernel
theorem dL_count_221 : decode cL_count 221 = .ok (.iload_n 3, 1) := by decide +kernel
theorem dL_count_222 : decode cL_count 222 = .ok (.bipush 14, 2) := by decide +kernel
theorem dL_count_224 : decode cL_count 224 = .ok (.if_icmp .ne 19, 3) := by decide +kernel
theorem dL_count_227 : decode cL_count 227 = .ok (.iload 4, 2) := by decide +kernel
theorem dL_count_229 : decode cL_count 229 = .ok (.iconst 3, 1) := by decide +kernel
theorem dL_count_230 : decode cL_count 230 = .ok (.irem, 1) := by decide +kernel
theorem dL_count_231 : decode cL_count 231 = .ok (.iconst 1, 1) := by decide +kernel
theorem dL_count_232 : decode cL_count 232 = .ok (.if_icmp .ne 11, 3) := by decide +kernel
theorem dL_count_235 : decode cL_count 235 = .ok (.aload_n 0, 1) := by decide +kernel
theorem dL_count_236 : decode cL_count 236 = .ok (.iconst 3, 1) := by decide +kernel
theorem dL_count_237 : decode cL_count 237 = .ok (.iconst 0, 1) := by decide +kernel
theorem dL_count_238 : decode cL_count 238 = .ok (.iastore, 1) := by decide +kernel
theorem dL_count_239 : decode cL_count 239 = .ok (.aload_n 0, 1) := by decide +kernel
theorem dL_count_240 : decode cL_count 240 = .ok (.iconst 4, 1) := by decide +kernel
theorem dL_count_241 : decode cL_count 241 = .ok (.iconst 0, 1) := by decide +kernel
theorem dL_count_242 : decode cL_count 242 = .ok (.iastore, 1) := by decide +kernel
theorem dL_count_243 : decode cL_count 243 = .ok (.return_, 1) := by decide +kernel
theorem dL_alike_0 : decode cL_alike 0 = .ok (.aload_n 0, 1) := by decide +kernel
theorem dL_alike_1 : decode cL_alike 1 = .ok (.invokevirtual 183, 3) := by decide +kernel
theorem dL_alike_4 : decode cL_alike 4 = .ok (.aload_n 1, 1) := by decide +kernel
theorem dL_alike_5 : decode cL_alike 5 = .ok (.invokevirtual 183, 3) := by decide +kernel
theorem dL_alike_8 : decode cL_alike 8 = .ok (.if_icmp .ne 7, 3) := by decide +kernel
theorem dL_alike_11 : decode cL_alike 11 = .ok (.iconst 1, 1) := by decide +kernel
theorem dL_alike_12 : decode cL_alike 12 = .ok (.goto 4, 3) := by decide +kernel
theorem dL_alike_15 : decode cL_alike 15 = .ok (.iconst 0, 1) := by decide +kernel
theorem dL_alike_16 : decode cL_alike 16 = .ok (.istore 4, 2) := by decide +kernel
theorem dL_alike_18 : decode cL_alike 18 = .ok (.iconst 0, 1) := by decide +kernel
theorem dL_alike_19 : decode cL_alike 19 = .ok (.istore 5, 2) := by decide +kernel
theorem dL_alike_21 : decode cL_alike 21 = .ok (.iload 5, 2) := by decide +kernel
theorem dL_alike_23 : decode cL_alike 23 = .ok (.bipush 6, 2) := by decide +kernel
theorem dL_alike_25 : decode cL_alike 25 = .ok (.if_icmp .ge 117, 3) := by decide +kernel
theorem dL_alike_28 : decode cL_alike 28 = .ok (.iload 4, 2) := by decide +kernel
theorem dL_alike_30 : decode cL_alike 30 = .ok (.ifCond .eq 112, 3) := by decide +kernel
theorem dL_alike_33 : decode cL_alike 33 = .ok (.aload_n 0, 1) := by decide +kernel
theorem dL_alike_34 : decode cL_alike 34 = .ok (.iload 5, 2) := by decide +kernel
theorem dL_alike_36 : decode cL_alike 36 = .ok (.invokestatic 151, 3) := by decide +kernel
theorem dL_alike_39 : decode cL_alike 39 = .ok (.aload_n 1, 1) := by decide +kernel
theorem dL_alike_40 : decode cL_alike 40 = .ok (.iload 5, 2) := by decide +kernel
theorem dL_alike_42 : decode cL_alike 42 = .ok (.invokestatic 151, 3) := by decide +kernel
theorem dL_alike_45 : decode cL_alike 45 = .ok (.if_icmp .ne 37, 3) := by decide +kernel
theorem dL_alike_48 : decode cL_alike 48 = .ok (.aload_n 0, 1) := by decide +kernel
theorem dL_alike_49 : decode cL_alike 49 = .ok (.iload 5, 2) := by decide +kernel
theorem dL_alike_51 : decode cL_alike 51 = .ok (.invokestatic 156, 3) := by decide +kernel
theorem dL_alike_54 : decode cL_alike 54 = .ok (.aload_n 1, 1) := by decide +kernel
theorem dL_alike_55 : decode cL_alike 55 = .ok (.iload 5, 2) := by decide +kernel
theorem dL_alike_57 : decode cL_alike 57 = .ok (.invokestatic 156, 3) := by decide +kernel
theorem dL_alike_60 : decode cL_alike 60 = .ok (.if_icmp .ne 22, 3) := by decide +kernel
theorem dL_alike_63 : decode cL_alike 63 = .ok (.aload_n 0, 1) := by decide +kernel
theorem dL_alike_64 : decode cL_alike 64 = .ok (.iload 5, 2) := by decide +kernel
theorem dL_alike_66 : decode cL_alike 66 = .ok (.invokestatic 172, 3) := by decide +kernel
theorem dL_alike_69 : decode cL_alike 69 = .ok (.aload_n 1, 1) := by decide +kernel
theorem dL_alike_70 : decode cL_alike 70 = .ok (.iload 5, 2) := by decide +kernel
theorem dL_alike_72 : decode cL_alike 72 = .ok (.invokestatic 172, 3) := by decide +kernel
theorem dL_alike_75 : decode cL_alike 75 = .ok (.if_icmp .ne 7, 3) := by decide +kernel
theorem dL_alike_78 : decode cL_alike 78 = .ok (.iconst 1, 1) := by decide +kernel
theorem dL_alike_79 : decode cL_alike 79 = .ok (.goto 4, 3) := by decide +kernel
theorem dL_alike_82 : decode cL_alike 82 = .ok (.iconst 0, 1) := by decide +kernel
theorem dL_alike_83 : decode cL_alike 83 = .ok (.istore 4, 2) := by decide +kernel
theorem dL_alike_85 : decode cL_alike 85 = .ok (.iconst 0, 1) := by decide +kernel
theorem dL_alike_86 : decode cL_alike 86 = .ok (.istore 6, 2) := by decide +kernel
theorem dL_alike_88 : decode cL_alike 88 = .ok (.iload 6, 2) := by decide +kernel
theorem dL_alike_90 : decode cL_alike 90 = .ok (.aload_n 0, 1) := by decide +kernel
theorem dL_alike_91 : decode cL_alike 91 = .ok (.iload 5, 2) := by decide +kernel
theorem dL_alike_93 : decode cL_alike 93 = .ok (.invokestatic 151, 3) := by decide +kernel
theorem dL_alike_96 : decode cL_alike 96 = .ok (.if_icmp .ge 40, 3) := by decide +kernel
theorem dL_alike_99 : decode cL_alike 99 = .ok (.iload 4, 2) := by decide +kernel
theorem dL_alike_101 : decode cL_alike 101 = .ok (.ifCond .eq 35, 3) := by decide +kernel
theorem dL_alike_104 : decode cL_alike 104 = .ok (.aload_n 0, 1) := by decide +kernel
theorem dL_alike_105 : decode cL_alike 105 = .ok (.iload 5, 2) := by decide +kernel
theorem dL_alike_107 : decode cL_alike 107 = .ok (.iload 6, 2) := by decide +kernel
theorem dL_alike_109 : decode cL_alike 109 = .ok (.invokestatic 153, 3) := by decide +kernel
theorem dL_alike_112 : decode cL_alike 112 = .ok (.aload_n 1, 1) := by decide +kernel
theorem dL_alike_113 : decode cL_alike 113 = .ok (.iload 5, 2) := by decide +kernel
theorem dL_alike_115 : decode cL_alike 115 = .ok (.iload 6, 2) := by decide +kernel
theorem dL_alike_117 : decode cL_alike 117 = .ok (.invokestatic 153, 3) := by decide +kernel
theorem dL_alike_120 : decode cL_alike 120 = .ok (.if_icmp .ne 7, 3) := by decide +kernel
theorem dL_alike_123 : decode cL_alike 123 = .ok (.iconst 1, 1) := by decide +kernel
theorem dL_alike_124 : decode cL_alike 124 = .ok (.goto 4, 3) := by decide +kernel
theorem dL_alike_127 : decode cL_alike 127 = .ok (.iconst 0, 1) := by decide +kernel
theorem dL_alike_128 : decode cL_alike 128 = .ok (.istore 4, 2) := by decide +kernel
theorem dL_alike_130 : decode cL_alike 130 = .ok (.iinc 6 1, 3) := by decide +kernel
theorem dL_alike_133 : decode cL_alike 133 = .ok (.goto (-45), 3) := by decide +kernel
theorem dL_alike_136 : decode cL_alike 136 = .ok (.iinc 5 1, 3) := by decide +kernel
theorem dL_alike_139 : decode cL_alike 139 = .ok (.goto (-118), 3) := by decide +kernel
theorem dL_alike_142 : decode cL_alike 142 = .ok (.iconst 0, 1) := by decide +kernel
theorem dL_alike_143 : decode cL_alike 143 = .ok (.istore 5, 2) := by decide +kernel
theorem dL_alike_145 : decode cL_alike 145 = .ok (.iload 5, 2) := by decide +kernel
theorem dL_alike_147 : decode cL_alike 147 = .ok (.aload_n 2, 1) := by decide +kernel
theorem dL_alike_148 : decode cL_alike 148 = .ok (.iconst 1, 1) := by decide +kernel
theorem dL_alike_149 : decode cL_alike 149 = .ok (.iaload, 1) := by decide +kernel
theorem dL_alike_150 : decode cL_alike 150 = .ok (.if_icmp .ge 57, 3) := by decide +kernel
theorem dL_alike_153 : decode cL_alike 153 = .ok (.iload 4, 2) := by decide +kernel
theorem dL_alike_155 : decode cL_alike 155 = .ok (.ifCond .eq 52, 3) := by decide +kernel
theorem dL_alike_158 : decode cL_alike 158 = .ok (.aload_n 0, 1) := by decide +kernel
theorem dL_alike_159 : decode cL_alike 159 = .ok (.iload 5, 2) := by decide +kernel
theorem dL_alike_161 : decode cL_alike 161 = .ok (.invokestatic 170, 3) := by decide +kernel
theorem dL_alike_164 : decode cL_alike 164 = .ok (.aload_n 1, 1) := by decide +kernel
theorem dL_alike_165 : decode cL_alike 165 = .ok (.iload 5, 2) := by decide +kernel
theorem dL_alike_167 : decode cL_alike 167 = .ok (.invokestatic 170, 3) := by decide +kernel
theorem dL_alike_170 : decode cL_alike 170 = .ok (.if_icmp .ne 28, 3) := by decide +kernel
theorem dL_alike_173 : decode cL_alike 173 = .ok (.aload_n 0, 1) := by decide +kernel
theorem dL_alike_174 : decode cL_alike 174 = .ok (.iload 5, 2) := by decide +kernel
theorem dL_alike_176 : decode cL_alike 176 = .ok (.iload_n 3, 1) := by decide +kernel
theorem dL_alike_177 : decode cL_alike 177 = .ok (.iconst 3, 1) := by decide +kernel
theorem dL_alike_178 : decode cL_alike 178 = .ok (.irem, 1) := by decide +kernel
theorem dL_alike_179 : decode cL_alike 179 = .ok (.invokestatic 168, 3) := by decide +kernel
theorem dL_alike_182 : decode cL_alike 182 = .ok (.aload_n 1, 1) := by decide +kernel
theorem dL_alike_183 : decode cL_alike 183 = .ok (.iload 5, 2) := by decide +kernel
theorem dL_alike_185 : decode cL_alike 185 = .ok (.iload_n 3, 1) := by decide +kernel
theorem dL_alike_186 : decode cL_alike 186 = .ok (.iconst 3, 1) := by decide +kernel
theorem dL_alike_187 : decode cL_alike 187 = .ok (.irem, 1) := by decide +kernel
theorem dL_alike_188 : decode cL_alike 188 = .ok (.invokestatic 168, 3) := by decide +kernel
theorem dL_alike_191 : decode cL_alike 191 = .ok (.if_icmp .ne 7, 3) := by decide +kernel
theorem dL_alike_194 : decode cL_alike 194 = .ok (.iconst 1, 1) := by decide +kernel
theorem dL_alike_195 : decode cL_alike 195 = .ok (.goto 4, 3) := by decide +kernel
theorem dL_alike_198 : decode cL_alike 198 = .ok (.iconst 0, 1) := by decide +kernel
theorem dL_alike_199 : decode cL_alike 199 = .ok (.istore 4, 2) := by decide +kernel
theorem dL_alike_201 : decode cL_alike 201 = .ok (.iinc 5 1, 3) := by decide +kernel
theorem dL_alike_204 : decode cL_alike 204 = .ok (.goto (-59), 3) := by decide +kernel
theorem dL_alike_207 : decode cL_alike 207 = .ok (.iload 4, 2) := by decide +kernel
theorem dL_alike_209 : decode cL_alike 209 = .ok (.ireturn, 1) := by decide +kernel
theorem dL_told_0 : decode cL_told 0 = .ok (.iconst (-1), 1) := by decide +kernel
theorem dL_told_1 : decode cL_told 1 = .ok (.istore 4, 2) := by decide +kernel
theorem dL_told_3 : decode cL_told 3 = .ok (.iconst 1, 1) := by decide +kernel
theorem dL_told_4 : decode cL_told 4 = .ok (.istore 5, 2) := by decide +kernel
theorem dL_told_6 : decode cL_told 6 = .ok (.iconst 0, 1) := by decide +kernel
theorem dL_told_7 : decode cL_told 7 = .ok (.istore 6, 2) := by decide +kernel
theorem dL_told_9 : decode cL_told 9 = .ok (.iload 6, 2) := by decide +kernel
theorem dL_told_11 : decode cL_told 11 = .ok (.aload_n 0, 1) := by decide +kernel
theorem dL_told_12 : decode cL_told 12 = .ok (.iload_n 2, 1) := by decide +kernel
theorem dL_told_13 : decode cL_told 13 = .ok (.invokestatic 151, 3) := by decide +kernel
theorem dL_told_16 : decode cL_told 16 = .ok (.if_icmp .ge 177, 3) := by decide +kernel
theorem dL_told_19 : decode cL_told 19 = .ok (.iload 5, 2) := by decide +kernel
theorem dL_told_21 : decode cL_told 21 = .ok (.ifCond .eq 172, 3) := by decide +kernel
theorem dL_told_24 : decode cL_told 24 = .ok (.aload_n 0, 1) := by decide +kernel
theorem dL_told_25 : decode cL_told 25 = .ok (.iload_n 2, 1) := by decide +kernel
theorem dL_told_26 : decode cL_told 26 = .ok (.iload 6, 2) := by decide +kernel
theorem dL_told_28 : decode cL_told 28 = .ok (.invokestatic 153, 3) := by decide +kernel
theorem dL_told_31 : decode cL_told 31 = .ok (.istore 7, 2) := by decide +kernel
theorem dL_told_33 : decode cL_told 33 = .ok (.iload 7, 2) := by decide +kernel
theorem dL_told_35 : decode cL_told 35 = .ok (.sipush 16384, 3) := by decide +kernel
theorem dL_told_38 : decode cL_told 38 = .ok (.idiv, 1) := by decide +kernel
theorem dL_told_39 : decode cL_told 39 = .ok (.istore 8, 2) := by decide +kernel
theorem dL_told_41 : decode cL_told 41 = .ok (.iload 7, 2) := by decide +kernel
theorem dL_told_43 : decode cL_told 43 = .ok (.sipush 128, 3) := by decide +kernel
theorem dL_told_46 : decode cL_told 46 = .ok (.idiv, 1) := by decide +kernel
theorem dL_told_47 : decode cL_told 47 = .ok (.sipush 128, 3) := by decide +kernel
theorem dL_told_50 : decode cL_told 50 = .ok (.irem, 1) := by decide +kernel
theorem dL_told_51 : decode cL_told 51 = .ok (.istore 9, 2) := by decide +kernel
theorem dL_told_53 : decode cL_told 53 = .ok (.iload 7, 2) := by decide +kernel
theorem dL_told_55 : decode cL_told 55 = .ok (.sipush 128, 3) := by decide +kernel
theorem dL_told_58 : decode cL_told 58 = .ok (.irem, 1) := by decide +kernel
theorem dL_told_59 : decode cL_told 59 = .ok (.istore 10, 2) := by decide +kernel
theorem dL_told_61 : decode cL_told 61 = .ok (.aload_n 0, 1) := by decide +kernel
theorem dL_told_62 : decode cL_told 62 = .ok (.iload_n 2, 1) := by decide +kernel
theorem dL_told_63 : decode cL_told 63 = .ok (.iload 8, 2) := by decide +kernel
theorem dL_told_65 : decode cL_told 65 = .ok (.iload 9, 2) := by decide +kernel
theorem dL_told_67 : decode cL_told 67 = .ok (.iload 10, 2) := by decide +kernel
theorem dL_told_69 : decode cL_told 69 = .ok (.invokestatic 160, 3) := by decide +kernel
theorem dL_told_72 : decode cL_told 72 = .ok (.istore 11, 2) := by decide +kernel
theorem dL_told_74 : decode cL_told 74 = .ok (.iload 6, 2) := by decide +kernel
theorem dL_told_76 : decode cL_told 76 = .ok (.iconst 5, 1) := by decide +kernel
theorem dL_told_77 : decode cL_told 77 = .ok (.irem, 1) := by decide +kernel
theorem dL_told_78 : decode cL_told 78 = .ok (.iload_n 3, 1) := by decide +kernel
theorem dL_told_79 : decode cL_told 79 = .ok (.iconst 5, 1) := by decide +kernel
theorem dL_told_80 : decode cL_told 80 = .ok (.irem, 1) := by decide +kernel
theorem dL_told_81 : decode cL_told 81 = .ok (.if_icmp .ne 17, 3) := by decide +kernel
theorem dL_told_84 : decode cL_told 84 = .ok (.aload_n 0, 1) := by decide +kernel
theorem dL_told_85 : decode cL_told 85 = .ok (.iload_n 2, 1) := by decide +kernel
theorem dL_told_86 : decode cL_told 86 = .ok (.iload 8, 2) := by decide +kernel
theorem dL_told_88 : decode cL_told 88 = .ok (.iload 9, 2) := by decide +kernel
theorem dL_told_90 : decode cL_told 90 = .ok (.iload 10, 2) := by decide +kernel
theorem dL_told_92 : decode cL_told 92 = .ok (.invokestatic 162, 3) := by decide +kernel
theorem dL_told_95 : decode cL_told 95 = .ok (.goto 4, 3) := by decide +kernel
theorem dL_told_98 : decode cL_told 98 = .ok (.iconst 0, 1) := by decide +kernel
theorem dL_told_99 : decode cL_told 99 = .ok (.istore 12, 2) := by decide +kernel
theorem dL_told_101 : decode cL_told 101 = .ok (.iload 7, 2) := by decide +kernel
theorem dL_told_103 : decode cL_told 103 = .ok (.iload 4, 2) := by decide +kernel
theorem dL_told_105 : decode cL_told 105 = .ok (.if_icmp .le 75, 3) := by decide +kernel
theorem dL_told_108 : decode cL_told 108 = .ok (.aload_n 0, 1) := by decide +kernel
theorem dL_told_109 : decode cL_told 109 = .ok (.iload_n 2, 1) := by decide +kernel
theorem dL_told_110 : decode cL_told 110 = .ok (.iload 8, 2) := by decide +kernel
theorem dL_told_112 : decode cL_told 112 = .ok (.iload 9, 2) := by decide +kernel
theorem dL_told_114 : decode cL_told 114 = .ok (.iload 10, 2) := by decide +kernel
theorem dL_told_116 : decode cL_told 116 = .ok (.invokestatic 143, 3) := by decide +kernel
theorem dL_told_119 : decode cL_told 119 = .ok (.iconst 1, 1) := by decide +kernel
theorem dL_told_120 : decode cL_told 120 = .ok (.if_icmp .ne 60, 3) := by decide +kernel
theorem dL_told_123 : decode cL_told 123 = .ok (.aload_n 0, 1) := by decide +kernel
theorem dL_told_124 : decode cL_told 124 = .ok (.iload_n 2, 1) := by decide +kernel
theorem dL_told_125 : decode cL_told 125 = .ok (.iload 8, 2) := by decide +kernel
theorem dL_told_127 : decode cL_told 127 = .ok (.iload 9, 2) := by decide +kernel
theorem dL_told_129 : decode cL_told 129 = .ok (.iload 10, 2) := by decide +kernel
theorem dL_told_131 : decode cL_told 131 = .ok (.aload_n 1, 1) := by decide +kernel
theorem dL_told_132 : decode cL_told 132 = .ok (.iconst 5, 1) := by decide +kernel
theorem dL_told_133 : decode cL_told 133 = .ok (.iaload, 1) := by decide +kernel
theorem dL_told_134 : decode cL_told 134 = .ok (.invokestatic 148, 3) := by decide +kernel
theorem dL_told_137 : decode cL_told 137 = .ok (.iconst 1, 1) := by decide +kernel
theorem dL_told_138 : decode cL_told 138 = .ok (.if_icmp .ne 42, 3) := by decide +kernel
theorem dL_told_141 : decode cL_told 141 = .ok (.aload_n 0, 1) := by decide +kernel
theorem dL_told_142 : decode cL_told 142 = .ok (.iload_n 2, 1) := by decide +kernel
theorem dL_told_143 : decode cL_told 143 = .ok (.iload 8, 2) := by decide +kernel
theorem dL_told_145 : decode cL_told 145 = .ok (.iload 9, 2) := by decide +kernel
theorem dL_told_147 : decode cL_told 147 = .ok (.iload 10, 2) := by decide +kernel
theorem dL_told_149 : decode cL_told 149 = .ok (.invokestatic 158, 3) := by decide +kernel
theorem dL_told_152 : decode cL_told 152 = .ok (.ifCond .le 28, 3) := by decide +kernel
theorem dL_told_155 : decode cL_told 155 = .ok (.iload 11, 2) := by decide +kernel
theorem dL_told_157 : decode cL_told 157 = .ok (.ifCond .le 23, 3) := by decide +kernel
theorem dL_told_160 : decode cL_told 160 = .ok (.iload 11, 2) := by decide +kernel
theorem dL_told_162 : decode cL_told 162 = .ok (.ldc 186, 2) := by decide +kernel
theorem dL_told_164 : decode cL_told 164 = .ok (.if_icmp .gt 16, 3) := by decide +kernel
theorem dL_told_167 : decode cL_told 167 = .ok (.iload 12, 2) := by decide +kernel
theorem dL_told_169 : decode cL_told 169 = .ok (.aload_n 1, 1) := by decide +kernel
theorem dL_told_170 : decode cL_told 170 = .ok (.iconst 0, 1) := by decide +kernel
theorem dL_told_171 : decode cL_told 171 = .ok (.iaload, 1) := by decide +kernel
theorem dL_told_172 : decode cL_told 172 = .ok (.ishr, 1) := by decide +kernel
theorem dL_told_173 : decode cL_told 173 = .ok (.ifCond .ne 7, 3) := by decide +kernel
theorem dL_told_176 : decode cL_told 176 = .ok (.iconst 1, 1) := by decide +kernel
theorem dL_told_177 : decode cL_told 177 = .ok (.goto 4, 3) := by decide +kernel
theorem dL_told_180 : decode cL_told 180 = .ok (.iconst 0, 1) := by decide +kernel
theorem dL_told_181 : decode cL_told 181 = .ok (.istore 5, 2) := by decide +kernel
theorem dL_told_183 : decode cL_told 183 = .ok (.iload 7, 2) := by decide +kernel
theorem dL_told_185 : decode cL_told 185 = .ok (.istore 4, 2) := by decide +kernel
theorem dL_told_187 : decode cL_told 187 = .ok (.iinc 6 1, 3) := by decide +kernel
theorem dL_told_190 : decode cL_told 190 = .ok (.goto (-181), 3) := by decide +kernel
theorem dL_told_193 : decode cL_told 193 = .ok (.iload 5, 2) := by decide +kernel
theorem dL_told_195 : decode cL_told 195 = .ok (.ireturn, 1) := by decide +kernel
theorem dL_holdsAll_0 : decode cL_holdsAll 0 = .ok (.iconst 0, 1) := by decide +kernel
theorem dL_holdsAll_1 : decode cL_holdsAll 1 = .ok (.istore_n 3, 1) := by decide +kernel
theorem dL_holdsAll_2 : decode cL_holdsAll 2 = .ok (.iconst 1, 1) := by decide +kernel
theorem dL_holdsAll_3 : decode cL_holdsAll 3 = .ok (.istore 4, 2) := by decide +kernel
theorem dL_holdsAll_5 : decode cL_holdsAll 5 = .ok (.iconst 0, 1) := by decide +kernel
theorem dL_holdsAll_6 : decode cL_holdsAll 6 = .ok (.istore 5, 2) := by decide +kernel
theorem dL_holdsAll_8 : decode cL_holdsAll 8 = .ok (.iload 5, 2) := by decide +kernel
theorem dL_holdsAll_10 : decode cL_holdsAll 10 = .ok (.bipush 6, 2) := by decide +kernel
theorem dL_holdsAll_12 : decode cL_holdsAll 12 = .ok (.if_icmp .ge 61, 3) := by decide +kernel
theorem dL_holdsAll_15 : decode cL_holdsAll 15 = .ok (.iload 4, 2) := by decide +kernel
theorem dL_holdsAll_17 : decode cL_holdsAll 17 = .ok (.ifCond .eq 56, 3) := by decide +kernel
theorem dL_holdsAll_20 : decode cL_holdsAll 20 = .ok (.iload_n 3, 1) := by decide +kernel
theorem dL_holdsAll_21 : decode cL_holdsAll 21 = .ok (.aload_n 0, 1) := by decide +kernel
theorem dL_holdsAll_22 : decode cL_holdsAll 22 = .ok (.iload 5, 2) := by decide +kernel
theorem dL_holdsAll_24 : decode cL_holdsAll 24 = .ok (.invokestatic 151, 3) := by decide +kernel
theorem dL_holdsAll_27 : decode cL_holdsAll 27 = .ok (.iadd, 1) := by decide +kernel
theorem dL_holdsAll_28 : decode cL_holdsAll 28 = .ok (.istore_n 3, 1) := by decide +kernel
theorem dL_holdsAll_29 : decode cL_holdsAll 29 = .ok (.aload_n 0, 1) := by decide +kernel
theorem dL_holdsAll_30 : decode cL_holdsAll 30 = .ok (.aload_n 1, 1) := by decide +kernel
theorem dL_holdsAll_31 : decode cL_holdsAll 31 = .ok (.iload 5, 2) := by decide +kernel
theorem dL_holdsAll_33 : decode cL_holdsAll 33 = .ok (.iload_n 2, 1) := by decide +kernel
theorem dL_holdsAll_34 : decode cL_holdsAll 34 = .ok (.invokestatic 187, 3) := by decide +kernel
theorem dL_holdsAll_37 : decode cL_holdsAll 37 = .ok (.ifCond .eq 27, 3) := by decide +kernel
theorem dL_holdsAll_40 : decode cL_holdsAll 40 = .ok (.aload_n 0, 1) := by decide +kernel
theorem dL_holdsAll_41 : decode cL_holdsAll 41 = .ok (.iload 5, 2) := by decide +kernel
theorem dL_holdsAll_43 : decode cL_holdsAll 43 = .ok (.invokestatic 156, 3) := by decide +kernel
theorem dL_holdsAll_46 : decode cL_holdsAll 46 = .ok (.ifCond .lt 18, 3) := by decide +kernel
theorem dL_holdsAll_49 : decode cL_holdsAll 49 = .ok (.aload_n 0, 1) := by decide +kernel
theorem dL_holdsAll_50 : decode cL_holdsAll 50 = .ok (.iload 5, 2) := by decide +kernel
theorem dL_holdsAll_52 : decode cL_holdsAll 52 = .ok (.invokestatic 156, 3) := by decide +kernel
theorem dL_holdsAll_55 : decode cL_holdsAll 55 = .ok (.bipush 10, 2) := by decide +kernel
theorem dL_holdsAll_57 : decode cL_holdsAll 57 = .ok (.if_icmp .ge 7, 3) := by decide +kernel
theorem dL_holdsAll_60 : decode cL_holdsAll 60 = .ok (.iconst 1, 1) := by decide +kernel
theorem dL_holdsAll_61 : decode cL_holdsAll 61 = .ok (.goto 4, 3) := by decide +kernel
theorem dL_holdsAll_64 : decode cL_holdsAll 64 = .ok (.iconst 0, 1) := by decide +kernel
theorem dL_holdsAll_65 : decode cL_holdsAll 65 = .ok (.istore 4, 2) := by decide +kernel
theorem dL_holdsAll_67 : decode cL_holdsAll 67 = .ok (.iinc 5 1, 3) := by decide +kernel
theorem dL_holdsAll_70 : decode cL_holdsAll 70 = .ok (.goto (-62), 3) := by decide +kernel
theorem dL_holdsAll_73 : decode cL_holdsAll 73 = .ok (.iconst 0, 1) := by decide +kernel
theorem dL_holdsAll_74 : decode cL_holdsAll 74 = .ok (.istore 5, 2) := by decide +kernel
theorem dL_holdsAll_76 : decode cL_holdsAll 76 = .ok (.iload 5, 2) := by decide +kernel
theorem dL_holdsAll_78 : decode cL_holdsAll 78 = .ok (.bipush 12, 2) := by decide +kernel
theorem dL_holdsAll_80 : decode cL_holdsAll 80 = .ok (.if_icmp .ge 255, 3) := by decide +kernel
theorem dL_holdsAll_83 : decode cL_holdsAll 83 = .ok (.iload 4, 2) := by decide +kernel
theorem dL_holdsAll_85 : decode cL_holdsAll 85 = .ok (.ifCond .eq 250, 3) := by decide +kernel
theorem dL_holdsAll_88 : decode cL_holdsAll 88 = .ok (.iload_n 2, 1) := by decide +kernel
theorem dL_holdsAll_89 : decode cL_holdsAll 89 = .ok (.iload 5, 2) := by decide +kernel
theorem dL_holdsAll_91 : decode cL_holdsAll 91 = .ok (.iadd, 1) := by decide +kernel
theorem dL_holdsAll_92 : decode cL_holdsAll 92 = .ok (.bipush 6, 2) := by decide +kernel
theorem dL_holdsAll_94 : decode cL_holdsAll 94 = .ok (.irem, 1) := by decide +kernel
theorem dL_holdsAll_95 : decode cL_holdsAll 95 = .ok (.istore 6, 2) := by decide +kernel
theorem dL_holdsAll_97 : decode cL_holdsAll 97 = .ok (.iload_n 2, 1) := by decide +kernel
theorem dL_holdsAll_98 : decode cL_holdsAll 98 = .ok (.bipush 6, 2) := by decide +kernel
theorem dL_holdsAll_100 : decode cL_holdsAll 100 = .ok (.idiv, 1) := by decide +kernel
theorem dL_holdsAll_101 : decode cL_holdsAll 101 = .ok (.iload 5, 2) := by decide +kernel
theorem dL_holdsAll_103 : decode cL_holdsAll 103 = .ok (.iadd, 1) := by decide +kernel
theorem dL_holdsAll_104 : decode cL_holdsAll 104 = .ok (.iconst 4, 1) := by decide +kernel
theorem dL_holdsAll_105 : decode cL_holdsAll 105 = .ok (.irem, 1) := by decide +kernel
theorem dL_holdsAll_106 : decode cL_holdsAll 106 = .ok (.istore 7, 2) := by decide +kernel
theorem dL_holdsAll_108 : decode cL_holdsAll 108 = .ok (.iload 6, 2) := by decide +kernel
theorem dL_holdsAll_110 : decode cL_holdsAll 110 = .ok (.iconst 2, 1) := by decide +kernel
theorem dL_holdsAll_111 : decode cL_holdsAll 111 = .ok (.if_icmp .ne 7, 3) := by decide +kernel
theorem dL_holdsAll_114 : decode cL_holdsAll 114 = .ok (.iconst 0, 1) := by decide +kernel
theorem dL_holdsAll_115 : decode cL_holdsAll 115 = .ok (.goto 14, 3) := by decide +kernel
theorem dL_holdsAll_118 : decode cL_holdsAll 118 = .ok (.iload_n 2, 1) := by decide +kernel
theorem dL_holdsAll_119 : decode cL_holdsAll 119 = .ok (.bipush 24, 2) := by decide +kernel
theorem dL_holdsAll_121 : decode cL_holdsAll 121 = .ok (.idiv, 1) := by decide +kernel
theorem dL_holdsAll_122 : decode cL_holdsAll 122 = .ok (.iload 5, 2) := by decide +kernel
theorem dL_holdsAll_124 : decode cL_holdsAll 124 = .ok (.iconst 4, 1) := by decide +kernel
theorem dL_holdsAll_125 : decode cL_holdsAll 125 = .ok (.idiv, 1) := by decide +kernel
theorem dL_holdsAll_126 : decode cL_holdsAll 126 = .ok (.iadd, 1) := by decide +kernel
theorem dL_holdsAll_127 : decode cL_holdsAll 127 = .ok (.iconst 4, 1) := by decide +kernel
theorem dL_holdsAll_128 : decode cL_holdsAll 128 = .ok (.irem, 1) := by decide +kernel
theorem dL_holdsAll_129 : decode cL_holdsAll 129 = .ok (.istore 8, 2) := by decide +kernel
theorem dL_holdsAll_131 : decode cL_holdsAll 131 = .ok (.iload 6, 2) := by decide +kernel
theorem dL_holdsAll_133 : decode cL_holdsAll 133 = .ok (.iconst 5, 1) := by decide +kernel
theorem dL_holdsAll_134 : decode cL_holdsAll 134 = .ok (.if_icmp .ne 15, 3) := by decide +kernel
theorem dL_holdsAll_137 : decode cL_holdsAll 137 = .ok (.iload_n 2, 1) := by decide +kernel
theorem dL_holdsAll_138 : decode cL_holdsAll 138 = .ok (.bipush 96, 2) := by decide +kernel
theorem dL_holdsAll_140 : decode cL_holdsAll 140 = .ok (.idiv, 1) := by decide +kernel
theorem dL_holdsAll_141 : decode cL_holdsAll 141 = .ok (.iload 5, 2) := by decide +kernel
theorem dL_holdsAll_143 : decode cL_holdsAll 143 = .ok (.iadd, 1) := by decide +kernel
theorem dL_holdsAll_144 : decode cL_holdsAll 144 = .ok (.iconst 4, 1) := by decide +kernel
theorem dL_holdsAll_145 : decode cL_holdsAll 145 = .ok (.irem, 1) := by decide +kernel
theorem dL_holdsAll_146 : decode cL_holdsAll 146 = .ok (.goto 4, 3) := by decide +kernel
theorem dL_holdsAll_149 : decode cL_holdsAll 149 = .ok (.iconst 0, 1) := by decide +kernel
theorem dL_holdsAll_150 : decode cL_holdsAll 150 = .ok (.istore 9, 2) := by decide +kernel
theorem dL_holdsAll_152 : decode cL_holdsAll 152 = .ok (.aload_n 0, 1) := by decide +kernel
theorem dL_holdsAll_153 : decode cL_holdsAll 153 = .ok (.iload 6, 2) := by decide +kernel
theorem dL_holdsAll_155 : decode cL_holdsAll 155 = .ok (.iload 7, 2) := by decide +kernel
theorem dL_holdsAll_157 : decode cL_holdsAll 157 = .ok (.iload 8, 2) := by decide +kernel
theorem dL_holdsAll_159 : decode cL_holdsAll 159 = .ok (.iload 9, 2) := by decide +kernel
theorem dL_holdsAll_161 : decode cL_holdsAll 161 = .ok (.invokestatic 143, 3) := by decide +kernel
theorem dL_holdsAll_164 : decode cL_holdsAll 164 = .ok (.iconst 1, 1) := by decide +kernel
theorem dL_holdsAll_165 : decode cL_holdsAll 165 = .ok (.if_icmp .ne 7, 3) := by decide +kernel
theorem dL_holdsAll_168 : decode cL_holdsAll 168 = .ok (.iconst 1, 1) := by decide +kernel
theorem dL_holdsAll_169 : decode cL_holdsAll 169 = .ok (.goto 4, 3) := by decide +kernel
theorem dL_holdsAll_172 : decode cL_holdsAll 172 = .ok (.iconst 0, 1) := by decide +kernel
theorem dL_holdsAll_173 : decode cL_holdsAll 173 = .ok (.istore 10, 2) := by decide +kernel
theorem dL_holdsAll_175 : decode cL_holdsAll 175 = .ok (.iload 10, 2) := by decide +kernel
theorem dL_holdsAll_177 : decode cL_holdsAll 177 = .ok (.ifCond .eq 7, 3) := by decide +kernel
theorem dL_holdsAll_180 : decode cL_holdsAll 180 = .ok (.iconst 0, 1) := by decide +kernel
theorem dL_holdsAll_181 : decode cL_holdsAll 181 = .ok (.goto 15, 3) := by decide +kernel
theorem dL_holdsAll_184 : decode cL_holdsAll 184 = .ok (.aload_n 0, 1) := by decide +kernel
theorem dL_holdsAll_185 : decode cL_holdsAll 185 = .ok (.iload 6, 2) := by decide +kernel
theorem dL_holdsAll_187 : decode cL_holdsAll 187 = .ok (.iload 7, 2) := by decide +kernel
theorem dL_holdsAll_189 : decode cL_holdsAll 189 = .ok (.iload 8, 2) := by decide +kernel
theorem dL_holdsAll_191 : decode cL_holdsAll 191 = .ok (.iload 9, 2) := by decide +kernel
theorem dL_holdsAll_193 : decode cL_holdsAll 193 = .ok (.invokestatic 164, 3) := by decide +kernel
theorem dL_holdsAll_196 : decode cL_holdsAll 196 = .ok (.istore 11, 2) := by decide +kernel
theorem dL_holdsAll_198 : decode cL_holdsAll 198 = .ok (.iload 5, 2) := by decide +kernel
theorem dL_holdsAll_200 : decode cL_holdsAll 200 = .ok (.iconst 4, 1) := by decide +kernel
theorem dL_holdsAll_201 : decode cL_holdsAll 201 = .ok (.irem, 1) := by decide +kernel
theorem dL_holdsAll_202 : decode cL_holdsAll 202 = .ok (.istore 12, 2) := by decide +kernel
theorem dL_holdsAll_204 : decode cL_holdsAll 204 = .ok (.aload_n 0, 1) := by decide +kernel
theorem dL_holdsAll_205 : decode cL_holdsAll 205 = .ok (.iload 6, 2) := by decide +kernel
theorem dL_holdsAll_207 : decode cL_holdsAll 207 = .ok (.iload 7, 2) := by decide +kernel
theorem dL_holdsAll_209 : decode cL_holdsAll 209 = .ok (.iload 8, 2) := by decide +kernel
theorem dL_holdsAll_211 : decode cL_holdsAll 211 = .ok (.iload 9, 2) := by decide +kernel
theorem dL_holdsAll_213 : decode cL_holdsAll 213 = .ok (.iload 12, 2) := by decide +kernel
theorem dL_holdsAll_215 : decode cL_holdsAll 215 = .ok (.invokestatic 145, 3) := by decide +kernel
theorem dL_holdsAll_218 : decode cL_holdsAll 218 = .ok (.aload_n 0, 1) := by decide +kernel
theorem dL_holdsAll_219 : decode cL_holdsAll 219 = .ok (.iload 6, 2) := by decide +kernel
theorem dL_holdsAll_221 : decode cL_holdsAll 221 = .ok (.iload 7, 2) := by decide +kernel
theorem dL_holdsAll_223 : decode cL_holdsAll 223 = .ok (.iload 8, 2) := by decide +kernel
theorem dL_holdsAll_225 : decode cL_holdsAll 225 = .ok (.iload 9, 2) := by decide +kernel
theorem dL_holdsAll_227 : decode cL_holdsAll 227 = .ok (.iload 12, 2) := by decide +kernel
theorem dL_holdsAll_229 : decode cL_holdsAll 229 = .ok (.invokestatic 148, 3) := by decide +kernel
theorem dL_holdsAll_232 : decode cL_holdsAll 232 = .ok (.if_icmp .ne 94, 3) := by decide +kernel
theorem dL_holdsAll_235 : decode cL_holdsAll 235 = .ok (.iload 10, 2) := by decide +kernel
theorem dL_holdsAll_237 : decode cL_holdsAll 237 = .ok (.ifCond .ne 34, 3) := by decide +kernel
theorem dL_holdsAll_240 : decode cL_holdsAll 240 = .ok (.iload 11, 2) := by decide +kernel
theorem dL_holdsAll_242 : decode cL_holdsAll 242 = .ok (.iconst (-1), 1) := by decide +kernel
theorem dL_holdsAll_243 : decode cL_holdsAll 243 = .ok (.if_icmp .eq 28, 3) := by decide +kernel
theorem dL_holdsAll_246 : decode cL_holdsAll 246 = .ok (.iload 11, 2) := by decide +kernel
theorem dL_holdsAll_248 : decode cL_holdsAll 248 = .ok (.bipush 10, 2) := by decide +kernel
theorem dL_holdsAll_250 : decode cL_holdsAll 250 = .ok (.idiv, 1) := by decide +kernel
theorem dL_holdsAll_251 : decode cL_holdsAll 251 = .ok (.aload_n 1, 1) := by decide +kernel
theorem dL_holdsAll_252 : decode cL_holdsAll 252 = .ok (.iconst 1, 1) := by decide +kernel
theorem dL_holdsAll_253 : decode cL_holdsAll 253 = .ok (.iaload, 1) := by decide +kernel
theorem dL_holdsAll_254 : decode cL_holdsAll 254 = .ok (.if_icmp .ge 72, 3) := by decide +kernel
theorem dL_holdsAll_257 : decode cL_holdsAll 257 = .ok (.iload 11, 2) := by decide +kernel
theorem dL_holdsAll_259 : decode cL_holdsAll 259 = .ok (.bipush 10, 2) := by decide +kernel
theorem dL_holdsAll_261 : decode cL_holdsAll 261 = .ok (.irem, 1) := by decide +kernel
theorem dL_holdsAll_262 : decode cL_holdsAll 262 = .ok (.iconst 5, 1) := by decide +kernel
theorem dL_holdsAll_263 : decode cL_holdsAll 263 = .ok (.if_icmp .gt 63, 3) := by decide +kernel
theorem dL_holdsAll_266 : decode cL_holdsAll 266 = .ok (.iload 11, 2) := by decide +kernel
theorem dL_holdsAll_268 : decode cL_holdsAll 268 = .ok (.ifCond .lt 58, 3) := by decide +kernel
theorem dL_holdsAll_271 : decode cL_holdsAll 271 = .ok (.iload 10, 2) := by decide +kernel
theorem dL_holdsAll_273 : decode cL_holdsAll 273 = .ok (.ifCond .ne 49, 3) := by decide +kernel
theorem dL_holdsAll_276 : decode cL_holdsAll 276 = .ok (.aload_n 0, 1) := by decide +kernel
theorem dL_holdsAll_277 : decode cL_holdsAll 277 = .ok (.iload 6, 2) := by decide +kernel
theorem dL_holdsAll_279 : decode cL_holdsAll 279 = .ok (.iload 7, 2) := by decide +kernel
theorem dL_holdsAll_281 : decode cL_holdsAll 281 = .ok (.iload 8, 2) := by decide +kernel
theorem dL_holdsAll_283 : decode cL_holdsAll 283 = .ok (.iload 9, 2) := by decide +kernel
theorem dL_holdsAll_285 : decode cL_holdsAll 285 = .ok (.invokestatic 158, 3) := by decide +kernel
theorem dL_holdsAll_288 : decode cL_holdsAll 288 = .ok (.ifCond .ne 38, 3) := by decide +kernel
theorem dL_holdsAll_291 : decode cL_holdsAll 291 = .ok (.aload_n 0, 1) := by decide +kernel
theorem dL_holdsAll_292 : decode cL_holdsAll 292 = .ok (.iload 6, 2) := by decide +kernel
theorem dL_holdsAll_294 : decode cL_holdsAll 294 = .ok (.iload 7, 2) := by decide +kernel
theorem dL_holdsAll_296 : decode cL_holdsAll 296 = .ok (.iload 8, 2) := by decide +kernel
theorem dL_holdsAll_298 : decode cL_holdsAll 298 = .ok (.iload 9, 2) := by decide +kernel
theorem dL_holdsAll_300 : decode cL_holdsAll 300 = .ok (.invokestatic 160, 3) := by decide +kernel
theorem dL_holdsAll_303 : decode cL_holdsAll 303 = .ok (.iconst (-1), 1) := by decide +kernel
theorem dL_holdsAll_304 : decode cL_holdsAll 304 = .ok (.if_icmp .ne 22, 3) := by decide +kernel
theorem dL_holdsAll_307 : decode cL_holdsAll 307 = .ok (.aload_n 0, 1) := by decide +kernel
theorem dL_holdsAll_308 : decode cL_holdsAll 308 = .ok (.iload 6, 2) := by decide +kernel
theorem dL_holdsAll_310 : decode cL_holdsAll 310 = .ok (.iload 7, 2) := by decide +kernel
theorem dL_holdsAll_312 : decode cL_holdsAll 312 = .ok (.iload 8, 2) := by decide +kernel
theorem dL_holdsAll_314 : decode cL_holdsAll 314 = .ok (.iload 9, 2) := by decide +kernel
theorem dL_holdsAll_316 : decode cL_holdsAll 316 = .ok (.invokestatic 162, 3) := by decide +kernel
theorem dL_holdsAll_319 : decode cL_holdsAll 319 = .ok (.ifCond .ne 7, 3) := by decide +kernel
theorem dL_holdsAll_322 : decode cL_holdsAll 322 = .ok (.iconst 1, 1) := by decide +kernel
theorem dL_holdsAll_323 : decode cL_holdsAll 323 = .ok (.goto 4, 3) := by decide +kernel
theorem dL_holdsAll_326 : decode cL_holdsAll 326 = .ok (.iconst 0, 1) := by decide +kernel
theorem dL_holdsAll_327 : decode cL_holdsAll 327 = .ok (.istore 4, 2) := by decide +kernel
theorem dL_holdsAll_329 : decode cL_holdsAll 329 = .ok (.iinc 5 1, 3) := by decide +kernel
theorem dL_holdsAll_332 : decode cL_holdsAll 332 = .ok (.goto (-256), 3) := by decide +kernel
theorem dL_holdsAll_335 : decode cL_holdsAll 335 = .ok (.aload_n 0, 1) := by decide +kernel
theorem dL_holdsAll_336 : decode cL_holdsAll 336 = .ok (.iload_n 2, 1) := by decide +kernel
theorem dL_holdsAll_337 : decode cL_holdsAll 337 = .ok (.bipush 6, 2) := by decide +kernel
theorem dL_holdsAll_339 : decode cL_holdsAll 339 = .ok (.irem, 1) := by decide +kernel
theorem dL_holdsAll_340 : decode cL_holdsAll 340 = .ok (.iload_n 2, 1) := by decide +kernel
theorem dL_holdsAll_341 : decode cL_holdsAll 341 = .ok (.bipush 6, 2) := by decide +kernel
theorem dL_holdsAll_343 : decode cL_holdsAll 343 = .ok (.idiv, 1) := by decide +kernel
theorem dL_holdsAll_344 : decode cL_holdsAll 344 = .ok (.iconst 4, 1) := by decide +kernel
theorem dL_holdsAll_345 : decode cL_holdsAll 345 = .ok (.irem, 1) := by decide +kernel
theorem dL_holdsAll_346 : decode cL_holdsAll 346 = .ok (.iload_n 2, 1) := by decide +kernel
theorem dL_holdsAll_347 : decode cL_holdsAll 347 = .ok (.bipush 6, 2) := by decide +kernel
theorem dL_holdsAll_349 : decode cL_holdsAll 349 = .ok (.irem, 1) := by decide +kernel
theorem dL_holdsAll_350 : decode cL_holdsAll 350 = .ok (.iconst 2, 1) := by decide +kernel
theorem dL_holdsAll_351 : decode cL_holdsAll 351 = .ok (.if_icmp .ne 7, 3) := by decide +kernel
theorem dL_holdsAll_354 : decode cL_holdsAll 354 = .ok (.iconst 0, 1) := by decide +kernel
theorem dL_holdsAll_355 : decode cL_holdsAll 355 = .ok (.goto 5, 3) := by decide +kernel
theorem dL_holdsAll_358 : decode cL_holdsAll 358 = .ok (.bipush (-9), 2) := by decide +kernel
theorem dL_holdsAll_360 : decode cL_holdsAll 360 = .ok (.iload_n 2, 1) := by decide +kernel
theorem dL_holdsAll_361 : decode cL_holdsAll 361 = .ok (.bipush 6, 2) := by decide +kernel
theorem dL_holdsAll_363 : decode cL_holdsAll 363 = .ok (.irem, 1) := by decide +kernel
theorem dL_holdsAll_364 : decode cL_holdsAll 364 = .ok (.iconst 5, 1) := by decide +kernel
theorem dL_holdsAll_365 : decode cL_holdsAll 365 = .ok (.if_icmp .ne 8, 3) := by decide +kernel
theorem dL_holdsAll_368 : decode cL_holdsAll 368 = .ok (.bipush (-9), 2) := by decide +kernel
theorem dL_holdsAll_370 : decode cL_holdsAll 370 = .ok (.goto 4, 3) := by decide +kernel
theorem dL_holdsAll_373 : decode cL_holdsAll 373 = .ok (.iconst 0, 1) := by decide +kernel
theorem dL_holdsAll_374 : decode cL_holdsAll 374 = .ok (.invokestatic 166, 3) := by decide +kernel
theorem dL_holdsAll_377 : decode cL_holdsAll 377 = .ok (.istore 5, 2) := by decide +kernel
theorem dL_holdsAll_379 : decode cL_holdsAll 379 = .ok (.aload_n 0, 1) := by decide +kernel
theorem dL_holdsAll_380 : decode cL_holdsAll 380 = .ok (.invokevirtual 191, 3) := by decide +kernel
theorem dL_holdsAll_383 : decode cL_holdsAll 383 = .ok (.istore 6, 2) := by decide +kernel
theorem dL_holdsAll_385 : decode cL_holdsAll 385 = .ok (.aload_n 0, 1) := by decide +kernel
theorem dL_holdsAll_386 : decode cL_holdsAll 386 = .ok (.invokevirtual 183, 3) := by decide +kernel
theorem dL_holdsAll_389 : decode cL_holdsAll 389 = .ok (.ifCond .ne 16, 3) := by decide +kernel
theorem dL_holdsAll_392 : decode cL_holdsAll 392 = .ok (.iload 6, 2) := by decide +kernel
theorem dL_holdsAll_394 : decode cL_holdsAll 394 = .ok (.ifCond .ne 7, 3) := by decide +kernel
theorem dL_holdsAll_397 : decode cL_holdsAll 397 = .ok (.iconst 1, 1) := by decide +kernel
theorem dL_holdsAll_398 : decode cL_holdsAll 398 = .ok (.goto 17, 3) := by decide +kernel
theorem dL_holdsAll_401 : decode cL_holdsAll 401 = .ok (.iconst 0, 1) := by decide +kernel
theorem dL_holdsAll_402 : decode cL_holdsAll 402 = .ok (.goto 13, 3) := by decide +kernel
theorem dL_holdsAll_405 : decode cL_holdsAll 405 = .ok (.iload 6, 2) := by decide +kernel
theorem dL_holdsAll_407 : decode cL_holdsAll 407 = .ok (.ifCond .eq 7, 3) := by decide +kernel
theorem dL_holdsAll_410 : decode cL_holdsAll 410 = .ok (.iconst 1, 1) := by decide +kernel
theorem dL_holdsAll_411 : decode cL_holdsAll 411 = .ok (.goto 4, 3) := by decide +kernel
theorem dL_holdsAll_414 : decode cL_holdsAll 414 = .ok (.iconst 0, 1) := by decide +kernel
theorem dL_holdsAll_415 : decode cL_holdsAll 415 = .ok (.istore 7, 2) := by decide +kernel
theorem dL_holdsAll_417 : decode cL_holdsAll 417 = .ok (.iload 4, 2) := by decide +kernel
theorem dL_holdsAll_419 : decode cL_holdsAll 419 = .ok (.ifCond .eq 46, 3) := by decide +kernel
theorem dL_holdsAll_422 : decode cL_holdsAll 422 = .ok (.iload_n 3, 1) := by decide +kernel
theorem dL_holdsAll_423 : decode cL_holdsAll 423 = .ok (.bipush 48, 2) := by decide +kernel
theorem dL_holdsAll_425 : decode cL_holdsAll 425 = .ok (.if_icmp .gt 40, 3) := by decide +kernel
theorem dL_holdsAll_428 : decode cL_holdsAll 428 = .ok (.iload 5, 2) := by decide +kernel
theorem dL_holdsAll_430 : decode cL_holdsAll 430 = .ok (.ifCond .le 35, 3) := by decide +kernel
theorem dL_holdsAll_433 : decode cL_holdsAll 433 = .ok (.iload 5, 2) := by decide +kernel
theorem dL_holdsAll_435 : decode cL_holdsAll 435 = .ok (.sipush 400, 3) := by decide +kernel
theorem dL_holdsAll_438 : decode cL_holdsAll 438 = .ok (.if_icmp .gt 27, 3) := by decide +kernel
theorem dL_holdsAll_441 : decode cL_holdsAll 441 = .ok (.iload 7, 2) := by decide +kernel
theorem dL_holdsAll_443 : decode cL_holdsAll 443 = .ok (.ifCond .eq 22, 3) := by decide +kernel
theorem dL_holdsAll_446 : decode cL_holdsAll 446 = .ok (.iload 6, 2) := by decide +kernel
theorem dL_holdsAll_448 : decode cL_holdsAll 448 = .ok (.iconst 1, 1) := by decide +kernel
theorem dL_holdsAll_449 : decode cL_holdsAll 449 = .ok (.if_icmp .lt 12, 3) := by decide +kernel
theorem dL_holdsAll_452 : decode cL_holdsAll 452 = .ok (.iload 6, 2) := by decide +kernel
theorem dL_holdsAll_454 : decode cL_holdsAll 454 = .ok (.aload_n 1, 1) := by decide +kernel
theorem dL_holdsAll_455 : decode cL_holdsAll 455 = .ok (.iconst 0, 1) := by decide +kernel
theorem dL_holdsAll_456 : decode cL_holdsAll 456 = .ok (.iaload, 1) := by decide +kernel
theorem dL_holdsAll_457 : decode cL_holdsAll 457 = .ok (.ishr, 1) := by decide +kernel
theorem dL_holdsAll_458 : decode cL_holdsAll 458 = .ok (.ifCond .ne 7, 3) := by decide +kernel
theorem dL_holdsAll_461 : decode cL_holdsAll 461 = .ok (.iconst 1, 1) := by decide +kernel
theorem dL_holdsAll_462 : decode cL_holdsAll 462 = .ok (.goto 4, 3) := by decide +kernel
theorem dL_holdsAll_465 : decode cL_holdsAll 465 = .ok (.iconst 0, 1) := by decide +kernel
theorem dL_holdsAll_466 : decode cL_holdsAll 466 = .ok (.ireturn, 1) := by decide +kernel
theorem dL_ends_0 : decode cL_ends 0 = .ok (.aload_n 0, 1) := by decide +kernel
theorem dL_ends_1 : decode cL_ends 1 = .ok (.invokevirtual 191, 3) := by decide +kernel
theorem dL_ends_4 : decode cL_ends 4 = .ok (.istore_n 2, 1) := by decide +kernel
theorem dL_ends_5 : decode cL_ends 5 = .ok (.iconst 1, 1) := by decide +kernel
theorem dL_ends_6 : decode cL_ends 6 = .ok (.istore_n 3, 1) := by decide +kernel
theorem dL_ends_7 : decode cL_ends 7 = .ok (.iload_n 2, 1) := by decide +kernel
theorem dL_ends_8 : decode cL_ends 8 = .ok (.ifCond .lt 7, 3) := by decide +kernel
theorem dL_ends_11 : decode cL_ends 11 = .ok (.iconst 1, 1) := by decide +kernel
theorem dL_ends_12 : decode cL_ends 12 = .ok (.goto 4, 3) := by decide +kernel
theorem dL_ends_15 : decode cL_ends 15 = .ok (.iconst 0, 1) := by decide +kernel
theorem dL_ends_16 : decode cL_ends 16 = .ok (.istore 4, 2) := by decide +kernel
theorem dL_ends_18 : decode cL_ends 18 = .ok (.iconst 0, 1) := by decide +kernel
theorem dL_ends_19 : decode cL_ends 19 = .ok (.istore 5, 2) := by decide +kernel
theorem dL_ends_21 : decode cL_ends 21 = .ok (.iload 5, 2) := by decide +kernel
theorem dL_ends_23 : decode cL_ends 23 = .ok (.aload_n 1, 1) := by decide +kernel
theorem dL_ends_24 : decode cL_ends 24 = .ok (.iconst 0, 1) := by decide +kernel
theorem dL_ends_25 : decode cL_ends 25 = .ok (.iaload, 1) := by decide +kernel
theorem dL_ends_26 : decode cL_ends 26 = .ok (.if_icmp .ge 72, 3) := by decide +kernel
theorem dL_ends_29 : decode cL_ends 29 = .ok (.iload_n 3, 1) := by decide +kernel
theorem dL_ends_30 : decode cL_ends 30 = .ok (.ifCond .eq 68, 3) := by decide +kernel
theorem dL_ends_33 : decode cL_ends 33 = .ok (.iload 4, 2) := by decide +kernel
theorem dL_ends_35 : decode cL_ends 35 = .ok (.ifCond .eq 63, 3) := by decide +kernel
theorem dL_ends_38 : decode cL_ends 38 = .ok (.iload_n 2, 1) := by decide +kernel
theorem dL_ends_39 : decode cL_ends 39 = .ok (.iload 5, 2) := by decide +kernel
theorem dL_ends_41 : decode cL_ends 41 = .ok (.ishr, 1) := by decide +kernel
theorem dL_ends_42 : decode cL_ends 42 = .ok (.iconst 1, 1) := by decide +kernel
theorem dL_ends_43 : decode cL_ends 43 = .ok (.iand, 1) := by decide +kernel
theorem dL_ends_44 : decode cL_ends 44 = .ok (.iconst 1, 1) := by decide +kernel
theorem dL_ends_45 : decode cL_ends 45 = .ok (.if_icmp .ne 12, 3) := by decide +kernel
theorem dL_ends_48 : decode cL_ends 48 = .ok (.aload_n 0, 1) := by decide +kernel
theorem dL_ends_49 : decode cL_ends 49 = .ok (.iload 5, 2) := by decide +kernel
theorem dL_ends_51 : decode cL_ends 51 = .ok (.invokestatic 115, 3) := by decide +kernel
theorem dL_ends_54 : decode cL_ends 54 = .ok (.goto 4, 3) := by decide +kernel
theorem dL_ends_57 : decode cL_ends 57 = .ok (.iconst 0, 1) := by decide +kernel
theorem dL_ends_58 : decode cL_ends 58 = .ok (.istore 6, 2) := by decide +kernel
theorem dL_ends_60 : decode cL_ends 60 = .ok (.iload 6, 2) := by decide +kernel
theorem dL_ends_62 : decode cL_ends 62 = .ok (.ldc 21, 2) := by decide +kernel
theorem dL_ends_64 : decode cL_ends 64 = .ok (.if_icmp .eq 7, 3) := by decide +kernel
theorem dL_ends_67 : decode cL_ends 67 = .ok (.iconst 1, 1) := by decide +kernel
theorem dL_ends_68 : decode cL_ends 68 = .ok (.goto 4, 3) := by decide +kernel
theorem dL_ends_71 : decode cL_ends 71 = .ok (.iconst 0, 1) := by decide +kernel
theorem dL_ends_72 : decode cL_ends 72 = .ok (.istore 4, 2) := by decide +kernel
theorem dL_ends_74 : decode cL_ends 74 = .ok (.iload 6, 2) := by decide +kernel
theorem dL_ends_76 : decode cL_ends 76 = .ok (.ifCond .ge 10, 3) := by decide +kernel
theorem dL_ends_79 : decode cL_ends 79 = .ok (.iload 6, 2) := by decide +kernel
theorem dL_ends_81 : decode cL_ends 81 = .ok (.ldc 21, 2) := by decide +kernel
theorem dL_ends_83 : decode cL_ends 83 = .ok (.if_icmp .ne 7, 3) := by decide +kernel
theorem dL_ends_86 : decode cL_ends 86 = .ok (.iconst 1, 1) := by decide +kernel
theorem dL_ends_87 : decode cL_ends 87 = .ok (.goto 4, 3) := by decide +kernel
theorem dL_ends_90 : decode cL_ends 90 = .ok (.iconst 0, 1) := by decide +kernel
theorem dL_ends_91 : decode cL_ends 91 = .ok (.istore_n 3, 1) := by decide +kernel
theorem dL_ends_92 : decode cL_ends 92 = .ok (.iinc 5 1, 3) := by decide +kernel
theorem dL_ends_95 : decode cL_ends 95 = .ok (.goto (-74), 3) := by decide +kernel
theorem dL_ends_98 : decode cL_ends 98 = .ok (.iload_n 3, 1) := by decide +kernel
theorem dL_ends_99 : decode cL_ends 99 = .ok (.ifCond .eq 26, 3) := by decide +kernel
theorem dL_ends_102 : decode cL_ends 102 = .ok (.iload 4, 2) := by decide +kernel
theorem dL_ends_104 : decode cL_ends 104 = .ok (.ifCond .eq 17, 3) := by decide +kernel
theorem dL_ends_107 : decode cL_ends 107 = .ok (.aload_n 0, 1) := by decide +kernel
theorem dL_ends_108 : decode cL_ends 108 = .ok (.invokevirtual 183, 3) := by decide +kernel
theorem dL_ends_111 : decode cL_ends 111 = .ok (.ifCond .ne 14, 3) := by decide +kernel
theorem dL_ends_114 : decode cL_ends 114 = .ok (.aload_n 0, 1) := by decide +kernel
theorem dL_ends_115 : decode cL_ends 115 = .ok (.invokevirtual 191, 3) := by decide +kernel
theorem dL_ends_118 : decode cL_ends 118 = .ok (.ifCond .ne 7, 3) := by decide +kernel
theorem dL_ends_121 : decode cL_ends 121 = .ok (.iconst 1, 1) := by decide +kernel
theorem dL_ends_122 : decode cL_ends 122 = .ok (.goto 4, 3) := by decide +kernel
theorem dL_ends_125 : decode cL_ends 125 = .ok (.iconst 0, 1) := by decide +kernel
theorem dL_ends_126 : decode cL_ends 126 = .ok (.ireturn, 1) := by decide +kernel
theorem dL_law_0 : decode cL_law 0 = .ok (.new 8, 3) := by decide +kernel
theorem dL_law_3 : decode cL_law 3 = .ok (.dup, 1) := by decide +kernel
theorem dL_law_4 : decode cL_law 4 = .ok (.invokespecial 194, 3) := by decide +kernel
theorem dL_law_7 : decode cL_law 7 = .ok (.astore_n 1, 1) := by decide +kernel
theorem dL_law_8 : decode cL_law 8 = .ok (.new 8, 3) := by decide +kernel
theorem dL_law_11 : decode cL_law 11 = .ok (.dup, 1) := by decide +kernel
theorem dL_law_12 : decode cL_law 12 = .ok (.invokespecial 194, 3) := by decide +kernel
theorem dL_law_15 : decode cL_law 15 = .ok (.astore_n 2, 1) := by decide +kernel
theorem dL_law_16 : decode cL_law 16 = .ok (.bipush 6, 2) := by decide +kernel
theorem dL_law_18 : decode cL_law 18 = .ok (.newarray .int, 2) := by decide +kernel
theorem dL_law_20 : decode cL_law 20 = .ok (.astore_n 3, 1) := by decide +kernel
theorem dL_law_21 : decode cL_law 21 = .ok (.iconst 1, 1) := by decide +kernel
theorem dL_law_22 : decode cL_law 22 = .ok (.istore 4, 2) := by decide +kernel
theorem dL_law_24 : decode cL_law 24 = .ok (.iconst 0, 1) := by decide +kernel
theorem dL_law_25 : decode cL_law 25 = .ok (.istore 5, 2) := by decide +kernel
theorem dL_law_27 : decode cL_law 27 = .ok (.iload 5, 2) := by decide +kernel
theorem dL_law_29 : decode cL_law 29 = .ok (.iconst 2, 1) := by decide +kernel
theorem dL_law_30 : decode cL_law 30 = .ok (.if_icmp .ge 111, 3) := by decide +kernel
theorem dL_law_33 : decode cL_law 33 = .ok (.iload 4, 2) := by decide +kernel
theorem dL_law_35 : decode cL_law 35 = .ok (.ifCond .eq 106, 3) := by decide +kernel
theorem dL_law_38 : decode cL_law 38 = .ok (.iload 5, 2) := by decide +kernel
theorem dL_law_40 : decode cL_law 40 = .ok (.ifCond .ne 7, 3) := by decide +kernel
theorem dL_law_43 : decode cL_law 43 = .ok (.aload_n 1, 1) := by decide +kernel
theorem dL_law_44 : decode cL_law 44 = .ok (.goto 4, 3) := by decide +kernel
theorem dL_law_47 : decode cL_law 47 = .ok (.aload_n 2, 1) := by decide +kernel
theorem dL_law_48 : decode cL_law 48 = .ok (.astore 6, 2) := by decide +kernel
theorem dL_law_50 : decode cL_law 50 = .ok (.aload 6, 2) := by decide +kernel
theorem dL_law_52 : decode cL_law 52 = .ok (.iconst 0, 1) := by decide +kernel
theorem dL_law_53 : decode cL_law 53 = .ok (.iconst 2, 1) := by decide +kernel
theorem dL_law_54 : decode cL_law 54 = .ok (.iconst 0, 1) := by decide +kernel
theorem dL_law_55 : decode cL_law 55 = .ok (.iconst 1, 1) := by decide +kernel
theorem dL_law_56 : decode cL_law 56 = .ok (.invokestatic 105, 3) := by decide +kernel
theorem dL_law_59 : decode cL_law 59 = .ok (.iconst 1, 1) := by decide +kernel
theorem dL_law_60 : decode cL_law 60 = .ok (.if_icmp .ne 72, 3) := by decide +kernel
theorem dL_law_63 : decode cL_law 63 = .ok (.aload 6, 2) := by decide +kernel
theorem dL_law_65 : decode cL_law 65 = .ok (.iconst 1, 1) := by decide +kernel
theorem dL_law_66 : decode cL_law 66 = .ok (.iconst 2, 1) := by decide +kernel
theorem dL_law_67 : decode cL_law 67 = .ok (.iconst 0, 1) := by decide +kernel
theorem dL_law_68 : decode cL_law 68 = .ok (.iconst 2, 1) := by decide +kernel
theorem dL_law_69 : decode cL_law 69 = .ok (.invokestatic 105, 3) := by decide +kernel
theorem dL_law_72 : decode cL_law 72 = .ok (.iconst 1, 1) := by decide +kernel
theorem dL_law_73 : decode cL_law 73 = .ok (.if_icmp .ne 59, 3) := by decide +kernel
theorem dL_law_76 : decode cL_law 76 = .ok (.aload 6, 2) := by decide +kernel
theorem dL_law_78 : decode cL_law 78 = .ok (.iconst 2, 1) := by decide +kernel
theorem dL_law_79 : decode cL_law 79 = .ok (.iconst 1, 1) := by decide +kernel
theorem dL_law_80 : decode cL_law 80 = .ok (.iconst 0, 1) := by decide +kernel
theorem dL_law_81 : decode cL_law 81 = .ok (.iconst 1, 1) := by decide +kernel
theorem dL_law_82 : decode cL_law 82 = .ok (.invokestatic 105, 3) := by decide +kernel
theorem dL_law_85 : decode cL_law 85 = .ok (.iconst 1, 1) := by decide +kernel
theorem dL_law_86 : decode cL_law 86 = .ok (.if_icmp .ne 46, 3) := by decide +kernel
theorem dL_law_89 : decode cL_law 89 = .ok (.aload 6, 2) := by decide +kernel
theorem dL_law_91 : decode cL_law 91 = .ok (.iconst 3, 1) := by decide +kernel
theorem dL_law_92 : decode cL_law 92 = .ok (.iconst 2, 1) := by decide +kernel
theorem dL_law_93 : decode cL_law 93 = .ok (.iconst 1, 1) := by decide +kernel
theorem dL_law_94 : decode cL_law 94 = .ok (.iconst 1, 1) := by decide +kernel
theorem dL_law_95 : decode cL_law 95 = .ok (.invokestatic 105, 3) := by decide +kernel
theorem dL_law_98 : decode cL_law 98 = .ok (.iconst 1, 1) := by decide +kernel
theorem dL_law_99 : decode cL_law 99 = .ok (.if_icmp .ne 33, 3) := by decide +kernel
theorem dL_law_102 : decode cL_law 102 = .ok (.aload 6, 2) := by decide +kernel
theorem dL_law_104 : decode cL_law 104 = .ok (.iconst 4, 1) := by decide +kernel
theorem dL_law_105 : decode cL_law 105 = .ok (.iconst 2, 1) := by decide +kernel
theorem dL_law_106 : decode cL_law 106 = .ok (.iconst 2, 1) := by decide +kernel
theorem dL_law_107 : decode cL_law 107 = .ok (.iconst 1, 1) := by decide +kernel
theorem dL_law_108 : decode cL_law 108 = .ok (.invokestatic 105, 3) := by decide +kernel
theorem dL_law_111 : decode cL_law 111 = .ok (.iconst 1, 1) := by decide +kernel
theorem dL_law_112 : decode cL_law 112 = .ok (.if_icmp .ne 20, 3) := by decide +kernel
theorem dL_law_115 : decode cL_law 115 = .ok (.aload 6, 2) := by decide +kernel
theorem dL_law_117 : decode cL_law 117 = .ok (.iconst 5, 1) := by decide +kernel
theorem dL_law_118 : decode cL_law 118 = .ok (.iconst 3, 1) := by decide +kernel
theorem dL_law_119 : decode cL_law 119 = .ok (.iconst 3, 1) := by decide +kernel
theorem dL_law_120 : decode cL_law 120 = .ok (.iconst 2, 1) := by decide +kernel
theorem dL_law_121 : decode cL_law 121 = .ok (.invokestatic 105, 3) := by decide +kernel
theorem dL_law_124 : decode cL_law 124 = .ok (.iconst 1, 1) := by decide +kernel
theorem dL_law_125 : decode cL_law 125 = .ok (.if_icmp .ne 7, 3) := by decide +kernel
theorem dL_law_128 : decode cL_law 128 = .ok (.iconst 1, 1) := by decide +kernel
theorem dL_law_129 : decode cL_law 129 = .ok (.goto 4, 3) := by decide +kernel
theorem dL_law_132 : decode cL_law 132 = .ok (.iconst 0, 1) := by decide +kernel
theorem dL_law_133 : decode cL_law 133 = .ok (.istore 4, 2) := by decide +kernel
theorem dL_law_135 : decode cL_law 135 = .ok (.iinc 5 1, 3) := by decide +kernel
theorem dL_law_138 : decode cL_law 138 = .ok (.goto (-111), 3) := by decide +kernel
theorem dL_law_141 : decode cL_law 141 = .ok (.bipush 30, 2) := by decide +kernel
theorem dL_law_143 : decode cL_law 143 = .ok (.aload_n 0, 1) := by decide +kernel
theorem dL_law_144 : decode cL_law 144 = .ok (.iconst 0, 1) := by decide +kernel
theorem dL_law_145 : decode cL_law 145 = .ok (.invokestatic 195, 3) := by decide +kernel
theorem dL_law_148 : decode cL_law 148 = .ok (.bipush 31, 2) := by decide +kernel
theorem dL_law_150 : decode cL_law 150 = .ok (.irem, 1) := by decide +kernel
theorem dL_law_151 : decode cL_law 151 = .ok (.iadd, 1) := by decide +kernel
theorem dL_law_152 : decode cL_law 152 = .ok (.istore 5, 2) := by decide +kernel
theorem dL_law_154 : decode cL_law 154 = .ok (.iconst 0, 1) := by decide +kernel
theorem dL_law_155 : decode cL_law 155 = .ok (.istore 6, 2) := by decide +kernel
theorem dL_law_157 : decode cL_law 157 = .ok (.iload 6, 2) := by decide +kernel
theorem dL_law_159 : decode cL_law 159 = .ok (.iload 5, 2) := by decide +kernel
theorem dL_law_161 : decode cL_law 161 = .ok (.if_icmp .ge 190, 3) := by decide +kernel
theorem dL_law_164 : decode cL_law 164 = .ok (.iload 4, 2) := by decide +kernel
theorem dL_law_166 : decode cL_law 166 = .ok (.ifCond .eq 185, 3) := by decide +kernel
theorem dL_law_169 : decode cL_law 169 = .ok (.aload_n 0, 1) := by decide +kernel
theorem dL_law_170 : decode cL_law 170 = .ok (.iconst 1, 1) := by decide +kernel
theorem dL_law_171 : decode cL_law 171 = .ok (.iload 6, 2) := by decide +kernel
theorem dL_law_173 : decode cL_law 173 = .ok (.iadd, 1) := by decide +kernel
theorem dL_law_174 : decode cL_law 174 = .ok (.invokestatic 195, 3) := by decide +kernel
theorem dL_law_177 : decode cL_law 177 = .ok (.istore 7, 2) := by decide +kernel
theorem dL_law_179 : decode cL_law 179 = .ok (.iload 6, 2) := by decide +kernel
theorem dL_law_181 : decode cL_law 181 = .ok (.iconst 5, 1) := by decide +kernel
theorem dL_law_182 : decode cL_law 182 = .ok (.if_icmp .ge 14, 3) := by decide +kernel
theorem dL_law_185 : decode cL_law 185 = .ok (.iload 7, 2) := by decide +kernel
theorem dL_law_187 : decode cL_law 187 = .ok (.bipush 16, 2) := by decide +kernel
theorem dL_law_189 : decode cL_law 189 = .ok (.idiv, 1) := by decide +kernel
theorem dL_law_190 : decode cL_law 190 = .ok (.bipush 16, 2) := by decide +kernel
theorem dL_law_192 : decode cL_law 192 = .ok (.imul, 1) := by decide +kernel
theorem dL_law_193 : decode cL_law 193 = .ok (.goto 33, 3) := by decide +kernel
theorem dL_law_196 : decode cL_law 196 = .ok (.iload 6, 2) := by decide +kernel
theorem dL_law_198 : decode cL_law 198 = .ok (.bipush 20, 2) := by decide +kernel
theorem dL_law_200 : decode cL_law 200 = .ok (.if_icmp .le 24, 3) := by decide +kernel
theorem dL_law_203 : decode cL_law 203 = .ok (.iload 6, 2) := by decide +kernel
theorem dL_law_205 : decode cL_law 205 = .ok (.iconst 4, 1) := by decide +kernel
theorem dL_law_206 : decode cL_law 206 = .ok (.irem, 1) := by decide +kernel
theorem dL_law_207 : decode cL_law 207 = .ok (.ifCond .ne 17, 3) := by decide +kernel
theorem dL_law_210 : decode cL_law 210 = .ok (.iload 7, 2) := by decide +kernel
theorem dL_law_212 : decode cL_law 212 = .ok (.bipush 16, 2) := by decide +kernel
theorem dL_law_214 : decode cL_law 214 = .ok (.idiv, 1) := by decide +kernel
theorem dL_law_215 : decode cL_law 215 = .ok (.bipush 16, 2) := by decide +kernel
theorem dL_law_217 : decode cL_law 217 = .ok (.imul, 1) := by decide +kernel
theorem dL_law_218 : decode cL_law 218 = .ok (.bipush 11, 2) := by decide +kernel
theorem dL_law_220 : decode cL_law 220 = .ok (.iadd, 1) := by decide +kernel
theorem dL_law_221 : decode cL_law 221 = .ok (.goto 5, 3) := by decide +kernel
theorem dL_law_224 : decode cL_law 224 = .ok (.iload 7, 2) := by decide +kernel
theorem dL_law_226 : decode cL_law 226 = .ok (.istore 7, 2) := by decide +kernel
theorem dL_law_228 : decode cL_law 228 = .ok (.aload_n 1, 1) := by decide +kernel
theorem dL_law_229 : decode cL_law 229 = .ok (.aload_n 3, 1) := by decide +kernel
theorem dL_law_230 : decode cL_law 230 = .ok (.iload 7, 2) := by decide +kernel
theorem dL_law_232 : decode cL_law 232 = .ok (.invokestatic 199, 3) := by decide +kernel
theorem dL_law_235 : decode cL_law 235 = .ok (.istore 8, 2) := by decide +kernel
theorem dL_law_237 : decode cL_law 237 = .ok (.aload_n 2, 1) := by decide +kernel
theorem dL_law_238 : decode cL_law 238 = .ok (.aload_n 3, 1) := by decide +kernel
theorem dL_law_239 : decode cL_law 239 = .ok (.iload 7, 2) := by decide +kernel
theorem dL_law_241 : decode cL_law 241 = .ok (.sipush 9973, 3) := by decide +kernel
theorem dL_law_244 : decode cL_law 244 = .ok (.irem, 1) := by decide +kernel
theorem dL_law_245 : decode cL_law 245 = .ok (.invokestatic 203, 3) := by decide +kernel
theorem dL_law_248 : decode cL_law 248 = .ok (.ifCond .eq 19, 3) := by decide +kernel
theorem dL_law_251 : decode cL_law 251 = .ok (.aload_n 2, 1) := by decide +kernel
theorem dL_law_252 : decode cL_law 252 = .ok (.aload_n 3, 1) := by decide +kernel
theorem dL_law_253 : decode cL_law 253 = .ok (.iload 7, 2) := by decide +kernel
theorem dL_law_255 : decode cL_law 255 = .ok (.invokestatic 199, 3) := by decide +kernel
theorem dL_law_258 : decode cL_law 258 = .ok (.iload 8, 2) := by decide +kernel
theorem dL_law_260 : decode cL_law 260 = .ok (.if_icmp .ne 7, 3) := by decide +kernel
theorem dL_law_263 : decode cL_law 263 = .ok (.iconst 1, 1) := by decide +kernel
theorem dL_law_264 : decode cL_law 264 = .ok (.goto 4, 3) := by decide +kernel
theorem dL_law_267 : decode cL_law 267 = .ok (.iconst 0, 1) := by decide +kernel
theorem dL_law_268 : decode cL_law 268 = .ok (.istore 4, 2) := by decide +kernel
theorem dL_law_270 : decode cL_law 270 = .ok (.aload_n 3, 1) := by decide +kernel
theorem dL_law_271 : decode cL_law 271 = .ok (.iload 7, 2) := by decide +kernel
theorem dL_law_273 : decode cL_law 273 = .ok (.iload 8, 2) := by decide +kernel
theorem dL_law_275 : decode cL_law 275 = .ok (.invokestatic 207, 3) := by decide +kernel
theorem dL_law_278 : decode cL_law 278 = .ok (.iload 4, 2) := by decide +kernel
theorem dL_law_280 : decode cL_law 280 = .ok (.ifCond .eq 62, 3) := by decide +kernel
theorem dL_law_283 : decode cL_law 283 = .ok (.iload 6, 2) := by decide +kernel
theorem dL_law_285 : decode cL_law 285 = .ok (.iconst 3, 1) := by decide +kernel
theorem dL_law_286 : decode cL_law 286 = .ok (.irem, 1) := by decide +kernel
theorem dL_law_287 : decode cL_law 287 = .ok (.ifCond .gt 17, 3) := by decide +kernel
theorem dL_law_290 : decode cL_law 290 = .ok (.aload_n 2, 1) := by decide +kernel
theorem dL_law_291 : decode cL_law 291 = .ok (.aload_n 3, 1) := by decide +kernel
theorem dL_law_292 : decode cL_law 292 = .ok (.iload 7, 2) := by decide +kernel
theorem dL_law_294 : decode cL_law 294 = .ok (.sipush 499, 3) := by decide +kernel
theorem dL_law_297 : decode cL_law 297 = .ok (.irem, 1) := by decide +kernel
theorem dL_law_298 : decode cL_law 298 = .ok (.invokestatic 203, 3) := by decide +kernel
theorem dL_law_301 : decode cL_law 301 = .ok (.ifCond .eq 41, 3) := by decide +kernel
theorem dL_law_304 : decode cL_law 304 = .ok (.aload_n 1, 1) := by decide +kernel
theorem dL_law_305 : decode cL_law 305 = .ok (.aload_n 2, 1) := by decide +kernel
theorem dL_law_306 : decode cL_law 306 = .ok (.aload_n 3, 1) := by decide +kernel
theorem dL_law_307 : decode cL_law 307 = .ok (.iload 7, 2) := by decide +kernel
theorem dL_law_309 : decode cL_law 309 = .ok (.iconst 3, 1) := by decide +kernel
theorem dL_law_310 : decode cL_law 310 = .ok (.idiv, 1) := by decide +kernel
theorem dL_law_311 : decode cL_law 311 = .ok (.invokestatic 211, 3) := by decide +kernel
theorem dL_law_314 : decode cL_law 314 = .ok (.ifCond .eq 28, 3) := by decide +kernel
theorem dL_law_317 : decode cL_law 317 = .ok (.iload 6, 2) := by decide +kernel
theorem dL_law_319 : decode cL_law 319 = .ok (.bipush 9, 2) := by decide +kernel
theorem dL_law_321 : decode cL_law 321 = .ok (.irem, 1) := by decide +kernel
theorem dL_law_322 : decode cL_law 322 = .ok (.ifCond .gt 16, 3) := by decide +kernel
theorem dL_law_325 : decode cL_law 325 = .ok (.aload_n 2, 1) := by decide +kernel
theorem dL_law_326 : decode cL_law 326 = .ok (.aload_n 3, 1) := by decide +kernel
theorem dL_law_327 : decode cL_law 327 = .ok (.iload 7, 2) := by decide +kernel
theorem dL_law_329 : decode cL_law 329 = .ok (.bipush 7, 2) := by decide +kernel
theorem dL_law_331 : decode cL_law 331 = .ok (.idiv, 1) := by decide +kernel
theorem dL_law_332 : decode cL_law 332 = .ok (.invokestatic 215, 3) := by decide +kernel
theorem dL_law_335 : decode cL_law 335 = .ok (.ifCond .eq 7, 3) := by decide +kernel
theorem dL_law_338 : decode cL_law 338 = .ok (.iconst 1, 1) := by decide +kernel
theorem dL_law_339 : decode cL_law 339 = .ok (.goto 4, 3) := by decide +kernel
theorem dL_law_342 : decode cL_law 342 = .ok (.iconst 0, 1) := by decide +kernel
theorem dL_law_343 : decode cL_law 343 = .ok (.istore 4, 2) := by decide +kernel
theorem dL_law_345 : decode cL_law 345 = .ok (.iinc 6 1, 3) := by decide +kernel
theorem dL_law_348 : decode cL_law 348 = .ok (.goto (-191), 3) := by decide +kernel
theorem dL_law_351 : decode cL_law 351 = .ok (.iload 4, 2) := by decide +kernel
theorem dL_law_353 : decode cL_law 353 = .ok (.ifCond .eq 31, 3) := by decide +kernel
theorem dL_law_356 : decode cL_law 356 = .ok (.aload_n 1, 1) := by decide +kernel
theorem dL_law_357 : decode cL_law 357 = .ok (.aload_n 3, 1) := by decide +kernel
theorem dL_law_358 : decode cL_law 358 = .ok (.aload_n 0, 1) := by decide +kernel
theorem dL_law_359 : decode cL_law 359 = .ok (.iconst 0, 1) := by decide +kernel
theorem dL_law_360 : decode cL_law 360 = .ok (.invokestatic 195, 3) := by decide +kernel
theorem dL_law_363 : decode cL_law 363 = .ok (.bipush 31, 2) := by decide +kernel
theorem dL_law_365 : decode cL_law 365 = .ok (.idiv, 1) := by decide +kernel
theorem dL_law_366 : decode cL_law 366 = .ok (.invokestatic 215, 3) := by decide +kernel
theorem dL_law_369 : decode cL_law 369 = .ok (.ifCond .eq 15, 3) := by decide +kernel
theorem dL_law_372 : decode cL_law 372 = .ok (.aload_n 1, 1) := by decide +kernel
theorem dL_law_373 : decode cL_law 373 = .ok (.aload_n 3, 1) := by decide +kernel
theorem dL_law_374 : decode cL_law 374 = .ok (.invokestatic 218, 3) := by decide +kernel
theorem dL_law_377 : decode cL_law 377 = .ok (.ifCond .eq 7, 3) := by decide +kernel
theorem dL_law_380 : decode cL_law 380 = .ok (.iconst 1, 1) := by decide +kernel
theorem dL_law_381 : decode cL_law 381 = .ok (.goto 4, 3) := by decide +kernel
theorem dL_law_384 : decode cL_law 384 = .ok (.iconst 0, 1) := by decide +kernel
theorem dL_law_385 : decode cL_law 385 = .ok (.ireturn, 1) := by decide +kernel
