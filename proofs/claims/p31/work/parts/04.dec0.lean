theorem dX0_init_0 : decode cX0_init 0 = .ok (.aload_n 0, 1) := by decide +kernel
theorem dX0_init_1 : decode cX0_init 1 = .ok (.invokespecial 3, 3) := by decide +kernel
theorem dX0_init_4 : decode cX0_init 4 = .ok (.aload_n 0, 1) := by decide +kernel
theorem dX0_init_5 : decode cX0_init 5 = .ok (.iconst (-1), 1) := by decide +kernel
theorem dX0_init_6 : decode cX0_init 6 = .ok (.putfield 9, 3) := by decide +kernel
theorem dX0_init_9 : decode cX0_init 9 = .ok (.aload_n 0, 1) := by decide +kernel
theorem dX0_init_10 : decode cX0_init 10 = .ok (.iconst 5, 1) := by decide +kernel
theorem dX0_init_11 : decode cX0_init 11 = .ok (.newarray .int, 2) := by decide +kernel
theorem dX0_init_13 : decode cX0_init 13 = .ok (.putfield 15, 3) := by decide +kernel
theorem dX0_init_16 : decode cX0_init 16 = .ok (.aload_n 0, 1) := by decide +kernel
theorem dX0_init_17 : decode cX0_init 17 = .ok (.iconst 5, 1) := by decide +kernel
theorem dX0_init_18 : decode cX0_init 18 = .ok (.newarray .int, 2) := by decide +kernel
theorem dX0_init_20 : decode cX0_init 20 = .ok (.putfield 19, 3) := by decide +kernel
theorem dX0_init_23 : decode cX0_init 23 = .ok (.aload_n 0, 1) := by decide +kernel
theorem dX0_init_24 : decode cX0_init 24 = .ok (.bipush 18, 2) := by decide +kernel
theorem dX0_init_26 : decode cX0_init 26 = .ok (.newarray .int, 2) := by decide +kernel
theorem dX0_init_28 : decode cX0_init 28 = .ok (.putfield 22, 3) := by decide +kernel
theorem dX0_init_31 : decode cX0_init 31 = .ok (.return_, 1) := by decide +kernel
theorem dX0_empty_0 : decode cX0_empty 0 = .ok (.aload_n 0, 1) := by decide +kernel
theorem dX0_empty_1 : decode cX0_empty 1 = .ok (.iconst 0, 1) := by decide +kernel
theorem dX0_empty_2 : decode cX0_empty 2 = .ok (.putfield 25, 3) := by decide +kernel
theorem dX0_empty_5 : decode cX0_empty 5 = .ok (.aload_n 0, 1) := by decide +kernel
theorem dX0_empty_6 : decode cX0_empty 6 = .ok (.iconst (-1), 1) := by decide +kernel
theorem dX0_empty_7 : decode cX0_empty 7 = .ok (.iconst 0, 1) := by decide +kernel
theorem dX0_empty_8 : decode cX0_empty 8 = .ok (.iconst 0, 1) := by decide +kernel
theorem dX0_empty_9 : decode cX0_empty 9 = .ok (.iconst 0, 1) := by decide +kernel
theorem dX0_empty_10 : decode cX0_empty 10 = .ok (.invokevirtual 28, 3) := by decide +kernel
theorem dX0_empty_13 : decode cX0_empty 13 = .ok (.return_, 1) := by decide +kernel
theorem dX0_setHead_0 : decode cX0_setHead 0 = .ok (.aload_n 0, 1) := by decide +kernel
theorem dX0_setHead_1 : decode cX0_setHead 1 = .ok (.iload_n 1, 1) := by decide +kernel
theorem dX0_setHead_2 : decode cX0_setHead 2 = .ok (.putfield 9, 3) := by decide +kernel
theorem dX0_setHead_5 : decode cX0_setHead 5 = .ok (.aload_n 0, 1) := by decide +kernel
theorem dX0_setHead_6 : decode cX0_setHead 6 = .ok (.iconst 5, 1) := by decide +kernel
theorem dX0_setHead_7 : decode cX0_setHead 7 = .ok (.iload_n 2, 1) := by decide +kernel
theorem dX0_setHead_8 : decode cX0_setHead 8 = .ok (.iload_n 3, 1) := by decide +kernel
theorem dX0_setHead_9 : decode cX0_setHead 9 = .ok (.iload 4, 2) := by decide +kernel
theorem dX0_setHead_11 : decode cX0_setHead 11 = .ok (.invokevirtual 32, 3) := by decide +kernel
theorem dX0_setHead_14 : decode cX0_setHead 14 = .ok (.return_, 1) := by decide +kernel
theorem dX0_push_0 : decode cX0_push 0 = .ok (.aload_n 0, 1) := by decide +kernel
theorem dX0_push_1 : decode cX0_push 1 = .ok (.getfield 25, 3) := by decide +kernel
theorem dX0_push_4 : decode cX0_push 4 = .ok (.istore 6, 2) := by decide +kernel
theorem dX0_push_6 : decode cX0_push 6 = .ok (.iload 6, 2) := by decide +kernel
theorem dX0_push_8 : decode cX0_push 8 = .ok (.ifCond .lt 46, 3) := by decide +kernel
theorem dX0_push_11 : decode cX0_push 11 = .ok (.iload 6, 2) := by decide +kernel
theorem dX0_push_13 : decode cX0_push 13 = .ok (.iconst 5, 1) := by decide +kernel
theorem dX0_push_14 : decode cX0_push 14 = .ok (.if_icmp .ge 40, 3) := by decide +kernel
theorem dX0_push_17 : decode cX0_push 17 = .ok (.aload_n 0, 1) := by decide +kernel
theorem dX0_push_18 : decode cX0_push 18 = .ok (.getfield 15, 3) := by decide +kernel
theorem dX0_push_21 : decode cX0_push 21 = .ok (.iload 6, 2) := by decide +kernel
theorem dX0_push_23 : decode cX0_push 23 = .ok (.iload_n 1, 1) := by decide +kernel
theorem dX0_push_24 : decode cX0_push 24 = .ok (.iastore, 1) := by decide +kernel
theorem dX0_push_25 : decode cX0_push 25 = .ok (.aload_n 0, 1) := by decide +kernel
theorem dX0_push_26 : decode cX0_push 26 = .ok (.getfield 19, 3) := by decide +kernel
theorem dX0_push_29 : decode cX0_push 29 = .ok (.iload 6, 2) := by decide +kernel
theorem dX0_push_31 : decode cX0_push 31 = .ok (.iload_n 2, 1) := by decide +kernel
theorem dX0_push_32 : decode cX0_push 32 = .ok (.iastore, 1) := by decide +kernel
theorem dX0_push_33 : decode cX0_push 33 = .ok (.aload_n 0, 1) := by decide +kernel
theorem dX0_push_34 : decode cX0_push 34 = .ok (.iload 6, 2) := by decide +kernel
theorem dX0_push_36 : decode cX0_push 36 = .ok (.iload_n 3, 1) := by decide +kernel
theorem dX0_push_37 : decode cX0_push 37 = .ok (.iload 4, 2) := by decide +kernel
theorem dX0_push_39 : decode cX0_push 39 = .ok (.iload 5, 2) := by decide +kernel
theorem dX0_push_41 : decode cX0_push 41 = .ok (.invokevirtual 32, 3) := by decide +kernel
theorem dX0_push_44 : decode cX0_push 44 = .ok (.aload_n 0, 1) := by decide +kernel
theorem dX0_push_45 : decode cX0_push 45 = .ok (.dup, 1) := by decide +kernel
theorem dX0_push_46 : decode cX0_push 46 = .ok (.getfield 25, 3) := by decide +kernel
theorem dX0_push_49 : decode cX0_push 49 = .ok (.iconst 1, 1) := by decide +kernel
theorem dX0_push_50 : decode cX0_push 50 = .ok (.iadd, 1) := by decide +kernel
theorem dX0_push_51 : decode cX0_push 51 = .ok (.putfield 25, 3) := by decide +kernel
theorem dX0_push_54 : decode cX0_push 54 = .ok (.aload_n 0, 1) := by decide +kernel
theorem dX0_push_55 : decode cX0_push 55 = .ok (.getfield 25, 3) := by decide +kernel
theorem dX0_push_58 : decode cX0_push 58 = .ok (.ireturn, 1) := by decide +kernel
theorem dX0_setTerms_0 : decode cX0_setTerms 0 = .ok (.iconst 0, 1) := by decide +kernel
theorem dX0_setTerms_1 : decode cX0_setTerms 1 = .ok (.istore 5, 2) := by decide +kernel
theorem dX0_setTerms_3 : decode cX0_setTerms 3 = .ok (.iload 5, 2) := by decide +kernel
theorem dX0_setTerms_5 : decode cX0_setTerms 5 = .ok (.iconst 3, 1) := by decide +kernel
theorem dX0_setTerms_6 : decode cX0_setTerms 6 = .ok (.if_icmp .ge 48, 3) := by decide +kernel
theorem dX0_setTerms_9 : decode cX0_setTerms 9 = .ok (.iload_n 1, 1) := by decide +kernel
theorem dX0_setTerms_10 : decode cX0_setTerms 10 = .ok (.iconst 3, 1) := by decide +kernel
theorem dX0_setTerms_11 : decode cX0_setTerms 11 = .ok (.imul, 1) := by decide +kernel
theorem dX0_setTerms_12 : decode cX0_setTerms 12 = .ok (.iload 5, 2) := by decide +kernel
theorem dX0_setTerms_14 : decode cX0_setTerms 14 = .ok (.iadd, 1) := by decide +kernel
theorem dX0_setTerms_15 : decode cX0_setTerms 15 = .ok (.istore 6, 2) := by decide +kernel
theorem dX0_setTerms_17 : decode cX0_setTerms 17 = .ok (.iload 6, 2) := by decide +kernel
theorem dX0_setTerms_19 : decode cX0_setTerms 19 = .ok (.ifCond .lt 29, 3) := by decide +kernel
theorem dX0_setTerms_22 : decode cX0_setTerms 22 = .ok (.iload 6, 2) := by decide +kernel
theorem dX0_setTerms_24 : decode cX0_setTerms 24 = .ok (.aload_n 0, 1) := by decide +kernel
theorem dX0_setTerms_25 : decode cX0_setTerms 25 = .ok (.getfield 22, 3) := by decide +kernel
theorem dX0_setTerms_28 : decode cX0_setTerms 28 = .ok (.arraylength, 1) := by decide +kernel
theorem dX0_setTerms_29 : decode cX0_setTerms 29 = .ok (.if_icmp .ge 19, 3) := by decide +kernel
theorem dX0_setTerms_32 : decode cX0_setTerms 32 = .ok (.aload_n 0, 1) := by decide +kernel
theorem dX0_setTerms_33 : decode cX0_setTerms 33 = .ok (.getfield 22, 3) := by decide +kernel
theorem dX0_setTerms_36 : decode cX0_setTerms 36 = .ok (.iload 6, 2) := by decide +kernel
theorem dX0_setTerms_38 : decode cX0_setTerms 38 = .ok (.iload 5, 2) := by decide +kernel
theorem dX0_setTerms_40 : decode cX0_setTerms 40 = .ok (.iload_n 2, 1) := by decide +kernel
theorem dX0_setTerms_41 : decode cX0_setTerms 41 = .ok (.iload_n 3, 1) := by decide +kernel
theorem dX0_setTerms_42 : decode cX0_setTerms 42 = .ok (.iload 4, 2) := by decide +kernel
theorem dX0_setTerms_44 : decode cX0_setTerms 44 = .ok (.invokestatic 35, 3) := by decide +kernel
theorem dX0_setTerms_47 : decode cX0_setTerms 47 = .ok (.iastore, 1) := by decide +kernel
theorem dX0_setTerms_48 : decode cX0_setTerms 48 = .ok (.iinc 5 1, 3) := by decide +kernel
theorem dX0_setTerms_51 : decode cX0_setTerms 51 = .ok (.goto (-48), 3) := by decide +kernel
theorem dX0_setTerms_54 : decode cX0_setTerms 54 = .ok (.return_, 1) := by decide +kernel
theorem dX0_copy_0 : decode cX0_copy 0 = .ok (.aload_n 0, 1) := by decide +kernel
theorem dX0_copy_1 : decode cX0_copy 1 = .ok (.invokevirtual 39, 3) := by decide +kernel
theorem dX0_copy_4 : decode cX0_copy 4 = .ok (.aload_n 0, 1) := by decide +kernel
theorem dX0_copy_5 : decode cX0_copy 5 = .ok (.iconst 0, 1) := by decide +kernel
theorem dX0_copy_6 : decode cX0_copy 6 = .ok (.putfield 42, 3) := by decide +kernel
theorem dX0_copy_9 : decode cX0_copy 9 = .ok (.iconst 0, 1) := by decide +kernel
theorem dX0_copy_10 : decode cX0_copy 10 = .ok (.istore_n 2, 1) := by decide +kernel
theorem dX0_copy_11 : decode cX0_copy 11 = .ok (.iload_n 2, 1) := by decide +kernel
theorem dX0_copy_12 : decode cX0_copy 12 = .ok (.aload_n 1, 1) := by decide +kernel
theorem dX0_copy_13 : decode cX0_copy 13 = .ok (.getfield 25, 3) := by decide +kernel
theorem dX0_copy_16 : decode cX0_copy 16 = .ok (.if_icmp .ge 42, 3) := by decide +kernel
theorem dX0_copy_19 : decode cX0_copy 19 = .ok (.aload_n 0, 1) := by decide +kernel
theorem dX0_copy_20 : decode cX0_copy 20 = .ok (.aload_n 1, 1) := by decide +kernel
theorem dX0_copy_21 : decode cX0_copy 21 = .ok (.iload_n 2, 1) := by decide +kernel
theorem dX0_copy_22 : decode cX0_copy 22 = .ok (.invokevirtual 46, 3) := by decide +kernel
theorem dX0_copy_25 : decode cX0_copy 25 = .ok (.aload_n 1, 1) := by decide +kernel
theorem dX0_copy_26 : decode cX0_copy 26 = .ok (.iload_n 2, 1) := by decide +kernel
theorem dX0_copy_27 : decode cX0_copy 27 = .ok (.invokevirtual 50, 3) := by decide +kernel
theorem dX0_copy_30 : decode cX0_copy 30 = .ok (.aload_n 1, 1) := by decide +kernel
theorem dX0_copy_31 : decode cX0_copy 31 = .ok (.iload_n 2, 1) := by decide +kernel
theorem dX0_copy_32 : decode cX0_copy 32 = .ok (.iconst 0, 1) := by decide +kernel
theorem dX0_copy_33 : decode cX0_copy 33 = .ok (.invokevirtual 53, 3) := by decide +kernel
theorem dX0_copy_36 : decode cX0_copy 36 = .ok (.aload_n 1, 1) := by decide +kernel
theorem dX0_copy_37 : decode cX0_copy 37 = .ok (.iload_n 2, 1) := by decide +kernel
theorem dX0_copy_38 : decode cX0_copy 38 = .ok (.iconst 1, 1) := by decide +kernel
theorem dX0_copy_39 : decode cX0_copy 39 = .ok (.invokevirtual 53, 3) := by decide +kernel
theorem dX0_copy_42 : decode cX0_copy 42 = .ok (.aload_n 1, 1) := by decide +kernel
theorem dX0_copy_43 : decode cX0_copy 43 = .ok (.iload_n 2, 1) := by decide +kernel
theorem dX0_copy_44 : decode cX0_copy 44 = .ok (.iconst 2, 1) := by decide +kernel
theorem dX0_copy_45 : decode cX0_copy 45 = .ok (.invokevirtual 53, 3) := by decide +kernel
theorem dX0_copy_48 : decode cX0_copy 48 = .ok (.invokevirtual 57, 3) := by decide +kernel
theorem dX0_copy_51 : decode cX0_copy 51 = .ok (.pop, 1) := by decide +kernel
theorem dX0_copy_52 : decode cX0_copy 52 = .ok (.iinc 2 1, 3) := by decide +kernel
theorem dX0_copy_55 : decode cX0_copy 55 = .ok (.goto (-44), 3) := by decide +kernel
theorem dX0_copy_58 : decode cX0_copy 58 = .ok (.aload_n 0, 1) := by decide +kernel
theorem dX0_copy_59 : decode cX0_copy 59 = .ok (.aload_n 1, 1) := by decide +kernel
theorem dX0_copy_60 : decode cX0_copy 60 = .ok (.getfield 9, 3) := by decide +kernel
theorem dX0_copy_63 : decode cX0_copy 63 = .ok (.aload_n 1, 1) := by decide +kernel
theorem dX0_copy_64 : decode cX0_copy 64 = .ok (.iconst 5, 1) := by decide +kernel
theorem dX0_copy_65 : decode cX0_copy 65 = .ok (.iconst 0, 1) := by decide +kernel
theorem dX0_copy_66 : decode cX0_copy 66 = .ok (.invokevirtual 53, 3) := by decide +kernel
theorem dX0_copy_69 : decode cX0_copy 69 = .ok (.aload_n 1, 1) := by decide +kernel
theorem dX0_copy_70 : decode cX0_copy 70 = .ok (.iconst 5, 1) := by decide +kernel
theorem dX0_copy_71 : decode cX0_copy 71 = .ok (.iconst 1, 1) := by decide +kernel
theorem dX0_copy_72 : decode cX0_copy 72 = .ok (.invokevirtual 53, 3) := by decide +kernel
theorem dX0_copy_75 : decode cX0_copy 75 = .ok (.aload_n 1, 1) := by decide +kernel
theorem dX0_copy_76 : decode cX0_copy 76 = .ok (.iconst 5, 1) := by decide +kernel
theorem dX0_copy_77 : decode cX0_copy 77 = .ok (.iconst 2, 1) := by decide +kernel
theorem dX0_copy_78 : decode cX0_copy 78 = .ok (.invokevirtual 53, 3) := by decide +kernel
theorem dX0_copy_81 : decode cX0_copy 81 = .ok (.invokevirtual 28, 3) := by decide +kernel
theorem dX0_copy_84 : decode cX0_copy 84 = .ok (.return_, 1) := by decide +kernel
theorem dX0_formOf_0 : decode cX0_formOf 0 = .ok (.iload_n 1, 1) := by decide +kernel
theorem dX0_formOf_1 : decode cX0_formOf 1 = .ok (.ifCond .lt 17, 3) := by decide +kernel
theorem dX0_formOf_4 : decode cX0_formOf 4 = .ok (.iload_n 1, 1) := by decide +kernel
theorem dX0_formOf_5 : decode cX0_formOf 5 = .ok (.iconst 5, 1) := by decide +kernel
theorem dX0_formOf_6 : decode cX0_formOf 6 = .ok (.if_icmp .ge 12, 3) := by decide +kernel
theorem dX0_formOf_9 : decode cX0_formOf 9 = .ok (.aload_n 0, 1) := by decide +kernel
theorem dX0_formOf_10 : decode cX0_formOf 10 = .ok (.getfield 15, 3) := by decide +kernel
theorem dX0_formOf_13 : decode cX0_formOf 13 = .ok (.iload_n 1, 1) := by decide +kernel
theorem dX0_formOf_14 : decode cX0_formOf 14 = .ok (.iaload, 1) := by decide +kernel
theorem dX0_formOf_15 : decode cX0_formOf 15 = .ok (.goto 4, 3) := by decide +kernel
theorem dX0_formOf_18 : decode cX0_formOf 18 = .ok (.iconst (-1), 1) := by decide +kernel
theorem dX0_formOf_19 : decode cX0_formOf 19 = .ok (.ireturn, 1) := by decide +kernel
theorem dX0_subjectOf_0 : decode cX0_subjectOf 0 = .ok (.iload_n 1, 1) := by decide +kernel
theorem dX0_subjectOf_1 : decode cX0_subjectOf 1 = .ok (.ifCond .lt 17, 3) := by decide +kernel
theorem dX0_subjectOf_4 : decode cX0_subjectOf 4 = .ok (.iload_n 1, 1) := by decide +kernel
theorem dX0_subjectOf_5 : decode cX0_subjectOf 5 = .ok (.iconst 5, 1) := by decide +kernel
theorem dX0_subjectOf_6 : decode cX0_subjectOf 6 = .ok (.if_icmp .ge 12, 3) := by decide +kernel
theorem dX0_subjectOf_9 : decode cX0_subjectOf 9 = .ok (.aload_n 0, 1) := by decide +kernel
theorem dX0_subjectOf_10 : decode cX0_subjectOf 10 = .ok (.getfield 19, 3) := by decide +kernel
theorem dX0_subjectOf_13 : decode cX0_subjectOf 13 = .ok (.iload_n 1, 1) := by decide +kernel
theorem dX0_subjectOf_14 : decode cX0_subjectOf 14 = .ok (.iaload, 1) := by decide +kernel
theorem dX0_subjectOf_15 : decode cX0_subjectOf 15 = .ok (.goto 4, 3) := by decide +kernel
theorem dX0_subjectOf_18 : decode cX0_subjectOf 18 = .ok (.iconst (-1), 1) := by decide +kernel
theorem dX0_subjectOf_19 : decode cX0_subjectOf 19 = .ok (.ireturn, 1) := by decide +kernel
theorem dX0_termOf_0 : decode cX0_termOf 0 = .ok (.iload_n 1, 1) := by decide +kernel
theorem dX0_termOf_1 : decode cX0_termOf 1 = .ok (.iconst 3, 1) := by decide +kernel
theorem dX0_termOf_2 : decode cX0_termOf 2 = .ok (.imul, 1) := by decide +kernel
theorem dX0_termOf_3 : decode cX0_termOf 3 = .ok (.iload_n 2, 1) := by decide +kernel
theorem dX0_termOf_4 : decode cX0_termOf 4 = .ok (.iadd, 1) := by decide +kernel
theorem dX0_termOf_5 : decode cX0_termOf 5 = .ok (.istore_n 3, 1) := by decide +kernel
theorem dX0_termOf_6 : decode cX0_termOf 6 = .ok (.iload_n 3, 1) := by decide +kernel
theorem dX0_termOf_7 : decode cX0_termOf 7 = .ok (.ifCond .lt 21, 3) := by decide +kernel
theorem dX0_termOf_10 : decode cX0_termOf 10 = .ok (.iload_n 3, 1) := by decide +kernel
theorem dX0_termOf_11 : decode cX0_termOf 11 = .ok (.aload_n 0, 1) := by decide +kernel
theorem dX0_termOf_12 : decode cX0_termOf 12 = .ok (.getfield 22, 3) := by decide +kernel
theorem dX0_termOf_15 : decode cX0_termOf 15 = .ok (.arraylength, 1) := by decide +kernel
theorem dX0_termOf_16 : decode cX0_termOf 16 = .ok (.if_icmp .ge 12, 3) := by decide +kernel
theorem dX0_termOf_19 : decode cX0_termOf 19 = .ok (.aload_n 0, 1) := by decide +kernel
theorem dX0_termOf_20 : decode cX0_termOf 20 = .ok (.getfield 22, 3) := by decide +kernel
theorem dX0_termOf_23 : decode cX0_termOf 23 = .ok (.iload_n 3, 1) := by decide +kernel
theorem dX0_termOf_24 : decode cX0_termOf 24 = .ok (.iaload, 1) := by decide +kernel
theorem dX0_termOf_25 : decode cX0_termOf 25 = .ok (.goto 4, 3) := by decide +kernel
theorem dX0_termOf_28 : decode cX0_termOf 28 = .ok (.iconst 0, 1) := by decide +kernel
theorem dX0_termOf_29 : decode cX0_termOf 29 = .ok (.ireturn, 1) := by decide +kernel
theorem dX0_isAtom_0 : decode cX0_isAtom 0 = .ok (.aload_n 0, 1) := by decide +kernel
theorem dX0_isAtom_1 : decode cX0_isAtom 1 = .ok (.iload_n 1, 1) := by decide +kernel
theorem dX0_isAtom_2 : decode cX0_isAtom 2 = .ok (.invokevirtual 46, 3) := by decide +kernel
theorem dX0_isAtom_5 : decode cX0_isAtom 5 = .ok (.ifCond .eq 12, 3) := by decide +kernel
theorem dX0_isAtom_8 : decode cX0_isAtom 8 = .ok (.aload_n 0, 1) := by decide +kernel
theorem dX0_isAtom_9 : decode cX0_isAtom 9 = .ok (.iload_n 1, 1) := by decide +kernel
theorem dX0_isAtom_10 : decode cX0_isAtom 10 = .ok (.invokevirtual 46, 3) := by decide +kernel
theorem dX0_isAtom_13 : decode cX0_isAtom 13 = .ok (.iconst 1, 1) := by decide +kernel
theorem dX0_isAtom_14 : decode cX0_isAtom 14 = .ok (.if_icmp .ne 7, 3) := by decide +kernel
theorem dX0_isAtom_17 : decode cX0_isAtom 17 = .ok (.iconst 1, 1) := by decide +kernel
theorem dX0_isAtom_18 : decode cX0_isAtom 18 = .ok (.goto 4, 3) := by decide +kernel
theorem dX0_isAtom_21 : decode cX0_isAtom 21 = .ok (.iconst 0, 1) := by decide +kernel
theorem dX0_isAtom_22 : decode cX0_isAtom 22 = .ok (.ireturn, 1) := by decide +kernel
theorem dX0_holdingAtoms_0 : decode cX0_holdingAtoms 0 = .ok (.iconst 0, 1) := by decide +kernel
theorem dX0_holdingAtoms_1 : decode cX0_holdingAtoms 1 = .ok (.istore_n 1, 1) := by decide +kernel
theorem dX0_holdingAtoms_2 : decode cX0_holdingAtoms 2 = .ok (.iconst 0, 1) := by decide +kernel
theorem dX0_holdingAtoms_3 : decode cX0_holdingAtoms 3 = .ok (.istore_n 2, 1) := by decide +kernel
theorem dX0_holdingAtoms_4 : decode cX0_holdingAtoms 4 = .ok (.iload_n 2, 1) := by decide +kernel
theorem dX0_holdingAtoms_5 : decode cX0_holdingAtoms 5 = .ok (.aload_n 0, 1) := by decide +kernel
theorem dX0_holdingAtoms_6 : decode cX0_holdingAtoms 6 = .ok (.getfield 25, 3) := by decide +kernel
theorem dX0_holdingAtoms_9 : decode cX0_holdingAtoms 9 = .ok (.if_icmp .ge 25, 3) := by decide +kernel
theorem dX0_holdingAtoms_12 : decode cX0_holdingAtoms 12 = .ok (.iload_n 1, 1) := by decide +kernel
theorem dX0_holdingAtoms_13 : decode cX0_holdingAtoms 13 = .ok (.aload_n 0, 1) := by decide +kernel
theorem dX0_holdingAtoms_14 : decode cX0_holdingAtoms 14 = .ok (.iload_n 2, 1) := by decide +kernel
theorem dX0_holdingAtoms_15 : decode cX0_holdingAtoms 15 = .ok (.invokevirtual 46, 3) := by decide +kernel
theorem dX0_holdingAtoms_18 : decode cX0_holdingAtoms 18 = .ok (.ifCond .ne 7, 3) := by decide +kernel
theorem dX0_holdingAtoms_21 : decode cX0_holdingAtoms 21 = .ok (.iconst 1, 1) := by decide +kernel
theorem dX0_holdingAtoms_22 : decode cX0_holdingAtoms 22 = .ok (.goto 4, 3) := by decide +kernel
theorem dX0_holdingAtoms_25 : decode cX0_holdingAtoms 25 = .ok (.iconst 0, 1) := by decide +kernel
theorem dX0_holdingAtoms_26 : decode cX0_holdingAtoms 26 = .ok (.iadd, 1) := by decide +kernel
theorem dX0_holdingAtoms_27 : decode cX0_holdingAtoms 27 = .ok (.istore_n 1, 1) := by decide +kernel
theorem dX0_holdingAtoms_28 : decode cX0_holdingAtoms 28 = .ok (.iinc 2 1, 3) := by decide +kernel
theorem dX0_holdingAtoms_31 : decode cX0_holdingAtoms 31 = .ok (.goto (-27), 3) := by decide +kernel
theorem dX0_holdingAtoms_34 : decode cX0_holdingAtoms 34 = .ok (.iload_n 1, 1) := by decide +kernel
theorem dX0_holdingAtoms_35 : decode cX0_holdingAtoms 35 = .ok (.ireturn, 1) := by decide +kernel
theorem dX0_variablesFrom_0 : decode cX0_variablesFrom 0 = .ok (.iconst 0, 1) := by decide +kernel
theorem dX0_variablesFrom_1 : decode cX0_variablesFrom 1 = .ok (.istore_n 3, 1) := by decide +kernel
theorem dX0_variablesFrom_2 : decode cX0_variablesFrom 2 = .ok (.iload_n 2, 1) := by decide +kernel
theorem dX0_variablesFrom_3 : decode cX0_variablesFrom 3 = .ok (.istore 4, 2) := by decide +kernel
theorem dX0_variablesFrom_5 : decode cX0_variablesFrom 5 = .ok (.iload 4, 2) := by decide +kernel
theorem dX0_variablesFrom_7 : decode cX0_variablesFrom 7 = .ok (.iconst 3, 1) := by decide +kernel
theorem dX0_variablesFrom_8 : decode cX0_variablesFrom 8 = .ok (.if_icmp .ge 22, 3) := by decide +kernel
theorem dX0_variablesFrom_11 : decode cX0_variablesFrom 11 = .ok (.iload_n 3, 1) := by decide +kernel
theorem dX0_variablesFrom_12 : decode cX0_variablesFrom 12 = .ok (.aload_n 0, 1) := by decide +kernel
theorem dX0_variablesFrom_13 : decode cX0_variablesFrom 13 = .ok (.iload_n 1, 1) := by decide +kernel
theorem dX0_variablesFrom_14 : decode cX0_variablesFrom 14 = .ok (.iload 4, 2) := by decide +kernel
theorem dX0_variablesFrom_16 : decode cX0_variablesFrom 16 = .ok (.invokevirtual 53, 3) := by decide +kernel
theorem dX0_variablesFrom_19 : decode cX0_variablesFrom 19 = .ok (.invokestatic 61, 3) := by decide +kernel
theorem dX0_variablesFrom_22 : decode cX0_variablesFrom 22 = .ok (.ior, 1) := by decide +kernel
theorem dX0_variablesFrom_23 : decode cX0_variablesFrom 23 = .ok (.istore_n 3, 1) := by decide +kernel
theorem dX0_variablesFrom_24 : decode cX0_variablesFrom 24 = .ok (.iinc 4 1, 3) := by decide +kernel
theorem dX0_variablesFrom_27 : decode cX0_variablesFrom 27 = .ok (.goto (-22), 3) := by decide +kernel
theorem dX0_variablesFrom_30 : decode cX0_variablesFrom 30 = .ok (.iload_n 3, 1) := by decide +kernel
theorem dX0_variablesFrom_31 : decode cX0_variablesFrom 31 = .ok (.ireturn, 1) := by decide +kernel
theorem dX0_boundVariables_0 : decode cX0_boundVariables 0 = .ok (.iconst 0, 1) := by decide +kernel
theorem dX0_boundVariables_1 : decode cX0_boundVariables 1 = .ok (.istore_n 1, 1) := by decide +kernel
theorem dX0_boundVariables_2 : decode cX0_boundVariables 2 = .ok (.iconst 0, 1) := by decide +kernel
theorem dX0_boundVariables_3 : decode cX0_boundVariables 3 = .ok (.istore_n 2, 1) := by decide +kernel
theorem dX0_boundVariables_4 : decode cX0_boundVariables 4 = .ok (.iload_n 2, 1) := by decide +kernel
theorem dX0_boundVariables_5 : decode cX0_boundVariables 5 = .ok (.aload_n 0, 1) := by decide +kernel
theorem dX0_boundVariables_6 : decode cX0_boundVariables 6 = .ok (.getfield 25, 3) := by decide +kernel
theorem dX0_boundVariables_9 : decode cX0_boundVariables 9 = .ok (.if_icmp .ge 60, 3) := by decide +kernel
theorem dX0_boundVariables_12 : decode cX0_boundVariables 12 = .ok (.aload_n 0, 1) := by decide +kernel
theorem dX0_boundVariables_13 : decode cX0_boundVariables 13 = .ok (.iload_n 2, 1) := by decide +kernel
theorem dX0_boundVariables_14 : decode cX0_boundVariables 14 = .ok (.invokevirtual 46, 3) := by decide +kernel
theorem dX0_boundVariables_17 : decode cX0_boundVariables 17 = .ok (.istore_n 3, 1) := by decide +kernel
theorem dX0_boundVariables_18 : decode cX0_boundVariables 18 = .ok (.iload_n 3, 1) := by decide +kernel
theorem dX0_boundVariables_19 : decode cX0_boundVariables 19 = .ok (.ifCond .ne 7, 3) := by decide +kernel
theorem dX0_boundVariables_22 : decode cX0_boundVariables 22 = .ok (.iconst 0, 1) := by decide +kernel
theorem dX0_boundVariables_23 : decode cX0_boundVariables 23 = .ok (.goto 18, 3) := by decide +kernel
theorem dX0_boundVariables_26 : decode cX0_boundVariables 26 = .ok (.aload_n 0, 1) := by decide +kernel
theorem dX0_boundVariables_27 : decode cX0_boundVariables 27 = .ok (.iload_n 2, 1) := by decide +kernel
theorem dX0_boundVariables_28 : decode cX0_boundVariables 28 = .ok (.iload_n 3, 1) := by decide +kernel
theorem dX0_boundVariables_29 : decode cX0_boundVariables 29 = .ok (.iconst 3, 1) := by decide +kernel
theorem dX0_boundVariables_30 : decode cX0_boundVariables 30 = .ok (.if_icmp .ne 7, 3) := by decide +kernel
theorem dX0_boundVariables_33 : decode cX0_boundVariables 33 = .ok (.iconst 1, 1) := by decide +kernel
theorem dX0_boundVariables_34 : decode cX0_boundVariables 34 = .ok (.goto 4, 3) := by decide +kernel
theorem dX0_boundVariables_37 : decode cX0_boundVariables 37 = .ok (.iconst 0, 1) := by decide +kernel
theorem dX0_boundVariables_38 : decode cX0_boundVariables 38 = .ok (.invokevirtual 64, 3) := by decide +kernel
theorem dX0_boundVariables_41 : decode cX0_boundVariables 41 = .ok (.istore 4, 2) := by decide +kernel
theorem dX0_boundVariables_43 : decode cX0_boundVariables 43 = .ok (.iload 4, 2) := by decide +kernel
theorem dX0_boundVariables_45 : decode cX0_boundVariables 45 = .ok (.iload_n 1, 1) := by decide +kernel
theorem dX0_boundVariables_46 : decode cX0_boundVariables 46 = .ok (.iconst (-1), 1) := by decide +kernel
theorem dX0_boundVariables_47 : decode cX0_boundVariables 47 = .ok (.ixor, 1) := by decide +kernel
theorem dX0_boundVariables_48 : decode cX0_boundVariables 48 = .ok (.iand, 1) := by decide +kernel
theorem dX0_boundVariables_49 : decode cX0_boundVariables 49 = .ok (.ifCond .eq 5, 3) := by decide +kernel
theorem dX0_boundVariables_52 : decode cX0_boundVariables 52 = .ok (.iconst (-1), 1) := by decide +kernel
theorem dX0_boundVariables_53 : decode cX0_boundVariables 53 = .ok (.ireturn, 1) := by decide +kernel
theorem dX0_boundVariables_54 : decode cX0_boundVariables 54 = .ok (.iload_n 1, 1) := by decide +kernel
theorem dX0_boundVariables_55 : decode cX0_boundVariables 55 = .ok (.aload_n 0, 1) := by decide +kernel
theorem dX0_boundVariables_56 : decode cX0_boundVariables 56 = .ok (.iload_n 2, 1) := by decide +kernel
theorem dX0_boundVariables_57 : decode cX0_boundVariables 57 = .ok (.iconst 0, 1) := by decide +kernel
theorem dX0_boundVariables_58 : decode cX0_boundVariables 58 = .ok (.invokevirtual 64, 3) := by decide +kernel
theorem dX0_boundVariables_61 : decode cX0_boundVariables 61 = .ok (.ior, 1) := by decide +kernel
theorem dX0_boundVariables_62 : decode cX0_boundVariables 62 = .ok (.istore_n 1, 1) := by decide +kernel
theorem dX0_boundVariables_63 : decode cX0_boundVariables 63 = .ok (.iinc 2 1, 3) := by decide +kernel
theorem dX0_boundVariables_66 : decode cX0_boundVariables 66 = .ok (.goto (-62), 3) := by decide +kernel
theorem dX0_boundVariables_69 : decode cX0_boundVariables 69 = .ok (.iload_n 1, 1) := by decide +kernel
theorem dX0_boundVariables_70 : decode cX0_boundVariables 70 = .ok (.ireturn, 1) := by decide +kernel
theorem dX0_isSafe_0 : decode cX0_isSafe 0 = .ok (.aload_n 0, 1) := by decide +kernel
theorem dX0_isSafe_1 : decode cX0_isSafe 1 = .ok (.invokevirtual 67, 3) := by decide +kernel
theorem dX0_isSafe_4 : decode cX0_isSafe 4 = .ok (.istore_n 1, 1) := by decide +kernel
theorem dX0_isSafe_5 : decode cX0_isSafe 5 = .ok (.iload_n 1, 1) := by decide +kernel
theorem dX0_isSafe_6 : decode cX0_isSafe 6 = .ok (.iconst (-1), 1) := by decide +kernel
theorem dX0_isSafe_7 : decode cX0_isSafe 7 = .ok (.if_icmp .eq 20, 3) := by decide +kernel
theorem dX0_isSafe_10 : decode cX0_isSafe 10 = .ok (.aload_n 0, 1) := by decide +kernel
theorem dX0_isSafe_11 : decode cX0_isSafe 11 = .ok (.iconst 5, 1) := by decide +kernel
theorem dX0_isSafe_12 : decode cX0_isSafe 12 = .ok (.iconst 0, 1) := by decide +kernel
theorem dX0_isSafe_13 : decode cX0_isSafe 13 = .ok (.invokevirtual 64, 3) := by decide +kernel
theorem dX0_isSafe_16 : decode cX0_isSafe 16 = .ok (.iload_n 1, 1) := by decide +kernel
theorem dX0_isSafe_17 : decode cX0_isSafe 17 = .ok (.iconst (-1), 1) := by decide +kernel
theorem dX0_isSafe_18 : decode cX0_isSafe 18 = .ok (.ixor, 1) := by decide +kernel
theorem dX0_isSafe_19 : decode cX0_isSafe 19 = .ok (.iand, 1) := by decide +kernel
theorem dX0_isSafe_20 : decode cX0_isSafe 20 = .ok (.ifCond .ne 7, 3) := by decide +kernel
theorem dX0_isSafe_23 : decode cX0_isSafe 23 = .ok (.iconst 1, 1) := by decide +kernel
theorem dX0_isSafe_24 : decode cX0_isSafe 24 = .ok (.goto 4, 3) := by decide +kernel
theorem dX0_isSafe_27 : decode cX0_isSafe 27 = .ok (.iconst 0, 1) := by decide +kernel
theorem dX0_isSafe_28 : decode cX0_isSafe 28 = .ok (.ireturn, 1) := by decide +kernel
theorem dX0_mentions_0 : decode cX0_mentions 0 = .ok (.iconst 0, 1) := by decide +kernel
theorem dX0_mentions_1 : decode cX0_mentions 1 = .ok (.istore_n 2, 1) := by decide +kernel
theorem dX0_mentions_2 : decode cX0_mentions 2 = .ok (.iconst 0, 1) := by decide +kernel
theorem dX0_mentions_3 : decode cX0_mentions 3 = .ok (.istore_n 3, 1) := by decide +kernel
theorem dX0_mentions_4 : decode cX0_mentions 4 = .ok (.iload_n 3, 1) := by decide +kernel
theorem dX0_mentions_5 : decode cX0_mentions 5 = .ok (.iconst 3, 1) := by decide +kernel
theorem dX0_mentions_6 : decode cX0_mentions 6 = .ok (.if_icmp .ge 64, 3) := by decide +kernel
theorem dX0_mentions_9 : decode cX0_mentions 9 = .ok (.iload_n 2, 1) := by decide +kernel
theorem dX0_mentions_10 : decode cX0_mentions 10 = .ok (.aload_n 0, 1) := by decide +kernel
theorem dX0_mentions_11 : decode cX0_mentions 11 = .ok (.iconst 5, 1) := by decide +kernel
theorem dX0_mentions_12 : decode cX0_mentions 12 = .ok (.iload_n 3, 1) := by decide +kernel
theorem dX0_mentions_13 : decode cX0_mentions 13 = .ok (.invokevirtual 53, 3) := by decide +kernel
theorem dX0_mentions_16 : decode cX0_mentions 16 = .ok (.iload_n 1, 1) := by decide +kernel
theorem dX0_mentions_17 : decode cX0_mentions 17 = .ok (.if_icmp .ne 7, 3) := by decide +kernel
theorem dX0_mentions_20 : decode cX0_mentions 20 = .ok (.iconst 1, 1) := by decide +kernel
theorem dX0_mentions_21 : decode cX0_mentions 21 = .ok (.goto 4, 3) := by decide +kernel
theorem dX0_mentions_24 : decode cX0_mentions 24 = .ok (.iconst 0, 1) := by decide +kernel
theorem dX0_mentions_25 : decode cX0_mentions 25 = .ok (.iadd, 1) := by decide +kernel
theorem dX0_mentions_26 : decode cX0_mentions 26 = .ok (.istore_n 2, 1) := by decide +kernel
theorem dX0_mentions_27 : decode cX0_mentions 27 = .ok (.iconst 0, 1) := by decide +kernel
theorem dX0_mentions_28 : decode cX0_mentions 28 = .ok (.istore 4, 2) := by decide +kernel
theorem dX0_mentions_30 : decode cX0_mentions 30 = .ok (.iload 4, 2) := by decide +kernel
theorem dX0_mentions_32 : decode cX0_mentions 32 = .ok (.aload_n 0, 1) := by decide +kernel
theorem dX0_mentions_33 : decode cX0_mentions 33 = .ok (.getfield 25, 3) := by decide +kernel
theorem dX0_mentions_36 : decode cX0_mentions 36 = .ok (.if_icmp .ge 28, 3) := by decide +kernel
theorem dX0_mentions_39 : decode cX0_mentions 39 = .ok (.iload_n 2, 1) := by decide +kernel
theorem dX0_mentions_40 : decode cX0_mentions 40 = .ok (.aload_n 0, 1) := by decide +kernel
theorem dX0_mentions_41 : decode cX0_mentions 41 = .ok (.iload 4, 2) := by decide +kernel
theorem dX0_mentions_43 : decode cX0_mentions 43 = .ok (.iload_n 3, 1) := by decide +kernel
theorem dX0_mentions_44 : decode cX0_mentions 44 = .ok (.invokevirtual 53, 3) := by decide +kernel
theorem dX0_mentions_47 : decode cX0_mentions 47 = .ok (.iload_n 1, 1) := by decide +kernel
theorem dX0_mentions_48 : decode cX0_mentions 48 = .ok (.if_icmp .ne 7, 3) := by decide +kernel
theorem dX0_mentions_51 : decode cX0_mentions 51 = .ok (.iconst 1, 1) := by decide +kernel
theorem dX0_mentions_52 : decode cX0_mentions 52 = .ok (.goto 4, 3) := by decide +kernel
theorem dX0_mentions_55 : decode cX0_mentions 55 = .ok (.iconst 0, 1) := by decide +kernel
theorem dX0_mentions_56 : decode cX0_mentions 56 = .ok (.iadd, 1) := by decide +kernel
theorem dX0_mentions_57 : decode cX0_mentions 57 = .ok (.istore_n 2, 1) := by decide +kernel
theorem dX0_mentions_58 : decode cX0_mentions 58 = .ok (.iinc 4 1, 3) := by decide +kernel
theorem dX0_mentions_61 : decode cX0_mentions 61 = .ok (.goto (-31), 3) := by decide +kernel
theorem dX0_mentions_64 : decode cX0_mentions 64 = .ok (.iinc 3 1, 3) := by decide +kernel
theorem dX0_mentions_67 : decode cX0_mentions 67 = .ok (.goto (-63), 3) := by decide +kernel
theorem dX0_mentions_70 : decode cX0_mentions 70 = .ok (.iload_n 2, 1) := by decide +kernel
theorem dX0_mentions_71 : decode cX0_mentions 71 = .ok (.ireturn, 1) := by decide +kernel
theorem dX0_sumOver_0 : decode cX0_sumOver 0 = .ok (.iconst 0, 1) := by decide +kernel
theorem dX0_sumOver_1 : decode cX0_sumOver 1 = .ok (.istore_n 2, 1) := by decide +kernel
theorem dX0_sumOver_2 : decode cX0_sumOver 2 = .ok (.iconst 0, 1) := by decide +kernel
theorem dX0_sumOver_3 : decode cX0_sumOver 3 = .ok (.istore_n 3, 1) := by decide +kernel
theorem dX0_sumOver_4 : decode cX0_sumOver 4 = .ok (.iload_n 3, 1) := by decide +kernel
theorem dX0_sumOver_5 : decode cX0_sumOver 5 = .ok (.aload_n 0, 1) := by decide +kernel
theorem dX0_sumOver_6 : decode cX0_sumOver 6 = .ok (.getfield 25, 3) := by decide +kernel
theorem dX0_sumOver_9 : decode cX0_sumOver 9 = .ok (.if_icmp .ge 45, 3) := by decide +kernel
theorem dX0_sumOver_12 : decode cX0_sumOver 12 = .ok (.aload_n 0, 1) := by decide +kernel
theorem dX0_sumOver_13 : decode cX0_sumOver 13 = .ok (.iload_n 3, 1) := by decide +kernel
theorem dX0_sumOver_14 : decode cX0_sumOver 14 = .ok (.invokevirtual 46, 3) := by decide +kernel
theorem dX0_sumOver_17 : decode cX0_sumOver 17 = .ok (.iconst 3, 1) := by decide +kernel
theorem dX0_sumOver_18 : decode cX0_sumOver 18 = .ok (.if_icmp .ne 30, 3) := by decide +kernel
theorem dX0_sumOver_21 : decode cX0_sumOver 21 = .ok (.aload_n 0, 1) := by decide +kernel
theorem dX0_sumOver_22 : decode cX0_sumOver 22 = .ok (.iload_n 3, 1) := by decide +kernel
theorem dX0_sumOver_23 : decode cX0_sumOver 23 = .ok (.iconst 1, 1) := by decide +kernel
theorem dX0_sumOver_24 : decode cX0_sumOver 24 = .ok (.invokevirtual 53, 3) := by decide +kernel
theorem dX0_sumOver_27 : decode cX0_sumOver 27 = .ok (.iload_n 1, 1) := by decide +kernel
theorem dX0_sumOver_28 : decode cX0_sumOver 28 = .ok (.if_icmp .eq 13, 3) := by decide +kernel
theorem dX0_sumOver_31 : decode cX0_sumOver 31 = .ok (.aload_n 0, 1) := by decide +kernel
theorem dX0_sumOver_32 : decode cX0_sumOver 32 = .ok (.iload_n 3, 1) := by decide +kernel
theorem dX0_sumOver_33 : decode cX0_sumOver 33 = .ok (.iconst 2, 1) := by decide +kernel
theorem dX0_sumOver_34 : decode cX0_sumOver 34 = .ok (.invokevirtual 53, 3) := by decide +kernel
theorem dX0_sumOver_37 : decode cX0_sumOver 37 = .ok (.iload_n 1, 1) := by decide +kernel
theorem dX0_sumOver_38 : decode cX0_sumOver 38 = .ok (.if_icmp .ne 10, 3) := by decide +kernel
theorem dX0_sumOver_41 : decode cX0_sumOver 41 = .ok (.aload_n 0, 1) := by decide +kernel
theorem dX0_sumOver_42 : decode cX0_sumOver 42 = .ok (.iload_n 3, 1) := by decide +kernel
theorem dX0_sumOver_43 : decode cX0_sumOver 43 = .ok (.iconst 0, 1) := by decide +kernel
theorem dX0_sumOver_44 : decode cX0_sumOver 44 = .ok (.invokevirtual 53, 3) := by decide +kernel
theorem dX0_sumOver_47 : decode cX0_sumOver 47 = .ok (.istore_n 2, 1) := by decide +kernel
theorem dX0_sumOver_48 : decode cX0_sumOver 48 = .ok (.iinc 3 1, 3) := by decide +kernel
theorem dX0_sumOver_51 : decode cX0_sumOver 51 = .ok (.goto (-47), 3) := by decide +kernel
theorem dX0_sumOver_54 : decode cX0_sumOver 54 = .ok (.iload_n 2, 1) := by decide +kernel
theorem dX0_sumOver_55 : decode cX0_sumOver 55 = .ok (.ireturn, 1) := by decide +kernel
theorem dX0_areAlike_0 : decode cX0_areAlike 0 = .ok (.iconst 1, 1) := by decide +kernel
theorem dX0_areAlike_1 : decode cX0_areAlike 1 = .ok (.istore 4, 2) := by decide +kernel
theorem dX0_areAlike_3 : decode cX0_areAlike 3 = .ok (.iconst 0, 1) := by decide +kernel
theorem dX0_areAlike_4 : decode cX0_areAlike 4 = .ok (.istore 5, 2) := by decide +kernel
theorem dX0_areAlike_6 : decode cX0_areAlike 6 = .ok (.iload 5, 2) := by decide +kernel
theorem dX0_areAlike_8 : decode cX0_areAlike 8 = .ok (.iload_n 3, 1) := by decide +kernel
theorem dX0_areAlike_9 : decode cX0_areAlike 9 = .ok (.if_icmp .ge 38, 3) := by decide +kernel
theorem dX0_areAlike_12 : decode cX0_areAlike 12 = .ok (.iload 4, 2) := by decide +kernel
theorem dX0_areAlike_14 : decode cX0_areAlike 14 = .ok (.ifCond .eq 24, 3) := by decide +kernel
theorem dX0_areAlike_17 : decode cX0_areAlike 17 = .ok (.aload_n 0, 1) := by decide +kernel
theorem dX0_areAlike_18 : decode cX0_areAlike 18 = .ok (.iload_n 1, 1) := by decide +kernel
theorem dX0_areAlike_19 : decode cX0_areAlike 19 = .ok (.iload 5, 2) := by decide +kernel
theorem dX0_areAlike_21 : decode cX0_areAlike 21 = .ok (.invokevirtual 53, 3) := by decide +kernel
theorem dX0_areAlike_24 : decode cX0_areAlike 24 = .ok (.aload_n 0, 1) := by decide +kernel
theorem dX0_areAlike_25 : decode cX0_areAlike 25 = .ok (.iload_n 2, 1) := by decide +kernel
theorem dX0_areAlike_26 : decode cX0_areAlike 26 = .ok (.iload 5, 2) := by decide +kernel
theorem dX0_areAlike_28 : decode cX0_areAlike 28 = .ok (.invokevirtual 53, 3) := by decide +kernel
theorem dX0_areAlike_31 : decode cX0_areAlike 31 = .ok (.if_icmp .ne 7, 3) := by decide +kernel
theorem dX0_areAlike_34 : decode cX0_areAlike 34 = .ok (.iconst 1, 1) := by decide +kernel
theorem dX0_areAlike_35 : decode cX0_areAlike 35 = .ok (.goto 4, 3) := by decide +kernel
theorem dX0_areAlike_38 : decode cX0_areAlike 38 = .ok (.iconst 0, 1) := by decide +kernel
theorem dX0_areAlike_39 : decode cX0_areAlike 39 = .ok (.istore 4, 2) := by decide +kernel
theorem dX0_areAlike_41 : decode cX0_areAlike 41 = .ok (.iinc 5 1, 3) := by decide +kernel
theorem dX0_areAlike_44 : decode cX0_areAlike 44 = .ok (.goto (-38), 3) := by decide +kernel
theorem dX0_areAlike_47 : decode cX0_areAlike 47 = .ok (.iload 4, 2) := by decide +kernel
theorem dX0_areAlike_49 : decode cX0_areAlike 49 = .ok (.ireturn, 1) := by decide +kernel
theorem dX0_knownColumns_0 : decode cX0_knownColumns 0 = .ok (.iconst 0, 1) := by decide +kernel
theorem dX0_knownColumns_1 : decode cX0_knownColumns 1 = .ok (.istore 4, 2) := by decide +kernel
theorem dX0_knownColumns_3 : decode cX0_knownColumns 3 = .ok (.iconst 0, 1) := by decide +kernel
theorem dX0_knownColumns_4 : decode cX0_knownColumns 4 = .ok (.istore 5, 2) := by decide +kernel
theorem dX0_knownColumns_6 : decode cX0_knownColumns 6 = .ok (.iload 5, 2) := by decide +kernel
theorem dX0_knownColumns_8 : decode cX0_knownColumns 8 = .ok (.iload_n 2, 1) := by decide +kernel
theorem dX0_knownColumns_9 : decode cX0_knownColumns 9 = .ok (.if_icmp .ge 46, 3) := by decide +kernel
theorem dX0_knownColumns_12 : decode cX0_knownColumns 12 = .ok (.aload_n 0, 1) := by decide +kernel
theorem dX0_knownColumns_13 : decode cX0_knownColumns 13 = .ok (.iload_n 1, 1) := by decide +kernel
theorem dX0_knownColumns_14 : decode cX0_knownColumns 14 = .ok (.iload 5, 2) := by decide +kernel
theorem dX0_knownColumns_16 : decode cX0_knownColumns 16 = .ok (.invokevirtual 53, 3) := by decide +kernel
theorem dX0_knownColumns_19 : decode cX0_knownColumns 19 = .ok (.istore 6, 2) := by decide +kernel
theorem dX0_knownColumns_21 : decode cX0_knownColumns 21 = .ok (.iload 4, 2) := by decide +kernel
theorem dX0_knownColumns_23 : decode cX0_knownColumns 23 = .ok (.iload 6, 2) := by decide +kernel
theorem dX0_knownColumns_25 : decode cX0_knownColumns 25 = .ok (.ifCond .ge 13, 3) := by decide +kernel
theorem dX0_knownColumns_28 : decode cX0_knownColumns 28 = .ok (.iload 6, 2) := by decide +kernel
theorem dX0_knownColumns_30 : decode cX0_knownColumns 30 = .ok (.invokestatic 61, 3) := by decide +kernel
theorem dX0_knownColumns_33 : decode cX0_knownColumns 33 = .ok (.iload_n 3, 1) := by decide +kernel
theorem dX0_knownColumns_34 : decode cX0_knownColumns 34 = .ok (.iand, 1) := by decide +kernel
theorem dX0_knownColumns_35 : decode cX0_knownColumns 35 = .ok (.ifCond .eq 10, 3) := by decide +kernel
theorem dX0_knownColumns_38 : decode cX0_knownColumns 38 = .ok (.iconst 1, 1) := by decide +kernel
theorem dX0_knownColumns_39 : decode cX0_knownColumns 39 = .ok (.iload 5, 2) := by decide +kernel
theorem dX0_knownColumns_41 : decode cX0_knownColumns 41 = .ok (.ishl, 1) := by decide +kernel
theorem dX0_knownColumns_42 : decode cX0_knownColumns 42 = .ok (.goto 4, 3) := by decide +kernel
theorem dX0_knownColumns_45 : decode cX0_knownColumns 45 = .ok (.iconst 0, 1) := by decide +kernel
theorem dX0_knownColumns_46 : decode cX0_knownColumns 46 = .ok (.ior, 1) := by decide +kernel
theorem dX0_knownColumns_47 : decode cX0_knownColumns 47 = .ok (.istore 4, 2) := by decide +kernel
theorem dX0_knownColumns_49 : decode cX0_knownColumns 49 = .ok (.iinc 5 1, 3) := by decide +kernel
theorem dX0_knownColumns_52 : decode cX0_knownColumns 52 = .ok (.goto (-46), 3) := by decide +kernel
theorem dX0_knownColumns_55 : decode cX0_knownColumns 55 = .ok (.iload 4, 2) := by decide +kernel
theorem dX0_knownColumns_57 : decode cX0_knownColumns 57 = .ok (.ireturn, 1) := by decide +kernel
theorem dX1_init_0 : decode cX1_init 0 = .ok (.aload_n 0, 1) := by decide +kernel
theorem dX1_init_1 : decode cX1_init 1 = .ok (.invokespecial 3, 3) := by decide +kernel
theorem dX1_init_4 : decode cX1_init 4 = .ok (.aload_n 0, 1) := by decide +kernel
theorem dX1_init_5 : decode cX1_init 5 = .ok (.bipush 48, 2) := by decide +kernel
theorem dX1_init_7 : decode cX1_init 7 = .ok (.newarray .int, 2) := by decide +kernel
theorem dX1_init_9 : decode cX1_init 9 = .ok (.putfield 9, 3) := by decide +kernel
theorem dX1_init_12 : decode cX1_init 12 = .ok (.return_, 1) := by decide +kernel
theorem dX1_reset_0 : decode cX1_reset 0 = .ok (.iconst 0, 1) := by decide +kernel
theorem dX1_reset_1 : decode cX1_reset 1 = .ok (.istore_n 1, 1) := by decide +kernel
theorem dX1_reset_2 : decode cX1_reset 2 = .ok (.iload_n 1, 1) := by decide +kernel
theorem dX1_reset_3 : decode cX1_reset 3 = .ok (.aload_n 0, 1) := by decide +kernel
theorem dX1_reset_4 : decode cX1_reset 4 = .ok (.getfield 9, 3) := by decide +kernel
theorem dX1_reset_7 : decode cX1_reset 7 = .ok (.arraylength, 1) := by decide +kernel
theorem dX1_reset_8 : decode cX1_reset 8 = .ok (.if_icmp .ge 17, 3) := by decide +kernel
theorem dX1_reset_11 : decode cX1_reset 11 = .ok (.aload_n 0, 1) := by decide +kernel
theorem dX1_reset_12 : decode cX1_reset 12 = .ok (.getfield 9, 3) := by decide +kernel
theorem dX1_reset_15 : decode cX1_reset 15 = .ok (.iload_n 1, 1) := by decide +kernel
theorem dX1_reset_16 : decode cX1_reset 16 = .ok (.ldc 15, 2) := by decide +kernel
theorem dX1_reset_18 : decode cX1_reset 18 = .ok (.iastore, 1) := by decide +kernel
theorem dX1_reset_19 : decode cX1_reset 19 = .ok (.iinc 1 1, 3) := by decide +kernel
theorem dX1_reset_22 : decode cX1_reset 22 = .ok (.goto (-20), 3) := by decide +kernel
theorem dX1_reset_25 : decode cX1_reset 25 = .ok (.return_, 1) := by decide +kernel
theorem dX1_costOf_0 : decode cX1_costOf 0 = .ok (.iload_n 1, 1) := by decide +kernel
theorem dX1_costOf_1 : decode cX1_costOf 1 = .ok (.ifCond .lt 21, 3) := by decide +kernel
theorem dX1_costOf_4 : decode cX1_costOf 4 = .ok (.iload_n 1, 1) := by decide +kernel
theorem dX1_costOf_5 : decode cX1_costOf 5 = .ok (.aload_n 0, 1) := by decide +kernel
theorem dX1_costOf_6 : decode cX1_costOf 6 = .ok (.getfield 9, 3) := by decide +kernel
theorem dX1_costOf_9 : decode cX1_costOf 9 = .ok (.arraylength, 1) := by decide +kernel
theorem dX1_costOf_10 : decode cX1_costOf 10 = .ok (.if_icmp .ge 12, 3) := by decide +kernel
theorem dX1_costOf_13 : decode cX1_costOf 13 = .ok (.aload_n 0, 1) := by decide +kernel
theorem dX1_costOf_14 : decode cX1_costOf 14 = .ok (.getfield 9, 3) := by decide +kernel
theorem dX1_costOf_17 : decode cX1_costOf 17 = .ok (.iload_n 1, 1) := by decide +kernel
theorem dX1_costOf_18 : decode cX1_costOf 18 = .ok (.iaload, 1) := by decide +kernel
theorem dX1_costOf_19 : decode cX1_costOf 19 = .ok (.goto 5, 3) := by decide +kernel
theorem dX1_costOf_22 : decode cX1_costOf 22 = .ok (.ldc 15, 2) := by decide +kernel
theorem dX1_costOf_24 : decode cX1_costOf 24 = .ok (.ireturn, 1) := by decide +kernel
theorem dX1_lower_0 : decode cX1_lower 0 = .ok (.iload_n 1, 1) := by decide +kernel
theorem dX1_lower_1 : decode cX1_lower 1 = .ok (.ifCond .lt 22, 3) := by decide +kernel
theorem dX1_lower_4 : decode cX1_lower 4 = .ok (.iload_n 1, 1) := by decide +kernel
theorem dX1_lower_5 : decode cX1_lower 5 = .ok (.aload_n 0, 1) := by decide +kernel
theorem dX1_lower_6 : decode cX1_lower 6 = .ok (.getfield 9, 3) := by decide +kernel
theorem dX1_lower_9 : decode cX1_lower 9 = .ok (.arraylength, 1) := by decide +kernel
theorem dX1_lower_10 : decode cX1_lower 10 = .ok (.if_icmp .ge 13, 3) := by decide +kernel
theorem dX1_lower_13 : decode cX1_lower 13 = .ok (.aload_n 0, 1) := by decide +kernel
theorem dX1_lower_14 : decode cX1_lower 14 = .ok (.getfield 9, 3) := by decide +kernel
theorem dX1_lower_17 : decode cX1_lower 17 = .ok (.iload_n 1, 1) := by decide +kernel
theorem dX1_lower_18 : decode cX1_lower 18 = .ok (.iaload, 1) := by decide +kernel
theorem dX1_lower_19 : decode cX1_lower 19 = .ok (.iload_n 2, 1) := by decide +kernel
theorem dX1_lower_20 : decode cX1_lower 20 = .ok (.if_icmp .gt 5, 3) := by decide +kernel
theorem dX1_lower_23 : decode cX1_lower 23 = .ok (.iconst 0, 1) := by decide +kernel
theorem dX1_lower_24 : decode cX1_lower 24 = .ok (.ireturn, 1) := by decide +kernel
theorem dX1_lower_25 : decode cX1_lower 25 = .ok (.aload_n 0, 1) := by decide +kernel
theorem dX1_lower_26 : decode cX1_lower 26 = .ok (.getfield 9, 3) := by decide +kernel
theorem dX1_lower_29 : decode cX1_lower 29 = .ok (.iload_n 1, 1) := by decide +kernel
theorem dX1_lower_30 : decode cX1_lower 30 = .ok (.iload_n 2, 1) := by decide +kernel
theorem dX1_lower_31 : decode cX1_lower 31 = .ok (.iastore, 1) := by decide +kernel
theorem dX1_lower_32 : decode cX1_lower 32 = .ok (.iconst 1, 1) := by decide +kernel
theorem dX1_lower_33 : decode cX1_lower 33 = .ok (.ireturn, 1) := by decide +kernel
theorem dX2_init_0 : decode cX2_init 0 = .ok (.aload_n 0, 1) := by decide +kernel
theorem dX2_init_1 : decode cX2_init 1 = .ok (.invokespecial 3, 3) := by decide +kernel
theorem dX2_init_4 : decode cX2_init 4 = .ok (.aload_n 0, 1) := by decide +kernel
theorem dX2_init_5 : decode cX2_init 5 = .ok (.bipush 24, 2) := by decide +kernel
theorem dX2_init_7 : decode cX2_init 7 = .ok (.newarray .int, 2) := by decide +kernel
theorem dX2_init_9 : decode cX2_init 9 = .ok (.putfield 9, 3) := by decide +kernel
theorem dX2_init_12 : decode cX2_init 12 = .ok (.aload_n 0, 1) := by decide +kernel
theorem dX2_init_13 : decode cX2_init 13 = .ok (.bipush 24, 2) := by decide +kernel
theorem dX2_init_15 : decode cX2_init 15 = .ok (.newarray .int, 2) := by decide +kernel
theorem dX2_init_17 : decode cX2_init 17 = .ok (.putfield 15, 3) := by decide +kernel
theorem dX2_init_20 : decode cX2_init 20 = .ok (.aload_n 0, 1) := by decide +kernel
theorem dX2_init_21 : decode cX2_init 21 = .ok (.bipush 24, 2) := by decide +kernel
theorem dX2_init_23 : decode cX2_init 23 = .ok (.newarray .int, 2) := by decide +kernel
theorem dX2_init_25 : decode cX2_init 25 = .ok (.putfield 18, 3) := by decide +kernel
theorem dX2_init_28 : decode cX2_init 28 = .ok (.aload_n 0, 1) := by decide +kernel
theorem dX2_init_29 : decode cX2_init 29 = .ok (.bipush 24, 2) := by decide +kernel
theorem dX2_init_31 : decode cX2_init 31 = .ok (.newarray .int, 2) := by decide +kernel
theorem dX2_init_33 : decode cX2_init 33 = .ok (.putfield 21, 3) := by decide +kernel
theorem dX2_init_36 : decode cX2_init 36 = .ok (.aload_n 0, 1) := by decide +kernel
theorem dX2_init_37 : decode cX2_init 37 = .ok (.bipush 24, 2) := by decide +kernel
theorem dX2_init_39 : decode cX2_init 39 = .ok (.newarray .int, 2) := by decide +kernel
theorem dX2_init_41 : decode cX2_init 41 = .ok (.putfield 24, 3) := by decide +kernel
theorem dX2_init_44 : decode cX2_init 44 = .ok (.aload_n 0, 1) := by decide +kernel
theorem dX2_init_45 : decode cX2_init 45 = .ok (.bipush 24, 2) := by decide +kernel
theorem dX2_init_47 : decode cX2_init 47 = .ok (.newarray .boolean, 2) := by decide +kernel
theorem dX2_init_49 : decode cX2_init 49 = .ok (.putfield 27, 3) := by decide +kernel
theorem dX2_init_52 : decode cX2_init 52 = .ok (.return_, 1) := by decide +kernel
theorem dX2_isFact_0 : decode cX2_isFact 0 = .ok (.iload_n 1, 1) := by decide +kernel
theorem dX2_isFact_1 : decode cX2_isFact 1 = .ok (.ifCond .lt 21, 3) := by decide +kernel
theorem dX2_isFact_4 : decode cX2_isFact 4 = .ok (.iload_n 1, 1) := by decide +kernel
theorem dX2_isFact_5 : decode cX2_isFact 5 = .ok (.aload_n 0, 1) := by decide +kernel
theorem dX2_isFact_6 : decode cX2_isFact 6 = .ok (.getfield 31, 3) := by decide +kernel
theorem dX2_isFact_9 : decode cX2_isFact 9 = .ok (.if_icmp .ge 13, 3) := by decide +kernel
theorem dX2_isFact_12 : decode cX2_isFact 12 = .ok (.iload_n 1, 1) := by decide +kernel
theorem dX2_isFact_13 : decode cX2_isFact 13 = .ok (.bipush 24, 2) := by decide +kernel
theorem dX2_isFact_15 : decode cX2_isFact 15 = .ok (.if_icmp .ge 7, 3) := by decide +kernel
theorem dX2_isFact_18 : decode cX2_isFact 18 = .ok (.iconst 1, 1) := by decide +kernel
theorem dX2_isFact_19 : decode cX2_isFact 19 = .ok (.goto 4, 3) := by decide +kernel
theorem dX2_isFact_22 : decode cX2_isFact 22 = .ok (.iconst 0, 1) := by decide +kernel
theorem dX2_isFact_23 : decode cX2_isFact 23 = .ok (.ireturn, 1) := by decide +kernel
theorem dX2_append_0 : decode cX2_append 0 = .ok (.aload_n 0, 1) := by decide +kernel
theorem dX2_append_1 : decode cX2_append 1 = .ok (.getfield 31, 3) := by decide +kernel
theorem dX2_append_4 : decode cX2_append 4 = .ok (.istore 6, 2) := by decide +kernel
theorem dX2_append_6 : decode cX2_append 6 = .ok (.iload 6, 2) := by decide +kernel
theorem dX2_append_8 : decode cX2_append 8 = .ok (.ifCond .lt 80, 3) := by decide +kernel
theorem dX2_append_11 : decode cX2_append 11 = .ok (.iload 6, 2) := by decide +kernel
theorem dX2_append_13 : decode cX2_append 13 = .ok (.bipush 24, 2) := by decide +kernel
theorem dX2_append_15 : decode cX2_append 15 = .ok (.if_icmp .ge 73, 3) := by decide +kernel
theorem dX2_append_18 : decode cX2_append 18 = .ok (.aload_n 0, 1) := by decide +kernel
theorem dX2_append_19 : decode cX2_append 19 = .ok (.getfield 9, 3) := by decide +kernel
theorem dX2_append_22 : decode cX2_append 22 = .ok (.iload 6, 2) := by decide +kernel
theorem dX2_append_24 : decode cX2_append 24 = .ok (.iload_n 1, 1) := by decide +kernel
theorem dX2_append_25 : decode cX2_append 25 = .ok (.iastore, 1) := by decide +kernel
theorem dX2_append_26 : decode cX2_append 26 = .ok (.aload_n 0, 1) := by decide +kernel
theorem dX2_append_27 : decode cX2_append 27 = .ok (.getfield 15, 3) := by decide +kernel
theorem dX2_append_30 : decode cX2_append 30 = .ok (.iload 6, 2) := by decide +kernel
theorem dX2_append_32 : decode cX2_append 32 = .ok (.iload_n 2, 1) := by decide +kernel
theorem dX2_append_33 : decode cX2_append 33 = .ok (.iastore, 1) := by decide +kernel
theorem dX2_append_34 : decode cX2_append 34 = .ok (.aload_n 0, 1) := by decide +kernel
theorem dX2_append_35 : decode cX2_append 35 = .ok (.getfield 18, 3) := by decide +kernel
theorem dX2_append_38 : decode cX2_append 38 = .ok (.iload 6, 2) := by decide +kernel
theorem dX2_append_40 : decode cX2_append 40 = .ok (.iload_n 3, 1) := by decide +kernel
theorem dX2_append_41 : decode cX2_append 41 = .ok (.iastore, 1) := by decide +kernel
theorem dX2_append_42 : decode cX2_append 42 = .ok (.aload_n 0, 1) := by decide +kernel
theorem dX2_append_43 : decode cX2_append 43 = .ok (.getfield 21, 3) := by decide +kernel
theorem dX2_append_46 : decode cX2_append 46 = .ok (.iload 6, 2) := by decide +kernel
theorem dX2_append_48 : decode cX2_append 48 = .ok (.iload 4, 2) := by decide +kernel
theorem dX2_append_50 : decode cX2_append 50 = .ok (.iastore, 1) := by decide +kernel
theorem dX2_append_51 : decode cX2_append 51 = .ok (.aload_n 0, 1) := by decide +kernel
theorem dX2_append_52 : decode cX2_append 52 = .ok (.getfield 24, 3) := by decide +kernel
theorem dX2_append_55 : decode cX2_append 55 = .ok (.iload 6, 2) := by decide +kernel
theorem dX2_append_57 : decode cX2_append 57 = .ok (.iload 5, 2) := by decide +kernel
theorem dX2_append_59 : decode cX2_append 59 = .ok (.iastore, 1) := by decide +kernel
theorem dX2_append_60 : decode cX2_append 60 = .ok (.aload_n 0, 1) := by decide +kernel
theorem dX2_append_61 : decode cX2_append 61 = .ok (.getfield 27, 3) := by decide +kernel
theorem dX2_append_64 : decode cX2_append 64 = .ok (.iload 6, 2) := by decide +kernel
theorem dX2_append_66 : decode cX2_append 66 = .ok (.iconst 0, 1) := by decide +kernel
theorem dX2_append_67 : decode cX2_append 67 = .ok (.bastore, 1) := by decide +kernel
theorem dX2_append_68 : decode cX2_append 68 = .ok (.aload_n 0, 1) := by decide +kernel
theorem dX2_append_69 : decode cX2_append 69 = .ok (.dup, 1) := by decide +kernel
theorem dX2_append_70 : decode cX2_append 70 = .ok (.getfield 31, 3) := by decide +kernel
theorem dX2_append_73 : decode cX2_append 73 = .ok (.iconst 1, 1) := by decide +kernel
theorem dX2_append_74 : decode cX2_append 74 = .ok (.iadd, 1) := by decide +kernel
theorem dX2_append_75 : decode cX2_append 75 = .ok (.putfield 31, 3) := by decide +kernel
theorem dX2_append_78 : decode cX2_append 78 = .ok (.aload_n 0, 1) := by decide +kernel
theorem dX2_append_79 : decode cX2_append 79 = .ok (.dup, 1) := by decide +kernel
theorem dX2_append_80 : decode cX2_append 80 = .ok (.getfield 35, 3) := by decide +kernel
theorem dX2_append_83 : decode cX2_append 83 = .ok (.iconst 1, 1) := by decide +kernel
theorem dX2_append_84 : decode cX2_append 84 = .ok (.iadd, 1) := by decide +kernel
theorem dX2_append_85 : decode cX2_append 85 = .ok (.putfield 35, 3) := by decide +kernel
theorem dX2_append_88 : decode cX2_append 88 = .ok (.return_, 1) := by decide +kernel
theorem dX2_takeBack_0 : decode cX2_takeBack 0 = .ok (.aload_n 0, 1) := by decide +kernel
theorem dX2_takeBack_1 : decode cX2_takeBack 1 = .ok (.dup, 1) := by decide +kernel
theorem dX2_takeBack_2 : decode cX2_takeBack 2 = .ok (.getfield 31, 3) := by decide +kernel
theorem dX2_takeBack_5 : decode cX2_takeBack 5 = .ok (.iconst 1, 1) := by decide +kernel
theorem dX2_takeBack_6 : decode cX2_takeBack 6 = .ok (.isub, 1) := by decide +kernel
theorem dX2_takeBack_7 : decode cX2_takeBack 7 = .ok (.putfield 31, 3) := by decide +kernel
theorem dX2_takeBack_10 : decode cX2_takeBack 10 = .ok (.aload_n 0, 1) := by decide +kernel
theorem dX2_takeBack_11 : decode cX2_takeBack 11 = .ok (.dup, 1) := by decide +kernel
theorem dX2_takeBack_12 : decode cX2_takeBack 12 = .ok (.getfield 35, 3) := by decide +kernel
theorem dX2_takeBack_15 : decode cX2_takeBack 15 = .ok (.iconst 1, 1) := by decide +kernel
theorem dX2_takeBack_16 : decode cX2_takeBack 16 = .ok (.isub, 1) := by decide +kernel
theorem dX2_takeBack_17 : decode cX2_takeBack 17 = .ok (.putfield 35, 3) := by decide +kernel
theorem dX2_takeBack_20 : decode cX2_takeBack 20 = .ok (.return_, 1) := by decide +kernel
theorem dX2_setDropped_0 : decode cX2_setDropped 0 = .ok (.aload_n 0, 1) := by decide +kernel
theorem dX2_setDropped_1 : decode cX2_setDropped 1 = .ok (.iload_n 1, 1) := by decide +kernel
theorem dX2_setDropped_2 : decode cX2_setDropped 2 = .ok (.invokevirtual 38, 3) := by decide +kernel
theorem dX2_setDropped_5 : decode cX2_setDropped 5 = .ok (.ifCond .eq 38, 3) := by decide +kernel
theorem dX2_setDropped_8 : decode cX2_setDropped 8 = .ok (.aload_n 0, 1) := by decide +kernel
theorem dX2_setDropped_9 : decode cX2_setDropped 9 = .ok (.getfield 27, 3) := by decide +kernel
theorem dX2_setDropped_12 : decode cX2_setDropped 12 = .ok (.iload_n 1, 1) := by decide +kernel
theorem dX2_setDropped_13 : decode cX2_setDropped 13 = .ok (.baload, 1) := by decide +kernel
theorem dX2_setDropped_14 : decode cX2_setDropped 14 = .ok (.iload_n 2, 1) := by decide +kernel
theorem dX2_setDropped_15 : decode cX2_setDropped 15 = .ok (.if_icmp .eq 28, 3) := by decide +kernel
theorem dX2_setDropped_18 : decode cX2_setDropped 18 = .ok (.aload_n 0, 1) := by decide +kernel
theorem dX2_setDropped_19 : decode cX2_setDropped 19 = .ok (.getfield 27, 3) := by decide +kernel
theorem dX2_setDropped_22 : decode cX2_setDropped 22 = .ok (.iload_n 1, 1) := by decide +kernel
theorem dX2_setDropped_23 : decode cX2_setDropped 23 = .ok (.iload_n 2, 1) := by decide +kernel
theorem dX2_setDropped_24 : decode cX2_setDropped 24 = .ok (.bastore, 1) := by decide +kernel
theorem dX2_setDropped_25 : decode cX2_setDropped 25 = .ok (.aload_n 0, 1) := by decide +kernel
theorem dX2_setDropped_26 : decode cX2_setDropped 26 = .ok (.dup, 1) := by decide +kernel
theorem dX2_setDropped_27 : decode cX2_setDropped 27 = .ok (.getfield 35, 3) := by decide +kernel
theorem dX2_setDropped_30 : decode cX2_setDropped 30 = .ok (.iload_n 2, 1) := by decide +kernel
theorem dX2_setDropped_31 : decode cX2_setDropped 31 = .ok (.ifCond .eq 7, 3) := by decide +kernel
theorem dX2_setDropped_34 : decode cX2_setDropped 34 = .ok (.iconst (-1), 1) := by decide +kernel
theorem dX2_setDropped_35 : decode cX2_setDropped 35 = .ok (.goto 4, 3) := by decide +kernel
theorem dX2_setDropped_38 : decode cX2_setDropped 38 = .ok (.iconst 1, 1) := by decide +kernel
theorem dX2_setDropped_39 : decode cX2_setDropped 39 = .ok (.iadd, 1) := by decide +kernel
theorem dX2_setDropped_40 : decode cX2_setDropped 40 = .ok (.putfield 35, 3) := by decide +kernel
theorem dX2_setDropped_43 : decode cX2_setDropped 43 = .ok (.return_, 1) := by decide +kernel
theorem dX2_isDropped_0 : decode cX2_isDropped 0 = .ok (.aload_n 0, 1) := by decide +kernel
theorem dX2_isDropped_1 : decode cX2_isDropped 1 = .ok (.iload_n 1, 1) := by decide +kernel
theorem dX2_isDropped_2 : decode cX2_isDropped 2 = .ok (.invokevirtual 38, 3) := by decide +kernel
theorem dX2_isDropped_5 : decode cX2_isDropped 5 = .ok (.ifCond .eq 16, 3) := by decide +kernel
theorem dX2_isDropped_8 : decode cX2_isDropped 8 = .ok (.aload_n 0, 1) := by decide +kernel
theorem dX2_isDropped_9 : decode cX2_isDropped 9 = .ok (.getfield 27, 3) := by decide +kernel
theorem dX2_isDropped_12 : decode cX2_isDropped 12 = .ok (.iload_n 1, 1) := by decide +kernel
theorem dX2_isDropped_13 : decode cX2_isDropped 13 = .ok (.baload, 1) := by decide +kernel
theorem dX2_isDropped_14 : decode cX2_isDropped 14 = .ok (.ifCond .eq 7, 3) := by decide +kernel
theorem dX2_isDropped_17 : decode cX2_isDropped 17 = .ok (.iconst 1, 1) := by decide +kernel
theorem dX2_isDropped_18 : decode cX2_isDropped 18 = .ok (.goto 4, 3) := by decide +kernel
theorem dX2_isDropped_21 : decode cX2_isDropped 21 = .ok (.iconst 0, 1) := by decide +kernel
theorem dX2_isDropped_22 : decode cX2_isDropped 22 = .ok (.ireturn, 1) := by decide +kernel
theorem dX2_holdsIn_0 : decode cX2_holdsIn 0 = .ok (.aload_n 0, 1) := by decide +kernel
theorem dX2_holdsIn_1 : decode cX2_holdsIn 1 = .ok (.iload_n 1, 1) := by decide +kernel
theorem dX2_holdsIn_2 : decode cX2_holdsIn 2 = .ok (.invokevirtual 38, 3) := by decide +kernel
theorem dX2_holdsIn_5 : decode cX2_holdsIn 5 = .ok (.ifCond .eq 36, 3) := by decide +kernel
theorem dX2_holdsIn_8 : decode cX2_holdsIn 8 = .ok (.aload_n 0, 1) := by decide +kernel
theorem dX2_holdsIn_9 : decode cX2_holdsIn 9 = .ok (.getfield 27, 3) := by decide +kernel
theorem dX2_holdsIn_12 : decode cX2_holdsIn 12 = .ok (.iload_n 1, 1) := by decide +kernel
theorem dX2_holdsIn_13 : decode cX2_holdsIn 13 = .ok (.baload, 1) := by decide +kernel
theorem dX2_holdsIn_14 : decode cX2_holdsIn 14 = .ok (.ifCond .ne 27, 3) := by decide +kernel
theorem dX2_holdsIn_17 : decode cX2_holdsIn 17 = .ok (.aload_n 0, 1) := by decide +kernel
theorem dX2_holdsIn_18 : decode cX2_holdsIn 18 = .ok (.getfield 21, 3) := by decide +kernel
theorem dX2_holdsIn_21 : decode cX2_holdsIn 21 = .ok (.iload_n 1, 1) := by decide +kernel
theorem dX2_holdsIn_22 : decode cX2_holdsIn 22 = .ok (.iaload, 1) := by decide +kernel
theorem dX2_holdsIn_23 : decode cX2_holdsIn 23 = .ok (.iload_n 2, 1) := by decide +kernel
theorem dX2_holdsIn_24 : decode cX2_holdsIn 24 = .ok (.if_icmp .gt 17, 3) := by decide +kernel
theorem dX2_holdsIn_27 : decode cX2_holdsIn 27 = .ok (.iload_n 2, 1) := by decide +kernel
theorem dX2_holdsIn_28 : decode cX2_holdsIn 28 = .ok (.aload_n 0, 1) := by decide +kernel
theorem dX2_holdsIn_29 : decode cX2_holdsIn 29 = .ok (.getfield 24, 3) := by decide +kernel
theorem dX2_holdsIn_32 : decode cX2_holdsIn 32 = .ok (.iload_n 1, 1) := by decide +kernel
theorem dX2_holdsIn_33 : decode cX2_holdsIn 33 = .ok (.iaload, 1) := by decide +kernel
theorem dX2_holdsIn_34 : decode cX2_holdsIn 34 = .ok (.if_icmp .gt 7, 3) := by decide +kernel
theorem dX2_holdsIn_37 : decode cX2_holdsIn 37 = .ok (.iconst 1, 1) := by decide +kernel
theorem dX2_holdsIn_38 : decode cX2_holdsIn 38 = .ok (.goto 4, 3) := by decide +kernel
theorem dX2_holdsIn_41 : decode cX2_holdsIn 41 = .ok (.iconst 0, 1) := by decide +kernel
theorem dX2_holdsIn_42 : decode cX2_holdsIn 42 = .ok (.ireturn, 1) := by decide +kernel
theorem dX2_relationOf_0 : decode cX2_relationOf 0 = .ok (.aload_n 0, 1) := by decide +kernel
theorem dX2_relationOf_1 : decode cX2_relationOf 1 = .ok (.iload_n 1, 1) := by decide +kernel
theorem dX2_relationOf_2 : decode cX2_relationOf 2 = .ok (.invokevirtual 38, 3) := by decide +kernel
theorem dX2_relationOf_5 : decode cX2_relationOf 5 = .ok (.ifCond .eq 12, 3) := by decide +kernel
theorem dX2_relationOf_8 : decode cX2_relationOf 8 = .ok (.aload_n 0, 1) := by decide +kernel
theorem dX2_relationOf_9 : decode cX2_relationOf 9 = .ok (.getfield 9, 3) := by decide +kernel
theorem dX2_relationOf_12 : decode cX2_relationOf 12 = .ok (.iload_n 1, 1) := by decide +kernel
theorem dX2_relationOf_13 : decode cX2_relationOf 13 = .ok (.iaload, 1) := by decide +kernel
theorem dX2_relationOf_14 : decode cX2_relationOf 14 = .ok (.goto 4, 3) := by decide +kernel
theorem dX2_relationOf_17 : decode cX2_relationOf 17 = .ok (.iconst (-1), 1) := by decide +kernel
theorem dX2_relationOf_18 : decode cX2_relationOf 18 = .ok (.ireturn, 1) := by decide +kernel
theorem dX2_codeOf_0 : decode cX2_codeOf 0 = .ok (.aload_n 0, 1) := by decide +kernel
theorem dX2_codeOf_1 : decode cX2_codeOf 1 = .ok (.iload_n 1, 1) := by decide +kernel
theorem dX2_codeOf_2 : decode cX2_codeOf 2 = .ok (.invokevirtual 38, 3) := by decide +kernel
theorem dX2_codeOf_5 : decode cX2_codeOf 5 = .ok (.ifCond .eq 12, 3) := by decide +kernel
theorem dX2_codeOf_8 : decode cX2_codeOf 8 = .ok (.aload_n 0, 1) := by decide +kernel
theorem dX2_codeOf_9 : decode cX2_codeOf 9 = .ok (.getfield 15, 3) := by decide +kernel
theorem dX2_codeOf_12 : decode cX2_codeOf 12 = .ok (.iload_n 1, 1) := by decide +kernel
theorem dX2_codeOf_13 : decode cX2_codeOf 13 = .ok (.iaload, 1) := by decide +kernel
theorem dX2_codeOf_14 : decode cX2_codeOf 14 = .ok (.goto 4, 3) := by decide +kernel
theorem dX2_codeOf_17 : decode cX2_codeOf 17 = .ok (.iconst 0, 1) := by decide +kernel
theorem dX2_codeOf_18 : decode cX2_codeOf 18 = .ok (.ireturn, 1) := by decide +kernel
theorem dX2_costOf_0 : decode cX2_costOf 0 = .ok (.aload_n 0, 1) := by decide +kernel
theorem dX2_costOf_1 : decode cX2_costOf 1 = .ok (.iload_n 1, 1) := by decide +kernel
theorem dX2_costOf_2 : decode cX2_costOf 2 = .ok (.invokevirtual 38, 3) := by decide +kernel
theorem dX2_costOf_5 : decode cX2_costOf 5 = .ok (.ifCond .eq 12, 3) := by decide +kernel
theorem dX2_costOf_8 : decode cX2_costOf 8 = .ok (.aload_n 0, 1) := by decide +kernel
theorem dX2_costOf_9 : decode cX2_costOf 9 = .ok (.getfield 18, 3) := by decide +kernel
theorem dX2_costOf_12 : decode cX2_costOf 12 = .ok (.iload_n 1, 1) := by decide +kernel
theorem dX2_costOf_13 : decode cX2_costOf 13 = .ok (.iaload, 1) := by decide +kernel
theorem dX2_costOf_14 : decode cX2_costOf 14 = .ok (.goto 5, 3) := by decide +kernel
theorem dX2_costOf_17 : decode cX2_costOf 17 = .ok (.ldc 42, 2) := by decide +kernel
theorem dX2_costOf_19 : decode cX2_costOf 19 = .ok (.ireturn, 1) := by decide +kernel
theorem dX2_fromOf_0 : decode cX2_fromOf 0 = .ok (.aload_n 0, 1) := by decide +kernel
theorem dX2_fromOf_1 : decode cX2_fromOf 1 = .ok (.iload_n 1, 1) := by decide +kernel
theorem dX2_fromOf_2 : decode cX2_fromOf 2 = .ok (.invokevirtual 38, 3) := by decide +kernel
theorem dX2_fromOf_5 : decode cX2_fromOf 5 = .ok (.ifCond .eq 12, 3) := by decide +kernel
theorem dX2_fromOf_8 : decode cX2_fromOf 8 = .ok (.aload_n 0, 1) := by decide +kernel
theorem dX2_fromOf_9 : decode cX2_fromOf 9 = .ok (.getfield 21, 3) := by decide +kernel
theorem dX2_fromOf_12 : decode cX2_fromOf 12 = .ok (.iload_n 1, 1) := by decide +kernel
theorem dX2_fromOf_13 : decode cX2_fromOf 13 = .ok (.iaload, 1) := by decide +kernel
theorem dX2_fromOf_14 : decode cX2_fromOf 14 = .ok (.goto 4, 3) := by decide +kernel
theorem dX2_fromOf_17 : decode cX2_fromOf 17 = .ok (.iconst 0, 1) := by decide +kernel
theorem dX2_fromOf_18 : decode cX2_fromOf 18 = .ok (.ireturn, 1) := by decide +kernel
theorem dX2_toOf_0 : decode cX2_toOf 0 = .ok (.aload_n 0, 1) := by decide +kernel
theorem dX2_toOf_1 : decode cX2_toOf 1 = .ok (.iload_n 1, 1) := by decide +kernel
theorem dX2_toOf_2 : decode cX2_toOf 2 = .ok (.invokevirtual 38, 3) := by decide +kernel
theorem dX2_toOf_5 : decode cX2_toOf 5 = .ok (.ifCond .eq 12, 3) := by decide +kernel
theorem dX2_toOf_8 : decode cX2_toOf 8 = .ok (.aload_n 0, 1) := by decide +kernel
theorem dX2_toOf_9 : decode cX2_toOf 9 = .ok (.getfield 24, 3) := by decide +kernel
theorem dX2_toOf_12 : decode cX2_toOf 12 = .ok (.iload_n 1, 1) := by decide +kernel
theorem dX2_toOf_13 : decode cX2_toOf 13 = .ok (.iaload, 1) := by decide +kernel
theorem dX2_toOf_14 : decode cX2_toOf 14 = .ok (.goto 4, 3) := by decide +kernel
theorem dX2_toOf_17 : decode cX2_toOf 17 = .ok (.iconst (-1), 1) := by decide +kernel
theorem dX2_toOf_18 : decode cX2_toOf 18 = .ok (.ireturn, 1) := by decide +kernel
theorem dX3_init_0 : decode cX3_init 0 = .ok (.aload_n 0, 1) := by decide +kernel
theorem dX3_init_1 : decode cX3_init 1 = .ok (.invokespecial 3, 3) := by decide +kernel
theorem dX3_init_4 : decode cX3_init 4 = .ok (.aload_n 0, 1) := by decide +kernel
theorem dX3_init_5 : decode cX3_init 5 = .ok (.sipush 400, 3) := by decide +kernel
theorem dX3_init_8 : decode cX3_init 8 = .ok (.newarray .int, 2) := by decide +kernel
theorem dX3_init_10 : decode cX3_init 10 = .ok (.putfield 9, 3) := by decide +kernel
theorem dX3_init_13 : decode cX3_init 13 = .ok (.aload_n 0, 1) := by decide +kernel
theorem dX3_init_14 : decode cX3_init 14 = .ok (.sipush 1024, 3) := by decide +kernel
theorem dX3_init_17 : decode cX3_init 17 = .ok (.newarray .int, 2) := by decide +kernel
theorem dX3_init_19 : decode cX3_init 19 = .ok (.putfield 15, 3) := by decide +kernel
theorem dX3_init_22 : decode cX3_init 22 = .ok (.return_, 1) := by decide +kernel
theorem dX3_empty_0 : decode cX3_empty 0 = .ok (.aload_n 0, 1) := by decide +kernel
theorem dX3_empty_1 : decode cX3_empty 1 = .ok (.iconst 0, 1) := by decide +kernel
theorem dX3_empty_2 : decode cX3_empty 2 = .ok (.putfield 18, 3) := by decide +kernel
theorem dX3_empty_5 : decode cX3_empty 5 = .ok (.iconst 0, 1) := by decide +kernel
theorem dX3_empty_6 : decode cX3_empty 6 = .ok (.istore_n 1, 1) := by decide +kernel
theorem dX3_empty_7 : decode cX3_empty 7 = .ok (.iload_n 1, 1) := by decide +kernel
theorem dX3_empty_8 : decode cX3_empty 8 = .ok (.aload_n 0, 1) := by decide +kernel
theorem dX3_empty_9 : decode cX3_empty 9 = .ok (.getfield 15, 3) := by decide +kernel
theorem dX3_empty_12 : decode cX3_empty 12 = .ok (.arraylength, 1) := by decide +kernel
theorem dX3_empty_13 : decode cX3_empty 13 = .ok (.if_icmp .ge 16, 3) := by decide +kernel
theorem dX3_empty_16 : decode cX3_empty 16 = .ok (.aload_n 0, 1) := by decide +kernel
theorem dX3_empty_17 : decode cX3_empty 17 = .ok (.getfield 15, 3) := by decide +kernel
theorem dX3_empty_20 : decode cX3_empty 20 = .ok (.iload_n 1, 1) := by decide +kernel
theorem dX3_empty_21 : decode cX3_empty 21 = .ok (.iconst 0, 1) := by decide +kernel
theorem dX3_empty_22 : decode cX3_empty 22 = .ok (.iastore, 1) := by decide +kernel
theorem dX3_empty_23 : decode cX3_empty 23 = .ok (.iinc 1 1, 3) := by decide +kernel
theorem dX3_empty_26 : decode cX3_empty 26 = .ok (.goto (-19), 3) := by decide +kernel
theorem dX3_empty_29 : decode cX3_empty 29 = .ok (.return_, 1) := by decide +kernel
theorem dX3_goalAt_0 : decode cX3_goalAt 0 = .ok (.iload_n 1, 1) := by decide +kernel
theorem dX3_goalAt_1 : decode cX3_goalAt 1 = .ok (.ifCond .lt 21, 3) := by decide +kernel
theorem dX3_goalAt_4 : decode cX3_goalAt 4 = .ok (.iload_n 1, 1) := by decide +kernel
theorem dX3_goalAt_5 : decode cX3_goalAt 5 = .ok (.aload_n 0, 1) := by decide +kernel
theorem dX3_goalAt_6 : decode cX3_goalAt 6 = .ok (.getfield 9, 3) := by decide +kernel
theorem dX3_goalAt_9 : decode cX3_goalAt 9 = .ok (.arraylength, 1) := by decide +kernel
theorem dX3_goalAt_10 : decode cX3_goalAt 10 = .ok (.if_icmp .ge 12, 3) := by decide +kernel
theorem dX3_goalAt_13 : decode cX3_goalAt 13 = .ok (.aload_n 0, 1) := by decide +kernel
theorem dX3_goalAt_14 : decode cX3_goalAt 14 = .ok (.getfield 9, 3) := by decide +kernel
theorem dX3_goalAt_17 : decode cX3_goalAt 17 = .ok (.iload_n 1, 1) := by decide +kernel
theorem dX3_goalAt_18 : decode cX3_goalAt 18 = .ok (.iaload, 1) := by decide +kernel
theorem dX3_goalAt_19 : decode cX3_goalAt 19 = .ok (.goto 4, 3) := by decide +kernel
theorem dX3_goalAt_22 : decode cX3_goalAt 22 = .ok (.iconst 0, 1) := by decide +kernel
theorem dX3_goalAt_23 : decode cX3_goalAt 23 = .ok (.ireturn, 1) := by decide +kernel
theorem dX3_ask_0 : decode cX3_ask 0 = .ok (.iload_n 1, 1) := by decide +kernel
theorem dX3_ask_1 : decode cX3_ask 1 = .ok (.ldc 22, 2) := by decide +kernel
theorem dX3_ask_3 : decode cX3_ask 3 = .ok (.imul, 1) := by decide +kernel
theorem dX3_ask_4 : decode cX3_ask 4 = .ok (.bipush 22, 2) := by decide +kernel
theorem dX3_ask_6 : decode cX3_ask 6 = .ok (.iushr, 1) := by decide +kernel
theorem dX3_ask_7 : decode cX3_ask 7 = .ok (.istore_n 2, 1) := by decide +kernel
theorem dX3_ask_8 : decode cX3_ask 8 = .ok (.iconst 0, 1) := by decide +kernel
theorem dX3_ask_9 : decode cX3_ask 9 = .ok (.istore_n 3, 1) := by decide +kernel
theorem dX3_ask_10 : decode cX3_ask 10 = .ok (.iload_n 3, 1) := by decide +kernel
theorem dX3_ask_11 : decode cX3_ask 11 = .ok (.aload_n 0, 1) := by decide +kernel
theorem dX3_ask_12 : decode cX3_ask 12 = .ok (.getfield 15, 3) := by decide +kernel
theorem dX3_ask_15 : decode cX3_ask 15 = .ok (.arraylength, 1) := by decide +kernel
theorem dX3_ask_16 : decode cX3_ask 16 = .ok (.if_icmp .ge 124, 3) := by decide +kernel
theorem dX3_ask_19 : decode cX3_ask 19 = .ok (.aload_n 0, 1) := by decide +kernel
theorem dX3_ask_20 : decode cX3_ask 20 = .ok (.getfield 18, 3) := by decide +kernel
theorem dX3_ask_23 : decode cX3_ask 23 = .ok (.aload_n 0, 1) := by decide +kernel
theorem dX3_ask_24 : decode cX3_ask 24 = .ok (.getfield 9, 3) := by decide +kernel
theorem dX3_ask_27 : decode cX3_ask 27 = .ok (.arraylength, 1) := by decide +kernel
theorem dX3_ask_28 : decode cX3_ask 28 = .ok (.if_icmp .ge 112, 3) := by decide +kernel
theorem dX3_ask_31 : decode cX3_ask 31 = .ok (.iload_n 2, 1) := by decide +kernel
theorem dX3_ask_32 : decode cX3_ask 32 = .ok (.iload_n 3, 1) := by decide +kernel
theorem dX3_ask_33 : decode cX3_ask 33 = .ok (.iadd, 1) := by decide +kernel
theorem dX3_ask_34 : decode cX3_ask 34 = .ok (.aload_n 0, 1) := by decide +kernel
theorem dX3_ask_35 : decode cX3_ask 35 = .ok (.getfield 15, 3) := by decide +kernel
theorem dX3_ask_38 : decode cX3_ask 38 = .ok (.arraylength, 1) := by decide +kernel
theorem dX3_ask_39 : decode cX3_ask 39 = .ok (.iconst 1, 1) := by decide +kernel
theorem dX3_ask_40 : decode cX3_ask 40 = .ok (.isub, 1) := by decide +kernel
theorem dX3_ask_41 : decode cX3_ask 41 = .ok (.iand, 1) := by decide +kernel
theorem dX3_ask_42 : decode cX3_ask 42 = .ok (.istore 4, 2) := by decide +kernel
theorem dX3_ask_44 : decode cX3_ask 44 = .ok (.iload 4, 2) := by decide +kernel
theorem dX3_ask_46 : decode cX3_ask 46 = .ok (.ifCond .lt 55, 3) := by decide +kernel
theorem dX3_ask_49 : decode cX3_ask 49 = .ok (.iload 4, 2) := by decide +kernel
theorem dX3_ask_51 : decode cX3_ask 51 = .ok (.aload_n 0, 1) := by decide +kernel
theorem dX3_ask_52 : decode cX3_ask 52 = .ok (.getfield 15, 3) := by decide +kernel
theorem dX3_ask_55 : decode cX3_ask 55 = .ok (.arraylength, 1) := by decide +kernel
theorem dX3_ask_56 : decode cX3_ask 56 = .ok (.if_icmp .ge 45, 3) := by decide +kernel
theorem dX3_ask_59 : decode cX3_ask 59 = .ok (.aload_n 0, 1) := by decide +kernel
theorem dX3_ask_60 : decode cX3_ask 60 = .ok (.getfield 15, 3) := by decide +kernel
theorem dX3_ask_63 : decode cX3_ask 63 = .ok (.iload 4, 2) := by decide +kernel
theorem dX3_ask_65 : decode cX3_ask 65 = .ok (.iaload, 1) := by decide +kernel
theorem dX3_ask_66 : decode cX3_ask 66 = .ok (.ifCond .ne 35, 3) := by decide +kernel
theorem dX3_ask_69 : decode cX3_ask 69 = .ok (.aload_n 0, 1) := by decide +kernel
theorem dX3_ask_70 : decode cX3_ask 70 = .ok (.getfield 9, 3) := by decide +kernel
theorem dX3_ask_73 : decode cX3_ask 73 = .ok (.aload_n 0, 1) := by decide +kernel
theorem dX3_ask_74 : decode cX3_ask 74 = .ok (.getfield 18, 3) := by decide +kernel
theorem dX3_ask_77 : decode cX3_ask 77 = .ok (.iload_n 1, 1) := by decide +kernel
theorem dX3_ask_78 : decode cX3_ask 78 = .ok (.iastore, 1) := by decide +kernel
theorem dX3_ask_79 : decode cX3_ask 79 = .ok (.aload_n 0, 1) := by decide +kernel
theorem dX3_ask_80 : decode cX3_ask 80 = .ok (.dup, 1) := by decide +kernel
theorem dX3_ask_81 : decode cX3_ask 81 = .ok (.getfield 18, 3) := by decide +kernel
theorem dX3_ask_84 : decode cX3_ask 84 = .ok (.iconst 1, 1) := by decide +kernel
theorem dX3_ask_85 : decode cX3_ask 85 = .ok (.iadd, 1) := by decide +kernel
theorem dX3_ask_86 : decode cX3_ask 86 = .ok (.putfield 18, 3) := by decide +kernel
theorem dX3_ask_89 : decode cX3_ask 89 = .ok (.aload_n 0, 1) := by decide +kernel
theorem dX3_ask_90 : decode cX3_ask 90 = .ok (.getfield 15, 3) := by decide +kernel
theorem dX3_ask_93 : decode cX3_ask 93 = .ok (.iload 4, 2) := by decide +kernel
theorem dX3_ask_95 : decode cX3_ask 95 = .ok (.aload_n 0, 1) := by decide +kernel
theorem dX3_ask_96 : decode cX3_ask 96 = .ok (.getfield 18, 3) := by decide +kernel
theorem dX3_ask_99 : decode cX3_ask 99 = .ok (.iastore, 1) := by decide +kernel
theorem dX3_ask_100 : decode cX3_ask 100 = .ok (.return_, 1) := by decide +kernel
theorem dX3_ask_101 : decode cX3_ask 101 = .ok (.iload 4, 2) := by decide +kernel
theorem dX3_ask_103 : decode cX3_ask 103 = .ok (.ifCond .lt 31, 3) := by decide +kernel
theorem dX3_ask_106 : decode cX3_ask 106 = .ok (.iload 4, 2) := by decide +kernel
theorem dX3_ask_108 : decode cX3_ask 108 = .ok (.aload_n 0, 1) := by decide +kernel
theorem dX3_ask_109 : decode cX3_ask 109 = .ok (.getfield 15, 3) := by decide +kernel
theorem dX3_ask_112 : decode cX3_ask 112 = .ok (.arraylength, 1) := by decide +kernel
theorem dX3_ask_113 : decode cX3_ask 113 = .ok (.if_icmp .ge 21, 3) := by decide +kernel
theorem dX3_ask_116 : decode cX3_ask 116 = .ok (.aload_n 0, 1) := by decide +kernel
theorem dX3_ask_117 : decode cX3_ask 117 = .ok (.aload_n 0, 1) := by decide +kernel
theorem dX3_ask_118 : decode cX3_ask 118 = .ok (.getfield 15, 3) := by decide +kernel
theorem dX3_ask_121 : decode cX3_ask 121 = .ok (.iload 4, 2) := by decide +kernel
theorem dX3_ask_123 : decode cX3_ask 123 = .ok (.iaload, 1) := by decide +kernel
theorem dX3_ask_124 : decode cX3_ask 124 = .ok (.iconst 1, 1) := by decide +kernel
theorem dX3_ask_125 : decode cX3_ask 125 = .ok (.isub, 1) := by decide +kernel
theorem dX3_ask_126 : decode cX3_ask 126 = .ok (.invokevirtual 23, 3) := by decide +kernel
theorem dX3_ask_129 : decode cX3_ask 129 = .ok (.iload_n 1, 1) := by decide +kernel
theorem dX3_ask_130 : decode cX3_ask 130 = .ok (.if_icmp .ne 4, 3) := by decide +kernel
theorem dX3_ask_133 : decode cX3_ask 133 = .ok (.return_, 1) := by decide +kernel
theorem dX3_ask_134 : decode cX3_ask 134 = .ok (.iinc 3 1, 3) := by decide +kernel
theorem dX3_ask_137 : decode cX3_ask 137 = .ok (.goto (-127), 3) := by decide +kernel
theorem dX3_ask_140 : decode cX3_ask 140 = .ok (.return_, 1) := by decide +kernel
theorem dX4_init_0 : decode cX4_init 0 = .ok (.aload_n 0, 1) := by decide +kernel
theorem dX4_init_1 : decode cX4_init 1 = .ok (.invokespecial 3, 3) := by decide +kernel
theorem dX4_init_4 : decode cX4_init 4 = .ok (.aload_n 0, 1) := by decide +kernel
theorem dX4_init_5 : decode cX4_init 5 = .ok (.aload_n 1, 1) := by decide +kernel
theorem dX4_init_6 : decode cX4_init 6 = .ok (.putfield 9, 3) := by decide +kernel
theorem dX4_init_9 : decode cX4_init 9 = .ok (.aload_n 0, 1) := by decide +kernel
theorem dX4_init_10 : decode cX4_init 10 = .ok (.aload_n 2, 1) := by decide +kernel
theorem dX4_init_11 : decode cX4_init 11 = .ok (.putfield 15, 3) := by decide +kernel
theorem dX4_init_14 : decode cX4_init 14 = .ok (.aload_n 0, 1) := by decide +kernel
theorem dX4_init_15 : decode cX4_init 15 = .ok (.aload_n 3, 1) := by decide +kernel
theorem dX4_init_16 : decode cX4_init 16 = .ok (.putfield 19, 3) := by decide +kernel
theorem dX4_init_19 : decode cX4_init 19 = .ok (.return_, 1) := by decide +kernel
theorem dX4_build_0 : decode cX4_build 0 = .ok (.aload_n 1, 1) := by decide +kernel
theorem dX4_build_1 : decode cX4_build 1 = .ok (.invokevirtual 23, 3) := by decide +kernel
theorem dX4_build_4 : decode cX4_build 4 = .ok (.iconst 0, 1) := by decide +kernel
theorem dX4_build_5 : decode cX4_build 5 = .ok (.istore 5, 2) := by decide +kernel
theorem dX4_build_7 : decode cX4_build 7 = .ok (.iconst 0, 1) := by decide +kernel
theorem dX4_build_8 : decode cX4_build 8 = .ok (.istore 6, 2) := by decide +kernel
theorem dX4_build_10 : decode cX4_build 10 = .ok (.iload 6, 2) := by decide +kernel
theorem dX4_build_12 : decode cX4_build 12 = .ok (.aload_n 0, 1) := by decide +kernel
theorem dX4_build_13 : decode cX4_build 13 = .ok (.getfield 15, 3) := by decide +kernel
theorem dX4_build_16 : decode cX4_build 16 = .ok (.getfield 28, 3) := by decide +kernel
theorem dX4_build_19 : decode cX4_build 19 = .ok (.if_icmp .gt 85, 3) := by decide +kernel
theorem dX4_build_22 : decode cX4_build 22 = .ok (.iload 6, 2) := by decide +kernel
theorem dX4_build_24 : decode cX4_build 24 = .ok (.bipush 10, 2) := by decide +kernel
theorem dX4_build_26 : decode cX4_build 26 = .ok (.if_icmp .ge 78, 3) := by decide +kernel
theorem dX4_build_29 : decode cX4_build 29 = .ok (.aload_n 0, 1) := by decide +kernel
theorem dX4_build_30 : decode cX4_build 30 = .ok (.aload_n 1, 1) := by decide +kernel
theorem dX4_build_31 : decode cX4_build 31 = .ok (.iload 6, 2) := by decide +kernel
theorem dX4_build_33 : decode cX4_build 33 = .ok (.iload_n 2, 1) := by decide +kernel
theorem dX4_build_34 : decode cX4_build 34 = .ok (.iload_n 3, 1) := by decide +kernel
theorem dX4_build_35 : decode cX4_build 35 = .ok (.invokevirtual 34, 3) := by decide +kernel
theorem dX4_build_38 : decode cX4_build 38 = .ok (.iinc 5 1, 3) := by decide +kernel
theorem dX4_build_41 : decode cX4_build 41 = .ok (.aload_n 0, 1) := by decide +kernel
theorem dX4_build_42 : decode cX4_build 42 = .ok (.aload_n 1, 1) := by decide +kernel
theorem dX4_build_43 : decode cX4_build 43 = .ok (.iload 6, 2) := by decide +kernel
theorem dX4_build_45 : decode cX4_build 45 = .ok (.iload 5, 2) := by decide +kernel
theorem dX4_build_47 : decode cX4_build 47 = .ok (.iconst 1, 1) := by decide +kernel
theorem dX4_build_48 : decode cX4_build 48 = .ok (.invokevirtual 38, 3) := by decide +kernel
theorem dX4_build_51 : decode cX4_build 51 = .ok (.istore 7, 2) := by decide +kernel
theorem dX4_build_53 : decode cX4_build 53 = .ok (.iconst 0, 1) := by decide +kernel
theorem dX4_build_54 : decode cX4_build 54 = .ok (.istore 8, 2) := by decide +kernel
theorem dX4_build_56 : decode cX4_build 56 = .ok (.iload 8, 2) := by decide +kernel
theorem dX4_build_58 : decode cX4_build 58 = .ok (.sipush 10000, 3) := by decide +kernel
theorem dX4_build_61 : decode cX4_build 61 = .ok (.if_icmp .ge 37, 3) := by decide +kernel
theorem dX4_build_64 : decode cX4_build 64 = .ok (.iload 7, 2) := by decide +kernel
theorem dX4_build_66 : decode cX4_build 66 = .ok (.ifCond .eq 32, 3) := by decide +kernel
theorem dX4_build_69 : decode cX4_build 69 = .ok (.aload_n 1, 1) := by decide +kernel
theorem dX4_build_70 : decode cX4_build 70 = .ok (.getfield 42, 3) := by decide +kernel
theorem dX4_build_73 : decode cX4_build 73 = .ok (.ifCond .ne 25, 3) := by decide +kernel
theorem dX4_build_76 : decode cX4_build 76 = .ok (.iinc 5 1, 3) := by decide +kernel
theorem dX4_build_79 : decode cX4_build 79 = .ok (.aload_n 0, 1) := by decide +kernel
theorem dX4_build_80 : decode cX4_build 80 = .ok (.aload_n 1, 1) := by decide +kernel
theorem dX4_build_81 : decode cX4_build 81 = .ok (.iload 6, 2) := by decide +kernel
theorem dX4_build_83 : decode cX4_build 83 = .ok (.iload 5, 2) := by decide +kernel
theorem dX4_build_85 : decode cX4_build 85 = .ok (.iload 4, 2) := by decide +kernel
theorem dX4_build_87 : decode cX4_build 87 = .ok (.invokevirtual 38, 3) := by decide +kernel
theorem dX4_build_90 : decode cX4_build 90 = .ok (.istore 7, 2) := by decide +kernel
theorem dX4_build_92 : decode cX4_build 92 = .ok (.iinc 8 1, 3) := by decide +kernel
theorem dX4_build_95 : decode cX4_build 95 = .ok (.goto (-39), 3) := by decide +kernel
theorem dX4_build_98 : decode cX4_build 98 = .ok (.iinc 6 1, 3) := by decide +kernel
theorem dX4_build_101 : decode cX4_build 101 = .ok (.goto (-91), 3) := by decide +kernel
theorem dX4_build_104 : decode cX4_build 104 = .ok (.return_, 1) := by decide +kernel
theorem dX4_load_0 : decode cX4_load 0 = .ok (.iconst 0, 1) := by decide +kernel
theorem dX4_load_1 : decode cX4_load 1 = .ok (.istore 5, 2) := by decide +kernel
theorem dX4_load_3 : decode cX4_load 3 = .ok (.iload 5, 2) := by decide +kernel
theorem dX4_load_5 : decode cX4_load 5 = .ok (.aload_n 0, 1) := by decide +kernel
theorem dX4_load_6 : decode cX4_load 6 = .ok (.getfield 9, 3) := by decide +kernel
theorem dX4_load_9 : decode cX4_load 9 = .ok (.getfield 46, 3) := by decide +kernel
theorem dX4_load_12 : decode cX4_load 12 = .ok (.if_icmp .ge 73, 3) := by decide +kernel
theorem dX4_load_15 : decode cX4_load 15 = .ok (.aload_n 0, 1) := by decide +kernel
theorem dX4_load_16 : decode cX4_load 16 = .ok (.getfield 9, 3) := by decide +kernel
theorem dX4_load_19 : decode cX4_load 19 = .ok (.iload 5, 2) := by decide +kernel
theorem dX4_load_21 : decode cX4_load 21 = .ok (.invokevirtual 51, 3) := by decide +kernel
theorem dX4_load_24 : decode cX4_load 24 = .ok (.istore 6, 2) := by decide +kernel
theorem dX4_load_26 : decode cX4_load 26 = .ok (.aload_n 0, 1) := by decide +kernel
theorem dX4_load_27 : decode cX4_load 27 = .ok (.getfield 9, 3) := by decide +kernel
theorem dX4_load_30 : decode cX4_load 30 = .ok (.iload 5, 2) := by decide +kernel
theorem dX4_load_32 : decode cX4_load 32 = .ok (.iload_n 3, 1) := by decide +kernel
theorem dX4_load_33 : decode cX4_load 33 = .ok (.invokevirtual 55, 3) := by decide +kernel
theorem dX4_load_36 : decode cX4_load 36 = .ok (.ifCond .eq 43, 3) := by decide +kernel
theorem dX4_load_39 : decode cX4_load 39 = .ok (.iload 4, 2) := by decide +kernel
theorem dX4_load_41 : decode cX4_load 41 = .ok (.iload 5, 2) := by decide +kernel
theorem dX4_load_43 : decode cX4_load 43 = .ok (.ishr, 1) := by decide +kernel
theorem dX4_load_44 : decode cX4_load 44 = .ok (.iconst 1, 1) := by decide +kernel
theorem dX4_load_45 : decode cX4_load 45 = .ok (.iand, 1) := by decide +kernel
theorem dX4_load_46 : decode cX4_load 46 = .ok (.ifCond .ne 33, 3) := by decide +kernel
theorem dX4_load_49 : decode cX4_load 49 = .ok (.aload_n 0, 1) := by decide +kernel
theorem dX4_load_50 : decode cX4_load 50 = .ok (.getfield 15, 3) := by decide +kernel
theorem dX4_load_53 : decode cX4_load 53 = .ok (.iload 6, 2) := by decide +kernel
theorem dX4_load_55 : decode cX4_load 55 = .ok (.invokevirtual 59, 3) := by decide +kernel
theorem dX4_load_58 : decode cX4_load 58 = .ok (.iload_n 2, 1) := by decide +kernel
theorem dX4_load_59 : decode cX4_load 59 = .ok (.if_icmp .ne 20, 3) := by decide +kernel
theorem dX4_load_62 : decode cX4_load 62 = .ok (.aload_n 1, 1) := by decide +kernel
theorem dX4_load_63 : decode cX4_load 63 = .ok (.iload 6, 2) := by decide +kernel
theorem dX4_load_65 : decode cX4_load 65 = .ok (.aload_n 0, 1) := by decide +kernel
theorem dX4_load_66 : decode cX4_load 66 = .ok (.getfield 9, 3) := by decide +kernel
theorem dX4_load_69 : decode cX4_load 69 = .ok (.iload 5, 2) := by decide +kernel
theorem dX4_load_71 : decode cX4_load 71 = .ok (.invokevirtual 62, 3) := by decide +kernel
theorem dX4_load_74 : decode cX4_load 74 = .ok (.iconst 0, 1) := by decide +kernel
theorem dX4_load_75 : decode cX4_load 75 = .ok (.invokevirtual 65, 3) := by decide +kernel
theorem dX4_load_78 : decode cX4_load 78 = .ok (.pop, 1) := by decide +kernel
theorem dX4_load_79 : decode cX4_load 79 = .ok (.iinc 5 1, 3) := by decide +kernel
theorem dX4_load_82 : decode cX4_load 82 = .ok (.goto (-79), 3) := by decide +kernel
theorem dX4_load_85 : decode cX4_load 85 = .ok (.return_, 1) := by decide +kernel
theorem dX4_sweep_0 : decode cX4_sweep 0 = .ok (.iconst 0, 1) := by decide +kernel
theorem dX4_sweep_1 : decode cX4_sweep 1 = .ok (.istore 5, 2) := by decide +kernel
theorem dX4_sweep_3 : decode cX4_sweep 3 = .ok (.iconst 0, 1) := by decide +kernel
theorem dX4_sweep_4 : decode cX4_sweep 4 = .ok (.istore 6, 2) := by decide +kernel
theorem dX4_sweep_6 : decode cX4_sweep 6 = .ok (.iload 6, 2) := by decide +kernel
theorem dX4_sweep_8 : decode cX4_sweep 8 = .ok (.aload_n 0, 1) := by decide +kernel
theorem dX4_sweep_9 : decode cX4_sweep 9 = .ok (.getfield 15, 3) := by decide +kernel
theorem dX4_sweep_12 : decode cX4_sweep 12 = .ok (.getfield 69, 3) := by decide +kernel
theorem dX4_sweep_15 : decode cX4_sweep 15 = .ok (.if_icmp .ge 214, 3) := by decide +kernel
theorem dX4_sweep_18 : decode cX4_sweep 18 = .ok (.aload_n 0, 1) := by decide +kernel
theorem dX4_sweep_19 : decode cX4_sweep 19 = .ok (.getfield 15, 3) := by decide +kernel
theorem dX4_sweep_22 : decode cX4_sweep 22 = .ok (.iload 6, 2) := by decide +kernel
theorem dX4_sweep_24 : decode cX4_sweep 24 = .ok (.invokevirtual 72, 3) := by decide +kernel
theorem dX4_sweep_27 : decode cX4_sweep 27 = .ok (.astore 7, 2) := by decide +kernel
theorem dX4_sweep_29 : decode cX4_sweep 29 = .ok (.aload 7, 2) := by decide +kernel
theorem dX4_sweep_31 : decode cX4_sweep 31 = .ok (.getfield 76, 3) := by decide +kernel
theorem dX4_sweep_34 : decode cX4_sweep 34 = .ok (.ifCond .ne 23, 3) := by decide +kernel
theorem dX4_sweep_37 : decode cX4_sweep 37 = .ok (.aload_n 0, 1) := by decide +kernel
theorem dX4_sweep_38 : decode cX4_sweep 38 = .ok (.getfield 15, 3) := by decide +kernel
theorem dX4_sweep_41 : decode cX4_sweep 41 = .ok (.aload 7, 2) := by decide +kernel
theorem dX4_sweep_43 : decode cX4_sweep 43 = .ok (.getfield 81, 3) := by decide +kernel
theorem dX4_sweep_46 : decode cX4_sweep 46 = .ok (.invokevirtual 59, 3) := by decide +kernel
theorem dX4_sweep_49 : decode cX4_sweep 49 = .ok (.iload_n 2, 1) := by decide +kernel
theorem dX4_sweep_50 : decode cX4_sweep 50 = .ok (.if_icmp .ne 7, 3) := by decide +kernel
theorem dX4_sweep_53 : decode cX4_sweep 53 = .ok (.iconst 1, 1) := by decide +kernel
theorem dX4_sweep_54 : decode cX4_sweep 54 = .ok (.goto 4, 3) := by decide +kernel
theorem dX4_sweep_57 : decode cX4_sweep 57 = .ok (.iconst 0, 1) := by decide +kernel
theorem dX4_sweep_58 : decode cX4_sweep 58 = .ok (.istore 8, 2) := by decide +kernel
theorem dX4_sweep_60 : decode cX4_sweep 60 = .ok (.iload 4, 2) := by decide +kernel
theorem dX4_sweep_62 : decode cX4_sweep 62 = .ok (.ifCond .eq 7, 3) := by decide +kernel
theorem dX4_sweep_65 : decode cX4_sweep 65 = .ok (.iconst 1, 1) := by decide +kernel
theorem dX4_sweep_66 : decode cX4_sweep 66 = .ok (.goto 8, 3) := by decide +kernel
theorem dX4_sweep_69 : decode cX4_sweep 69 = .ok (.aload 7, 2) := by decide +kernel
theorem dX4_sweep_71 : decode cX4_sweep 71 = .ok (.getfield 84, 3) := by decide +kernel
theorem dX4_sweep_74 : decode cX4_sweep 74 = .ok (.istore 9, 2) := by decide +kernel
theorem dX4_sweep_76 : decode cX4_sweep 76 = .ok (.iconst 0, 1) := by decide +kernel
theorem dX4_sweep_77 : decode cX4_sweep 77 = .ok (.istore 10, 2) := by decide +kernel
theorem dX4_sweep_79 : decode cX4_sweep 79 = .ok (.iload 10, 2) := by decide +kernel
theorem dX4_sweep_81 : decode cX4_sweep 81 = .ok (.iload 9, 2) := by decide +kernel
theorem dX4_sweep_83 : decode cX4_sweep 83 = .ok (.if_icmp .ge 140, 3) := by decide +kernel
theorem dX4_sweep_86 : decode cX4_sweep 86 = .ok (.iload 8, 2) := by decide +kernel
theorem dX4_sweep_88 : decode cX4_sweep 88 = .ok (.ifCond .eq 135, 3) := by decide +kernel
theorem dX4_sweep_91 : decode cX4_sweep 91 = .ok (.aload_n 1, 1) := by decide +kernel
theorem dX4_sweep_92 : decode cX4_sweep 92 = .ok (.getfield 42, 3) := by decide +kernel
theorem dX4_sweep_95 : decode cX4_sweep 95 = .ok (.ifCond .ne 128, 3) := by decide +kernel
theorem dX4_sweep_98 : decode cX4_sweep 98 = .ok (.iload 4, 2) := by decide +kernel
theorem dX4_sweep_100 : decode cX4_sweep 100 = .ok (.ifCond .ne 15, 3) := by decide +kernel
theorem dX4_sweep_103 : decode cX4_sweep 103 = .ok (.aload_n 0, 1) := by decide +kernel
theorem dX4_sweep_104 : decode cX4_sweep 104 = .ok (.aload 7, 2) := by decide +kernel
theorem dX4_sweep_106 : decode cX4_sweep 106 = .ok (.iload 10, 2) := by decide +kernel
theorem dX4_sweep_108 : decode cX4_sweep 108 = .ok (.iload_n 2, 1) := by decide +kernel
theorem dX4_sweep_109 : decode cX4_sweep 109 = .ok (.invokevirtual 85, 3) := by decide +kernel
theorem dX4_sweep_112 : decode cX4_sweep 112 = .ok (.ifCond .eq 105, 3) := by decide +kernel
theorem dX4_sweep_115 : decode cX4_sweep 115 = .ok (.aload_n 0, 1) := by decide +kernel
theorem dX4_sweep_116 : decode cX4_sweep 116 = .ok (.getfield 19, 3) := by decide +kernel
theorem dX4_sweep_119 : decode cX4_sweep 119 = .ok (.aload 7, 2) := by decide +kernel
theorem dX4_sweep_121 : decode cX4_sweep 121 = .ok (.aload_n 1, 1) := by decide +kernel
theorem dX4_sweep_122 : decode cX4_sweep 122 = .ok (.aload 7, 2) := by decide +kernel
theorem dX4_sweep_124 : decode cX4_sweep 124 = .ok (.getfield 84, 3) := by decide +kernel
theorem dX4_sweep_127 : decode cX4_sweep 127 = .ok (.invokevirtual 89, 3) := by decide +kernel
theorem dX4_sweep_130 : decode cX4_sweep 130 = .ok (.aload_n 0, 1) := by decide +kernel
theorem dX4_sweep_131 : decode cX4_sweep 131 = .ok (.getfield 19, 3) := by decide +kernel
theorem dX4_sweep_134 : decode cX4_sweep 134 = .ok (.iload 4, 2) := by decide +kernel
theorem dX4_sweep_136 : decode cX4_sweep 136 = .ok (.ifCond .eq 7, 3) := by decide +kernel
theorem dX4_sweep_139 : decode cX4_sweep 139 = .ok (.iconst (-1), 1) := by decide +kernel
theorem dX4_sweep_140 : decode cX4_sweep 140 = .ok (.goto 5, 3) := by decide +kernel
theorem dX4_sweep_143 : decode cX4_sweep 143 = .ok (.iload 10, 2) := by decide +kernel
theorem dX4_sweep_145 : decode cX4_sweep 145 = .ok (.iload_n 3, 1) := by decide +kernel
theorem dX4_sweep_146 : decode cX4_sweep 146 = .ok (.iconst 1, 1) := by decide +kernel
theorem dX4_sweep_147 : decode cX4_sweep 147 = .ok (.isub, 1) := by decide +kernel
theorem dX4_sweep_148 : decode cX4_sweep 148 = .ok (.invokevirtual 95, 3) := by decide +kernel
theorem dX4_sweep_151 : decode cX4_sweep 151 = .ok (.iconst 0, 1) := by decide +kernel
theorem dX4_sweep_152 : decode cX4_sweep 152 = .ok (.istore 11, 2) := by decide +kernel
theorem dX4_sweep_154 : decode cX4_sweep 154 = .ok (.iload 11, 2) := by decide +kernel
theorem dX4_sweep_156 : decode cX4_sweep 156 = .ok (.ldc 99, 2) := by decide +kernel
theorem dX4_sweep_158 : decode cX4_sweep 158 = .ok (.if_icmp .ge 59, 3) := by decide +kernel
theorem dX4_sweep_161 : decode cX4_sweep 161 = .ok (.aload_n 1, 1) := by decide +kernel
theorem dX4_sweep_162 : decode cX4_sweep 162 = .ok (.getfield 42, 3) := by decide +kernel
theorem dX4_sweep_165 : decode cX4_sweep 165 = .ok (.ifCond .ne 52, 3) := by decide +kernel
theorem dX4_sweep_168 : decode cX4_sweep 168 = .ok (.aload_n 0, 1) := by decide +kernel
theorem dX4_sweep_169 : decode cX4_sweep 169 = .ok (.getfield 19, 3) := by decide +kernel
theorem dX4_sweep_172 : decode cX4_sweep 172 = .ok (.invokevirtual 100, 3) := by decide +kernel
theorem dX4_sweep_175 : decode cX4_sweep 175 = .ok (.ifCond .eq 42, 3) := by decide +kernel
theorem dX4_sweep_178 : decode cX4_sweep 178 = .ok (.aload_n 1, 1) := by decide +kernel
theorem dX4_sweep_179 : decode cX4_sweep 179 = .ok (.aload 7, 2) := by decide +kernel
theorem dX4_sweep_181 : decode cX4_sweep 181 = .ok (.getfield 81, 3) := by decide +kernel
theorem dX4_sweep_184 : decode cX4_sweep 184 = .ok (.aload_n 0, 1) := by decide +kernel
theorem dX4_sweep_185 : decode cX4_sweep 185 = .ok (.getfield 19, 3) := by decide +kernel
theorem dX4_sweep_188 : decode cX4_sweep 188 = .ok (.iconst 5, 1) := by decide +kernel
theorem dX4_sweep_189 : decode cX4_sweep 189 = .ok (.invokevirtual 104, 3) := by decide +kernel
theorem dX4_sweep_192 : decode cX4_sweep 192 = .ok (.iload_n 3, 1) := by decide +kernel
theorem dX4_sweep_193 : decode cX4_sweep 193 = .ok (.invokevirtual 65, 3) := by decide +kernel
theorem dX4_sweep_196 : decode cX4_sweep 196 = .ok (.ifCond .ne 8, 3) := by decide +kernel
theorem dX4_sweep_199 : decode cX4_sweep 199 = .ok (.iload 5, 2) := by decide +kernel
theorem dX4_sweep_201 : decode cX4_sweep 201 = .ok (.ifCond .eq 7, 3) := by decide +kernel
theorem dX4_sweep_204 : decode cX4_sweep 204 = .ok (.iconst 1, 1) := by decide +kernel
theorem dX4_sweep_205 : decode cX4_sweep 205 = .ok (.goto 4, 3) := by decide +kernel
theorem dX4_sweep_208 : decode cX4_sweep 208 = .ok (.iconst 0, 1) := by decide +kernel
theorem dX4_sweep_209 : decode cX4_sweep 209 = .ok (.istore 5, 2) := by decide +kernel
theorem dX4_sweep_211 : decode cX4_sweep 211 = .ok (.iinc 11 1, 3) := by decide +kernel
theorem dX4_sweep_214 : decode cX4_sweep 214 = .ok (.goto (-60), 3) := by decide +kernel
theorem dX4_sweep_217 : decode cX4_sweep 217 = .ok (.iinc 10 1, 3) := by decide +kernel
theorem dX4_sweep_220 : decode cX4_sweep 220 = .ok (.goto (-141), 3) := by decide +kernel
theorem dX4_sweep_223 : decode cX4_sweep 223 = .ok (.iinc 6 1, 3) := by decide +kernel
theorem dX4_sweep_226 : decode cX4_sweep 226 = .ok (.goto (-220), 3) := by decide +kernel
theorem dX4_sweep_229 : decode cX4_sweep 229 = .ok (.iload 5, 2) := by decide +kernel
theorem dX4_sweep_231 : decode cX4_sweep 231 = .ok (.ireturn, 1) := by decide +kernel
theorem dX4_isLead_0 : decode cX4_isLead 0 = .ok (.aload_n 1, 1) := by decide +kernel
theorem dX4_isLead_1 : decode cX4_isLead 1 = .ok (.iload_n 2, 1) := by decide +kernel
theorem dX4_isLead_2 : decode cX4_isLead 2 = .ok (.invokevirtual 107, 3) := by decide +kernel
theorem dX4_isLead_5 : decode cX4_isLead 5 = .ok (.ifCond .ne 23, 3) := by decide +kernel
theorem dX4_isLead_8 : decode cX4_isLead 8 = .ok (.aload_n 0, 1) := by decide +kernel
theorem dX4_isLead_9 : decode cX4_isLead 9 = .ok (.getfield 15, 3) := by decide +kernel
theorem dX4_isLead_12 : decode cX4_isLead 12 = .ok (.aload_n 1, 1) := by decide +kernel
theorem dX4_isLead_13 : decode cX4_isLead 13 = .ok (.iload_n 2, 1) := by decide +kernel
theorem dX4_isLead_14 : decode cX4_isLead 14 = .ok (.invokevirtual 110, 3) := by decide +kernel
theorem dX4_isLead_17 : decode cX4_isLead 17 = .ok (.invokevirtual 59, 3) := by decide +kernel
theorem dX4_isLead_20 : decode cX4_isLead 20 = .ok (.iload_n 3, 1) := by decide +kernel
theorem dX4_isLead_21 : decode cX4_isLead 21 = .ok (.if_icmp .ne 7, 3) := by decide +kernel
theorem dX4_isLead_24 : decode cX4_isLead 24 = .ok (.iconst 1, 1) := by decide +kernel
theorem dX4_isLead_25 : decode cX4_isLead 25 = .ok (.goto 4, 3) := by decide +kernel
theorem dX4_isLead_28 : decode cX4_isLead 28 = .ok (.iconst 0, 1) := by decide +kernel
theorem dX4_isLead_29 : decode cX4_isLead 29 = .ok (.ireturn, 1) := by decide +kernel
theorem dX5_init_0 : decode cX5_init 0 = .ok (.aload_n 0, 1) := by decide +kernel
theorem dX5_init_1 : decode cX5_init 1 = .ok (.invokespecial 3, 3) := by decide +kernel
theorem dX5_init_4 : decode cX5_init 4 = .ok (.aload_n 0, 1) := by decide +kernel
theorem dX5_init_5 : decode cX5_init 5 = .ok (.bipush 10, 2) := by decide +kernel
theorem dX5_init_7 : decode cX5_init 7 = .ok (.newarray .int, 2) := by decide +kernel
theorem dX5_init_9 : decode cX5_init 9 = .ok (.putfield 9, 3) := by decide +kernel
theorem dX5_init_12 : decode cX5_init 12 = .ok (.aload_n 0, 1) := by decide +kernel
theorem dX5_init_13 : decode cX5_init 13 = .ok (.bipush 48, 2) := by decide +kernel
theorem dX5_init_15 : decode cX5_init 15 = .ok (.newarray .int, 2) := by decide +kernel
theorem dX5_init_17 : decode cX5_init 17 = .ok (.putfield 15, 3) := by decide +kernel
theorem dX5_init_20 : decode cX5_init 20 = .ok (.aload_n 0, 1) := by decide +kernel
theorem dX5_init_21 : decode cX5_init 21 = .ok (.bipush 48, 2) := by decide +kernel
theorem dX5_init_23 : decode cX5_init 23 = .ok (.newarray .int, 2) := by decide +kernel
theorem dX5_init_25 : decode cX5_init 25 = .ok (.putfield 18, 3) := by decide +kernel
theorem dX5_init_28 : decode cX5_init 28 = .ok (.aload_n 0, 1) := by decide +kernel
theorem dX5_init_29 : decode cX5_init 29 = .ok (.bipush 48, 2) := by decide +kernel
theorem dX5_init_31 : decode cX5_init 31 = .ok (.newarray .int, 2) := by decide +kernel
theorem dX5_init_33 : decode cX5_init 33 = .ok (.putfield 21, 3) := by decide +kernel
theorem dX5_init_36 : decode cX5_init 36 = .ok (.aload_n 0, 1) := by decide +kernel
theorem dX5_init_37 : decode cX5_init 37 = .ok (.aload_n 1, 1) := by decide +kernel
theorem dX5_init_38 : decode cX5_init 38 = .ok (.putfield 24, 3) := by decide +kernel
theorem dX5_init_41 : decode cX5_init 41 = .ok (.iconst 0, 1) := by decide +kernel
theorem dX5_init_42 : decode cX5_init 42 = .ok (.istore_n 2, 1) := by decide +kernel
theorem dX5_init_43 : decode cX5_init 43 = .ok (.iload_n 2, 1) := by decide +kernel
theorem dX5_init_44 : decode cX5_init 44 = .ok (.bipush 10, 2) := by decide +kernel
theorem dX5_init_46 : decode cX5_init 46 = .ok (.if_icmp .ge 16, 3) := by decide +kernel
theorem dX5_init_49 : decode cX5_init 49 = .ok (.aload_n 0, 1) := by decide +kernel
theorem dX5_init_50 : decode cX5_init 50 = .ok (.getfield 9, 3) := by decide +kernel
theorem dX5_init_53 : decode cX5_init 53 = .ok (.iload_n 2, 1) := by decide +kernel
theorem dX5_init_54 : decode cX5_init 54 = .ok (.iconst (-1), 1) := by decide +kernel
theorem dX5_init_55 : decode cX5_init 55 = .ok (.iastore, 1) := by decide +kernel
theorem dX5_init_56 : decode cX5_init 56 = .ok (.iinc 2 1, 3) := by decide +kernel
theorem dX5_init_59 : decode cX5_init 59 = .ok (.goto (-16), 3) := by decide +kernel
theorem dX5_init_62 : decode cX5_init 62 = .ok (.return_, 1) := by decide +kernel
theorem dX5_reset_0 : decode cX5_reset 0 = .ok (.aload_n 0, 1) := by decide +kernel
theorem dX5_reset_1 : decode cX5_reset 1 = .ok (.iconst 0, 1) := by decide +kernel
theorem dX5_reset_2 : decode cX5_reset 2 = .ok (.putfield 28, 3) := by decide +kernel
theorem dX5_reset_5 : decode cX5_reset 5 = .ok (.aload_n 0, 1) := by decide +kernel
theorem dX5_reset_6 : decode cX5_reset 6 = .ok (.iconst 0, 1) := by decide +kernel
theorem dX5_reset_7 : decode cX5_reset 7 = .ok (.putfield 32, 3) := by decide +kernel
theorem dX5_reset_10 : decode cX5_reset 10 = .ok (.iconst 0, 1) := by decide +kernel
theorem dX5_reset_11 : decode cX5_reset 11 = .ok (.istore_n 1, 1) := by decide +kernel
theorem dX5_reset_12 : decode cX5_reset 12 = .ok (.iload_n 1, 1) := by decide +kernel
theorem dX5_reset_13 : decode cX5_reset 13 = .ok (.bipush 10, 2) := by decide +kernel
theorem dX5_reset_15 : decode cX5_reset 15 = .ok (.if_icmp .ge 16, 3) := by decide +kernel
theorem dX5_reset_18 : decode cX5_reset 18 = .ok (.aload_n 0, 1) := by decide +kernel
theorem dX5_reset_19 : decode cX5_reset 19 = .ok (.getfield 9, 3) := by decide +kernel
theorem dX5_reset_22 : decode cX5_reset 22 = .ok (.iload_n 1, 1) := by decide +kernel
theorem dX5_reset_23 : decode cX5_reset 23 = .ok (.iconst (-1), 1) := by decide +kernel
theorem dX5_reset_24 : decode cX5_reset 24 = .ok (.iastore, 1) := by decide +kernel
theorem dX5_reset_25 : decode cX5_reset 25 = .ok (.iinc 1 1, 3) := by decide +kernel
theorem dX5_reset_28 : decode cX5_reset 28 = .ok (.goto (-16), 3) := by decide +kernel
theorem dX5_reset_31 : decode cX5_reset 31 = .ok (.return_, 1) := by decide +kernel
theorem dX5_firstOf_0 : decode cX5_firstOf 0 = .ok (.iload_n 1, 1) := by decide +kernel
theorem dX5_firstOf_1 : decode cX5_firstOf 1 = .ok (.ifCond .lt 18, 3) := by decide +kernel
theorem dX5_firstOf_4 : decode cX5_firstOf 4 = .ok (.iload_n 1, 1) := by decide +kernel
theorem dX5_firstOf_5 : decode cX5_firstOf 5 = .ok (.bipush 10, 2) := by decide +kernel
theorem dX5_firstOf_7 : decode cX5_firstOf 7 = .ok (.if_icmp .ge 12, 3) := by decide +kernel
theorem dX5_firstOf_10 : decode cX5_firstOf 10 = .ok (.aload_n 0, 1) := by decide +kernel
theorem dX5_firstOf_11 : decode cX5_firstOf 11 = .ok (.getfield 9, 3) := by decide +kernel
theorem dX5_firstOf_14 : decode cX5_firstOf 14 = .ok (.iload_n 1, 1) := by decide +kernel
theorem dX5_firstOf_15 : decode cX5_firstOf 15 = .ok (.iaload, 1) := by decide +kernel
theorem dX5_firstOf_16 : decode cX5_firstOf 16 = .ok (.goto 4, 3) := by decide +kernel
theorem dX5_firstOf_19 : decode cX5_firstOf 19 = .ok (.iconst (-1), 1) := by decide +kernel
theorem dX5_firstOf_20 : decode cX5_firstOf 20 = .ok (.ireturn, 1) := by decide +kernel
theorem dX5_nextOf_0 : decode cX5_nextOf 0 = .ok (.iload_n 1, 1) := by decide +kernel
theorem dX5_nextOf_1 : decode cX5_nextOf 1 = .ok (.ifCond .lt 18, 3) := by decide +kernel
theorem dX5_nextOf_4 : decode cX5_nextOf 4 = .ok (.iload_n 1, 1) := by decide +kernel
theorem dX5_nextOf_5 : decode cX5_nextOf 5 = .ok (.bipush 48, 2) := by decide +kernel
theorem dX5_nextOf_7 : decode cX5_nextOf 7 = .ok (.if_icmp .ge 12, 3) := by decide +kernel
theorem dX5_nextOf_10 : decode cX5_nextOf 10 = .ok (.aload_n 0, 1) := by decide +kernel
theorem dX5_nextOf_11 : decode cX5_nextOf 11 = .ok (.getfield 15, 3) := by decide +kernel
theorem dX5_nextOf_14 : decode cX5_nextOf 14 = .ok (.iload_n 1, 1) := by decide +kernel
theorem dX5_nextOf_15 : decode cX5_nextOf 15 = .ok (.iaload, 1) := by decide +kernel
theorem dX5_nextOf_16 : decode cX5_nextOf 16 = .ok (.goto 4, 3) := by decide +kernel
theorem dX5_nextOf_19 : decode cX5_nextOf 19 = .ok (.iconst (-1), 1) := by decide +kernel
theorem dX5_nextOf_20 : decode cX5_nextOf 20 = .ok (.ireturn, 1) := by decide +kernel
theorem dX5_codeOf_0 : decode cX5_codeOf 0 = .ok (.iload_n 1, 1) := by decide +kernel
theorem dX5_codeOf_1 : decode cX5_codeOf 1 = .ok (.ifCond .lt 18, 3) := by decide +kernel
theorem dX5_codeOf_4 : decode cX5_codeOf 4 = .ok (.iload_n 1, 1) := by decide +kernel
theorem dX5_codeOf_5 : decode cX5_codeOf 5 = .ok (.bipush 48, 2) := by decide +kernel
theorem dX5_codeOf_7 : decode cX5_codeOf 7 = .ok (.if_icmp .ge 12, 3) := by decide +kernel
theorem dX5_codeOf_10 : decode cX5_codeOf 10 = .ok (.aload_n 0, 1) := by decide +kernel
theorem dX5_codeOf_11 : decode cX5_codeOf 11 = .ok (.getfield 18, 3) := by decide +kernel
theorem dX5_codeOf_14 : decode cX5_codeOf 14 = .ok (.iload_n 1, 1) := by decide +kernel
theorem dX5_codeOf_15 : decode cX5_codeOf 15 = .ok (.iaload, 1) := by decide +kernel
theorem dX5_codeOf_16 : decode cX5_codeOf 16 = .ok (.goto 4, 3) := by decide +kernel
theorem dX5_codeOf_19 : decode cX5_codeOf 19 = .ok (.iconst (-1), 1) := by decide +kernel
theorem dX5_codeOf_20 : decode cX5_codeOf 20 = .ok (.ireturn, 1) := by decide +kernel
theorem dX5_roundOf_0 : decode cX5_roundOf 0 = .ok (.iload_n 1, 1) := by decide +kernel
theorem dX5_roundOf_1 : decode cX5_roundOf 1 = .ok (.ifCond .lt 18, 3) := by decide +kernel
theorem dX5_roundOf_4 : decode cX5_roundOf 4 = .ok (.iload_n 1, 1) := by decide +kernel
theorem dX5_roundOf_5 : decode cX5_roundOf 5 = .ok (.bipush 48, 2) := by decide +kernel
theorem dX5_roundOf_7 : decode cX5_roundOf 7 = .ok (.if_icmp .ge 12, 3) := by decide +kernel
theorem dX5_roundOf_10 : decode cX5_roundOf 10 = .ok (.aload_n 0, 1) := by decide +kernel
theorem dX5_roundOf_11 : decode cX5_roundOf 11 = .ok (.getfield 21, 3) := by decide +kernel
theorem dX5_roundOf_14 : decode cX5_roundOf 14 = .ok (.iload_n 1, 1) := by decide +kernel
theorem dX5_roundOf_15 : decode cX5_roundOf 15 = .ok (.iaload, 1) := by decide +kernel
theorem dX5_roundOf_16 : decode cX5_roundOf 16 = .ok (.goto 4, 3) := by decide +kernel
theorem dX5_roundOf_19 : decode cX5_roundOf 19 = .ok (.iconst (-1), 1) := by decide +kernel
theorem dX5_roundOf_20 : decode cX5_roundOf 20 = .ok (.ireturn, 1) := by decide +kernel
theorem dX5_tuplesOf_0 : decode cX5_tuplesOf 0 = .ok (.aload_n 0, 1) := by decide +kernel
theorem dX5_tuplesOf_1 : decode cX5_tuplesOf 1 = .ok (.iload_n 1, 1) := by decide +kernel
theorem dX5_tuplesOf_2 : decode cX5_tuplesOf 2 = .ok (.invokevirtual 36, 3) := by decide +kernel
theorem dX5_tuplesOf_5 : decode cX5_tuplesOf 5 = .ok (.istore_n 2, 1) := by decide +kernel
theorem dX5_tuplesOf_6 : decode cX5_tuplesOf 6 = .ok (.iconst 0, 1) := by decide +kernel
theorem dX5_tuplesOf_7 : decode cX5_tuplesOf 7 = .ok (.istore_n 3, 1) := by decide +kernel
theorem dX5_tuplesOf_8 : decode cX5_tuplesOf 8 = .ok (.iconst 0, 1) := by decide +kernel
theorem dX5_tuplesOf_9 : decode cX5_tuplesOf 9 = .ok (.istore 4, 2) := by decide +kernel
theorem dX5_tuplesOf_11 : decode cX5_tuplesOf 11 = .ok (.iload 4, 2) := by decide +kernel
theorem dX5_tuplesOf_13 : decode cX5_tuplesOf 13 = .ok (.bipush 48, 2) := by decide +kernel
theorem dX5_tuplesOf_15 : decode cX5_tuplesOf 15 = .ok (.if_icmp .ge 23, 3) := by decide +kernel
theorem dX5_tuplesOf_18 : decode cX5_tuplesOf 18 = .ok (.iload_n 2, 1) := by decide +kernel
theorem dX5_tuplesOf_19 : decode cX5_tuplesOf 19 = .ok (.iconst (-1), 1) := by decide +kernel
theorem dX5_tuplesOf_20 : decode cX5_tuplesOf 20 = .ok (.if_icmp .eq 18, 3) := by decide +kernel
theorem dX5_tuplesOf_23 : decode cX5_tuplesOf 23 = .ok (.iinc 3 1, 3) := by decide +kernel
theorem dX5_tuplesOf_26 : decode cX5_tuplesOf 26 = .ok (.aload_n 0, 1) := by decide +kernel
theorem dX5_tuplesOf_27 : decode cX5_tuplesOf 27 = .ok (.iload_n 2, 1) := by decide +kernel
theorem dX5_tuplesOf_28 : decode cX5_tuplesOf 28 = .ok (.invokevirtual 40, 3) := by decide +kernel
theorem dX5_tuplesOf_31 : decode cX5_tuplesOf 31 = .ok (.istore_n 2, 1) := by decide +kernel
theorem dX5_tuplesOf_32 : decode cX5_tuplesOf 32 = .ok (.iinc 4 1, 3) := by decide +kernel
theorem dX5_tuplesOf_35 : decode cX5_tuplesOf 35 = .ok (.goto (-24), 3) := by decide +kernel
theorem dX5_tuplesOf_38 : decode cX5_tuplesOf 38 = .ok (.iload_n 3, 1) := by decide +kernel
theorem dX5_tuplesOf_39 : decode cX5_tuplesOf 39 = .ok (.ireturn, 1) := by decide +kernel
theorem dX5_slotAt_0 : decode cX5_slotAt 0 = .ok (.iload_n 2, 1) := by decide +kernel
theorem dX5_slotAt_1 : decode cX5_slotAt 1 = .ok (.ifCond .lt 9, 3) := by decide +kernel
theorem dX5_slotAt_4 : decode cX5_slotAt 4 = .ok (.iload_n 2, 1) := by decide +kernel
theorem dX5_slotAt_5 : decode cX5_slotAt 5 = .ok (.bipush 48, 2) := by decide +kernel
theorem dX5_slotAt_7 : decode cX5_slotAt 7 = .ok (.if_icmp .lt 7, 3) := by decide +kernel
theorem dX5_slotAt_10 : decode cX5_slotAt 10 = .ok (.iconst (-1), 1) := by decide +kernel
theorem dX5_slotAt_11 : decode cX5_slotAt 11 = .ok (.goto 8, 3) := by decide +kernel
theorem dX5_slotAt_14 : decode cX5_slotAt 14 = .ok (.aload_n 0, 1) := by decide +kernel
theorem dX5_slotAt_15 : decode cX5_slotAt 15 = .ok (.iload_n 1, 1) := by decide +kernel
theorem dX5_slotAt_16 : decode cX5_slotAt 16 = .ok (.invokevirtual 36, 3) := by decide +kernel
theorem dX5_slotAt_19 : decode cX5_slotAt 19 = .ok (.istore_n 3, 1) := by decide +kernel
theorem dX5_slotAt_20 : decode cX5_slotAt 20 = .ok (.iconst 0, 1) := by decide +kernel
theorem dX5_slotAt_21 : decode cX5_slotAt 21 = .ok (.istore 4, 2) := by decide +kernel
theorem dX5_slotAt_23 : decode cX5_slotAt 23 = .ok (.iload 4, 2) := by decide +kernel
theorem dX5_slotAt_25 : decode cX5_slotAt 25 = .ok (.iload_n 2, 1) := by decide +kernel
theorem dX5_slotAt_26 : decode cX5_slotAt 26 = .ok (.if_icmp .ge 27, 3) := by decide +kernel
theorem dX5_slotAt_29 : decode cX5_slotAt 29 = .ok (.iload 4, 2) := by decide +kernel
theorem dX5_slotAt_31 : decode cX5_slotAt 31 = .ok (.bipush 48, 2) := by decide +kernel
theorem dX5_slotAt_33 : decode cX5_slotAt 33 = .ok (.if_icmp .ge 20, 3) := by decide +kernel
theorem dX5_slotAt_36 : decode cX5_slotAt 36 = .ok (.iload_n 3, 1) := by decide +kernel
theorem dX5_slotAt_37 : decode cX5_slotAt 37 = .ok (.iconst (-1), 1) := by decide +kernel
theorem dX5_slotAt_38 : decode cX5_slotAt 38 = .ok (.if_icmp .eq 15, 3) := by decide +kernel
theorem dX5_slotAt_41 : decode cX5_slotAt 41 = .ok (.aload_n 0, 1) := by decide +kernel
theorem dX5_slotAt_42 : decode cX5_slotAt 42 = .ok (.iload_n 3, 1) := by decide +kernel
theorem dX5_slotAt_43 : decode cX5_slotAt 43 = .ok (.invokevirtual 40, 3) := by decide +kernel
theorem dX5_slotAt_46 : decode cX5_slotAt 46 = .ok (.istore_n 3, 1) := by decide +kernel
theorem dX5_slotAt_47 : decode cX5_slotAt 47 = .ok (.iinc 4 1, 3) := by decide +kernel
theorem dX5_slotAt_50 : decode cX5_slotAt 50 = .ok (.goto (-27), 3) := by decide +kernel
theorem dX5_slotAt_53 : decode cX5_slotAt 53 = .ok (.iload_n 3, 1) := by decide +kernel
theorem dX5_slotAt_54 : decode cX5_slotAt 54 = .ok (.ireturn, 1) := by decide +kernel
theorem dX5_slotBelow_0 : decode cX5_slotBelow 0 = .ok (.aload_n 0, 1) := by decide +kernel
theorem dX5_slotBelow_1 : decode cX5_slotBelow 1 = .ok (.getfield 24, 3) := by decide +kernel
theorem dX5_slotBelow_4 : decode cX5_slotBelow 4 = .ok (.iload_n 1, 1) := by decide +kernel
theorem dX5_slotBelow_5 : decode cX5_slotBelow 5 = .ok (.invokevirtual 43, 3) := by decide +kernel
theorem dX5_slotBelow_8 : decode cX5_slotBelow 8 = .ok (.istore_n 3, 1) := by decide +kernel
theorem dX5_slotBelow_9 : decode cX5_slotBelow 9 = .ok (.iconst (-1), 1) := by decide +kernel
theorem dX5_slotBelow_10 : decode cX5_slotBelow 10 = .ok (.istore 4, 2) := by decide +kernel
theorem dX5_slotBelow_12 : decode cX5_slotBelow 12 = .ok (.aload_n 0, 1) := by decide +kernel
theorem dX5_slotBelow_13 : decode cX5_slotBelow 13 = .ok (.iload_n 1, 1) := by decide +kernel
theorem dX5_slotBelow_14 : decode cX5_slotBelow 14 = .ok (.invokevirtual 36, 3) := by decide +kernel
theorem dX5_slotBelow_17 : decode cX5_slotBelow 17 = .ok (.istore 5, 2) := by decide +kernel
theorem dX5_slotBelow_19 : decode cX5_slotBelow 19 = .ok (.iconst 0, 1) := by decide +kernel
theorem dX5_slotBelow_20 : decode cX5_slotBelow 20 = .ok (.istore 6, 2) := by decide +kernel
theorem dX5_slotBelow_22 : decode cX5_slotBelow 22 = .ok (.iload 6, 2) := by decide +kernel
theorem dX5_slotBelow_24 : decode cX5_slotBelow 24 = .ok (.bipush 48, 2) := by decide +kernel
theorem dX5_slotBelow_26 : decode cX5_slotBelow 26 = .ok (.if_icmp .ge 75, 3) := by decide +kernel
theorem dX5_slotBelow_29 : decode cX5_slotBelow 29 = .ok (.iload 5, 2) := by decide +kernel
theorem dX5_slotBelow_31 : decode cX5_slotBelow 31 = .ok (.ifCond .lt 70, 3) := by decide +kernel
theorem dX5_slotBelow_34 : decode cX5_slotBelow 34 = .ok (.iload 5, 2) := by decide +kernel
theorem dX5_slotBelow_36 : decode cX5_slotBelow 36 = .ok (.bipush 48, 2) := by decide +kernel
theorem dX5_slotBelow_38 : decode cX5_slotBelow 38 = .ok (.if_icmp .ge 63, 3) := by decide +kernel
theorem dX5_slotBelow_41 : decode cX5_slotBelow 41 = .ok (.aload_n 0, 1) := by decide +kernel
theorem dX5_slotBelow_42 : decode cX5_slotBelow 42 = .ok (.getfield 18, 3) := by decide +kernel
theorem dX5_slotBelow_45 : decode cX5_slotBelow 45 = .ok (.iload 5, 2) := by decide +kernel
theorem dX5_slotBelow_47 : decode cX5_slotBelow 47 = .ok (.iaload, 1) := by decide +kernel
theorem dX5_slotBelow_48 : decode cX5_slotBelow 48 = .ok (.iload_n 3, 1) := by decide +kernel
theorem dX5_slotBelow_49 : decode cX5_slotBelow 49 = .ok (.iand, 1) := by decide +kernel
theorem dX5_slotBelow_50 : decode cX5_slotBelow 50 = .ok (.iload_n 2, 1) := by decide +kernel
theorem dX5_slotBelow_51 : decode cX5_slotBelow 51 = .ok (.iload_n 3, 1) := by decide +kernel
theorem dX5_slotBelow_52 : decode cX5_slotBelow 52 = .ok (.iand, 1) := by decide +kernel
theorem dX5_slotBelow_53 : decode cX5_slotBelow 53 = .ok (.if_icmp .ge 7, 3) := by decide +kernel
theorem dX5_slotBelow_56 : decode cX5_slotBelow 56 = .ok (.iconst 1, 1) := by decide +kernel
theorem dX5_slotBelow_57 : decode cX5_slotBelow 57 = .ok (.goto 4, 3) := by decide +kernel
theorem dX5_slotBelow_60 : decode cX5_slotBelow 60 = .ok (.iconst 0, 1) := by decide +kernel
theorem dX5_slotBelow_61 : decode cX5_slotBelow 61 = .ok (.istore 7, 2) := by decide +kernel
theorem dX5_slotBelow_63 : decode cX5_slotBelow 63 = .ok (.iload 7, 2) := by decide +kernel
theorem dX5_slotBelow_65 : decode cX5_slotBelow 65 = .ok (.ifCond .eq 8, 3) := by decide +kernel
theorem dX5_slotBelow_68 : decode cX5_slotBelow 68 = .ok (.iload 5, 2) := by decide +kernel
theorem dX5_slotBelow_70 : decode cX5_slotBelow 70 = .ok (.goto 5, 3) := by decide +kernel
theorem dX5_slotBelow_73 : decode cX5_slotBelow 73 = .ok (.iload 4, 2) := by decide +kernel
theorem dX5_slotBelow_75 : decode cX5_slotBelow 75 = .ok (.istore 4, 2) := by decide +kernel
theorem dX5_slotBelow_77 : decode cX5_slotBelow 77 = .ok (.iload 7, 2) := by decide +kernel
theorem dX5_slotBelow_79 : decode cX5_slotBelow 79 = .ok (.ifCond .eq 13, 3) := by decide +kernel
theorem dX5_slotBelow_82 : decode cX5_slotBelow 82 = .ok (.aload_n 0, 1) := by decide +kernel
theorem dX5_slotBelow_83 : decode cX5_slotBelow 83 = .ok (.getfield 15, 3) := by decide +kernel
theorem dX5_slotBelow_86 : decode cX5_slotBelow 86 = .ok (.iload 5, 2) := by decide +kernel
theorem dX5_slotBelow_88 : decode cX5_slotBelow 88 = .ok (.iaload, 1) := by decide +kernel
theorem dX5_slotBelow_89 : decode cX5_slotBelow 89 = .ok (.goto 4, 3) := by decide +kernel
theorem dX5_slotBelow_92 : decode cX5_slotBelow 92 = .ok (.iconst (-1), 1) := by decide +kernel
theorem dX5_slotBelow_93 : decode cX5_slotBelow 93 = .ok (.istore 5, 2) := by decide +kernel
theorem dX5_slotBelow_95 : decode cX5_slotBelow 95 = .ok (.iinc 6 1, 3) := by decide +kernel
theorem dX5_slotBelow_98 : decode cX5_slotBelow 98 = .ok (.goto (-76), 3) := by decide +kernel
theorem dX5_slotBelow_101 : decode cX5_slotBelow 101 = .ok (.iload 4, 2) := by decide +kernel
theorem dX5_slotBelow_103 : decode cX5_slotBelow 103 = .ok (.ireturn, 1) := by decide +kernel
theorem dX5_slotLike_0 : decode cX5_slotLike 0 = .ok (.aload_n 0, 1) := by decide +kernel
theorem dX5_slotLike_1 : decode cX5_slotLike 1 = .ok (.getfield 24, 3) := by decide +kernel
theorem dX5_slotLike_4 : decode cX5_slotLike 4 = .ok (.iload_n 1, 1) := by decide +kernel
theorem dX5_slotLike_5 : decode cX5_slotLike 5 = .ok (.invokevirtual 43, 3) := by decide +kernel
theorem dX5_slotLike_8 : decode cX5_slotLike 8 = .ok (.istore_n 3, 1) := by decide +kernel
theorem dX5_slotLike_9 : decode cX5_slotLike 9 = .ok (.aload_n 0, 1) := by decide +kernel
theorem dX5_slotLike_10 : decode cX5_slotLike 10 = .ok (.iload_n 1, 1) := by decide +kernel
theorem dX5_slotLike_11 : decode cX5_slotLike 11 = .ok (.invokevirtual 36, 3) := by decide +kernel
theorem dX5_slotLike_14 : decode cX5_slotLike 14 = .ok (.istore 4, 2) := by decide +kernel
theorem dX5_slotLike_16 : decode cX5_slotLike 16 = .ok (.iconst 0, 1) := by decide +kernel
theorem dX5_slotLike_17 : decode cX5_slotLike 17 = .ok (.istore 5, 2) := by decide +kernel
theorem dX5_slotLike_19 : decode cX5_slotLike 19 = .ok (.iload 5, 2) := by decide +kernel
theorem dX5_slotLike_21 : decode cX5_slotLike 21 = .ok (.bipush 48, 2) := by decide +kernel
theorem dX5_slotLike_23 : decode cX5_slotLike 23 = .ok (.if_icmp .ge 62, 3) := by decide +kernel
theorem dX5_slotLike_26 : decode cX5_slotLike 26 = .ok (.iload 4, 2) := by decide +kernel
theorem dX5_slotLike_28 : decode cX5_slotLike 28 = .ok (.ifCond .lt 57, 3) := by decide +kernel
theorem dX5_slotLike_31 : decode cX5_slotLike 31 = .ok (.iload 4, 2) := by decide +kernel
theorem dX5_slotLike_33 : decode cX5_slotLike 33 = .ok (.bipush 48, 2) := by decide +kernel
theorem dX5_slotLike_35 : decode cX5_slotLike 35 = .ok (.if_icmp .ge 50, 3) := by decide +kernel
theorem dX5_slotLike_38 : decode cX5_slotLike 38 = .ok (.aload_n 0, 1) := by decide +kernel
theorem dX5_slotLike_39 : decode cX5_slotLike 39 = .ok (.getfield 18, 3) := by decide +kernel
theorem dX5_slotLike_42 : decode cX5_slotLike 42 = .ok (.iload 4, 2) := by decide +kernel
theorem dX5_slotLike_44 : decode cX5_slotLike 44 = .ok (.iaload, 1) := by decide +kernel
theorem dX5_slotLike_45 : decode cX5_slotLike 45 = .ok (.iload_n 3, 1) := by decide +kernel
theorem dX5_slotLike_46 : decode cX5_slotLike 46 = .ok (.iand, 1) := by decide +kernel
theorem dX5_slotLike_47 : decode cX5_slotLike 47 = .ok (.iload_n 2, 1) := by decide +kernel
theorem dX5_slotLike_48 : decode cX5_slotLike 48 = .ok (.iload_n 3, 1) := by decide +kernel
theorem dX5_slotLike_49 : decode cX5_slotLike 49 = .ok (.iand, 1) := by decide +kernel
theorem dX5_slotLike_50 : decode cX5_slotLike 50 = .ok (.isub, 1) := by decide +kernel
theorem dX5_slotLike_51 : decode cX5_slotLike 51 = .ok (.istore 6, 2) := by decide +kernel
theorem dX5_slotLike_53 : decode cX5_slotLike 53 = .ok (.iload 6, 2) := by decide +kernel
theorem dX5_slotLike_55 : decode cX5_slotLike 55 = .ok (.ifCond .lt 15, 3) := by decide +kernel
theorem dX5_slotLike_58 : decode cX5_slotLike 58 = .ok (.iload 6, 2) := by decide +kernel
theorem dX5_slotLike_60 : decode cX5_slotLike 60 = .ok (.ifCond .ne 8, 3) := by decide +kernel
theorem dX5_slotLike_63 : decode cX5_slotLike 63 = .ok (.iload 4, 2) := by decide +kernel
theorem dX5_slotLike_65 : decode cX5_slotLike 65 = .ok (.goto 4, 3) := by decide +kernel
theorem dX5_slotLike_68 : decode cX5_slotLike 68 = .ok (.iconst (-1), 1) := by decide +kernel
theorem dX5_slotLike_69 : decode cX5_slotLike 69 = .ok (.ireturn, 1) := by decide +kernel
theorem dX5_slotLike_70 : decode cX5_slotLike 70 = .ok (.aload_n 0, 1) := by decide +kernel
theorem dX5_slotLike_71 : decode cX5_slotLike 71 = .ok (.getfield 15, 3) := by decide +kernel
theorem dX5_slotLike_74 : decode cX5_slotLike 74 = .ok (.iload 4, 2) := by decide +kernel
theorem dX5_slotLike_76 : decode cX5_slotLike 76 = .ok (.iaload, 1) := by decide +kernel
theorem dX5_slotLike_77 : decode cX5_slotLike 77 = .ok (.istore 4, 2) := by decide +kernel
theorem dX5_slotLike_79 : decode cX5_slotLike 79 = .ok (.iinc 5 1, 3) := by decide +kernel
theorem dX5_slotLike_82 : decode cX5_slotLike 82 = .ok (.goto (-63), 3) := by decide +kernel
theorem dX5_slotLike_85 : decode cX5_slotLike 85 = .ok (.iconst (-1), 1) := by decide +kernel
theorem dX5_slotLike_86 : decode cX5_slotLike 86 = .ok (.ireturn, 1) := by decide +kernel
theorem dX5_has_0 : decode cX5_has 0 = .ok (.aload_n 0, 1) := by decide +kernel
theorem dX5_has_1 : decode cX5_has 1 = .ok (.iload_n 1, 1) := by decide +kernel
theorem dX5_has_2 : decode cX5_has 2 = .ok (.iload_n 2, 1) := by decide +kernel
theorem dX5_has_3 : decode cX5_has 3 = .ok (.invokevirtual 48, 3) := by decide +kernel
theorem dX5_has_6 : decode cX5_has 6 = .ok (.istore_n 3, 1) := by decide +kernel
theorem dX5_has_7 : decode cX5_has 7 = .ok (.iload_n 3, 1) := by decide +kernel
theorem dX5_has_8 : decode cX5_has 8 = .ok (.iconst (-1), 1) := by decide +kernel
theorem dX5_has_9 : decode cX5_has 9 = .ok (.if_icmp .eq 16, 3) := by decide +kernel
theorem dX5_has_12 : decode cX5_has 12 = .ok (.aload_n 0, 1) := by decide +kernel
theorem dX5_has_13 : decode cX5_has 13 = .ok (.iload_n 3, 1) := by decide +kernel
theorem dX5_has_14 : decode cX5_has 14 = .ok (.invokevirtual 52, 3) := by decide +kernel
theorem dX5_has_17 : decode cX5_has 17 = .ok (.iload_n 2, 1) := by decide +kernel
theorem dX5_has_18 : decode cX5_has 18 = .ok (.if_icmp .ne 7, 3) := by decide +kernel
theorem dX5_has_21 : decode cX5_has 21 = .ok (.iconst 1, 1) := by decide +kernel
theorem dX5_has_22 : decode cX5_has 22 = .ok (.goto 4, 3) := by decide +kernel
theorem dX5_has_25 : decode cX5_has 25 = .ok (.iconst 0, 1) := by decide +kernel
theorem dX5_has_26 : decode cX5_has 26 = .ok (.ireturn, 1) := by decide +kernel
theorem dX5_take_0 : decode cX5_take 0 = .ok (.aload_n 0, 1) := by decide +kernel
theorem dX5_take_1 : decode cX5_take 1 = .ok (.iload_n 1, 1) := by decide +kernel
theorem dX5_take_2 : decode cX5_take 2 = .ok (.iload_n 2, 1) := by decide +kernel
theorem dX5_take_3 : decode cX5_take 3 = .ok (.invokevirtual 48, 3) := by decide +kernel
theorem dX5_take_6 : decode cX5_take 6 = .ok (.istore 4, 2) := by decide +kernel
theorem dX5_take_8 : decode cX5_take 8 = .ok (.iload 4, 2) := by decide +kernel
theorem dX5_take_10 : decode cX5_take 10 = .ok (.iconst (-1), 1) := by decide +kernel
theorem dX5_take_11 : decode cX5_take 11 = .ok (.if_icmp .ne 11, 3) := by decide +kernel
theorem dX5_take_14 : decode cX5_take 14 = .ok (.aload_n 0, 1) := by decide +kernel
theorem dX5_take_15 : decode cX5_take 15 = .ok (.iload_n 1, 1) := by decide +kernel
theorem dX5_take_16 : decode cX5_take 16 = .ok (.iload_n 2, 1) := by decide +kernel
theorem dX5_take_17 : decode cX5_take 17 = .ok (.iload_n 3, 1) := by decide +kernel
theorem dX5_take_18 : decode cX5_take 18 = .ok (.invokevirtual 55, 3) := by decide +kernel
theorem dX5_take_21 : decode cX5_take 21 = .ok (.ireturn, 1) := by decide +kernel
theorem dX5_take_22 : decode cX5_take 22 = .ok (.aload_n 0, 1) := by decide +kernel
theorem dX5_take_23 : decode cX5_take 23 = .ok (.iload_n 1, 1) := by decide +kernel
theorem dX5_take_24 : decode cX5_take 24 = .ok (.aload_n 0, 1) := by decide +kernel
theorem dX5_take_25 : decode cX5_take 25 = .ok (.iload 4, 2) := by decide +kernel
theorem dX5_take_27 : decode cX5_take 27 = .ok (.invokevirtual 52, 3) := by decide +kernel
theorem dX5_take_30 : decode cX5_take 30 = .ok (.iload_n 2, 1) := by decide +kernel
theorem dX5_take_31 : decode cX5_take 31 = .ok (.invokevirtual 59, 3) := by decide +kernel
theorem dX5_take_34 : decode cX5_take 34 = .ok (.istore 5, 2) := by decide +kernel
theorem dX5_take_36 : decode cX5_take 36 = .ok (.iload 5, 2) := by decide +kernel
theorem dX5_take_38 : decode cX5_take 38 = .ok (.aload_n 0, 1) := by decide +kernel
theorem dX5_take_39 : decode cX5_take 39 = .ok (.iload 4, 2) := by decide +kernel
theorem dX5_take_41 : decode cX5_take 41 = .ok (.invokevirtual 52, 3) := by decide +kernel
theorem dX5_take_44 : decode cX5_take 44 = .ok (.if_icmp .eq 15, 3) := by decide +kernel
theorem dX5_take_47 : decode cX5_take 47 = .ok (.iload 4, 2) := by decide +kernel
theorem dX5_take_49 : decode cX5_take 49 = .ok (.ifCond .lt 10, 3) := by decide +kernel
theorem dX5_take_52 : decode cX5_take 52 = .ok (.iload 4, 2) := by decide +kernel
theorem dX5_take_54 : decode cX5_take 54 = .ok (.bipush 48, 2) := by decide +kernel
theorem dX5_take_56 : decode cX5_take 56 = .ok (.if_icmp .lt 5, 3) := by decide +kernel
theorem dX5_take_59 : decode cX5_take 59 = .ok (.iconst 0, 1) := by decide +kernel
theorem dX5_take_60 : decode cX5_take 60 = .ok (.ireturn, 1) := by decide +kernel
theorem dX5_take_61 : decode cX5_take 61 = .ok (.aload_n 0, 1) := by decide +kernel
theorem dX5_take_62 : decode cX5_take 62 = .ok (.getfield 18, 3) := by decide +kernel
theorem dX5_take_65 : decode cX5_take 65 = .ok (.iload 4, 2) := by decide +kernel
theorem dX5_take_67 : decode cX5_take 67 = .ok (.iload 5, 2) := by decide +kernel
theorem dX5_take_69 : decode cX5_take 69 = .ok (.iastore, 1) := by decide +kernel
theorem dX5_take_70 : decode cX5_take 70 = .ok (.aload_n 0, 1) := by decide +kernel
theorem dX5_take_71 : decode cX5_take 71 = .ok (.getfield 21, 3) := by decide +kernel
theorem dX5_take_74 : decode cX5_take 74 = .ok (.iload 4, 2) := by decide +kernel
theorem dX5_take_76 : decode cX5_take 76 = .ok (.iload_n 3, 1) := by decide +kernel
theorem dX5_take_77 : decode cX5_take 77 = .ok (.iastore, 1) := by decide +kernel
theorem dX5_take_78 : decode cX5_take 78 = .ok (.iconst 1, 1) := by decide +kernel
theorem dX5_take_79 : decode cX5_take 79 = .ok (.ireturn, 1) := by decide +kernel
theorem dX5_insert_0 : decode cX5_insert 0 = .ok (.aload_n 0, 1) := by decide +kernel
theorem dX5_insert_1 : decode cX5_insert 1 = .ok (.getfield 28, 3) := by decide +kernel
theorem dX5_insert_4 : decode cX5_insert 4 = .ok (.istore 4, 2) := by decide +kernel
theorem dX5_insert_6 : decode cX5_insert 6 = .ok (.iload 4, 2) := by decide +kernel
theorem dX5_insert_8 : decode cX5_insert 8 = .ok (.ifCond .lt 20, 3) := by decide +kernel
theorem dX5_insert_11 : decode cX5_insert 11 = .ok (.iload 4, 2) := by decide +kernel
theorem dX5_insert_13 : decode cX5_insert 13 = .ok (.bipush 48, 2) := by decide +kernel
theorem dX5_insert_15 : decode cX5_insert 15 = .ok (.if_icmp .ge 13, 3) := by decide +kernel
theorem dX5_insert_18 : decode cX5_insert 18 = .ok (.iload_n 1, 1) := by decide +kernel
theorem dX5_insert_19 : decode cX5_insert 19 = .ok (.ifCond .lt 9, 3) := by decide +kernel
theorem dX5_insert_22 : decode cX5_insert 22 = .ok (.iload_n 1, 1) := by decide +kernel
theorem dX5_insert_23 : decode cX5_insert 23 = .ok (.bipush 10, 2) := by decide +kernel
theorem dX5_insert_25 : decode cX5_insert 25 = .ok (.if_icmp .lt 10, 3) := by decide +kernel
theorem dX5_insert_28 : decode cX5_insert 28 = .ok (.aload_n 0, 1) := by decide +kernel
theorem dX5_insert_29 : decode cX5_insert 29 = .ok (.iconst 1, 1) := by decide +kernel
theorem dX5_insert_30 : decode cX5_insert 30 = .ok (.putfield 32, 3) := by decide +kernel
theorem dX5_insert_33 : decode cX5_insert 33 = .ok (.iconst 0, 1) := by decide +kernel
theorem dX5_insert_34 : decode cX5_insert 34 = .ok (.ireturn, 1) := by decide +kernel
theorem dX5_insert_35 : decode cX5_insert 35 = .ok (.aload_n 0, 1) := by decide +kernel
theorem dX5_insert_36 : decode cX5_insert 36 = .ok (.iload_n 1, 1) := by decide +kernel
theorem dX5_insert_37 : decode cX5_insert 37 = .ok (.iload_n 2, 1) := by decide +kernel
theorem dX5_insert_38 : decode cX5_insert 38 = .ok (.invokevirtual 63, 3) := by decide +kernel
theorem dX5_insert_41 : decode cX5_insert 41 = .ok (.istore 5, 2) := by decide +kernel
theorem dX5_insert_43 : decode cX5_insert 43 = .ok (.aload_n 0, 1) := by decide +kernel
theorem dX5_insert_44 : decode cX5_insert 44 = .ok (.getfield 18, 3) := by decide +kernel
theorem dX5_insert_47 : decode cX5_insert 47 = .ok (.iload 4, 2) := by decide +kernel
theorem dX5_insert_49 : decode cX5_insert 49 = .ok (.iload_n 2, 1) := by decide +kernel
theorem dX5_insert_50 : decode cX5_insert 50 = .ok (.iastore, 1) := by decide +kernel
theorem dX5_insert_51 : decode cX5_insert 51 = .ok (.aload_n 0, 1) := by decide +kernel
theorem dX5_insert_52 : decode cX5_insert 52 = .ok (.getfield 21, 3) := by decide +kernel
theorem dX5_insert_55 : decode cX5_insert 55 = .ok (.iload 4, 2) := by decide +kernel
theorem dX5_insert_57 : decode cX5_insert 57 = .ok (.iload_n 3, 1) := by decide +kernel
theorem dX5_insert_58 : decode cX5_insert 58 = .ok (.iastore, 1) := by decide +kernel
theorem dX5_insert_59 : decode cX5_insert 59 = .ok (.iload 5, 2) := by decide +kernel
theorem dX5_insert_61 : decode cX5_insert 61 = .ok (.ifCond .lt 36, 3) := by decide +kernel
theorem dX5_insert_64 : decode cX5_insert 64 = .ok (.iload 5, 2) := by decide +kernel
theorem dX5_insert_66 : decode cX5_insert 66 = .ok (.bipush 48, 2) := by decide +kernel
theorem dX5_insert_68 : decode cX5_insert 68 = .ok (.if_icmp .ge 29, 3) := by decide +kernel
theorem dX5_insert_71 : decode cX5_insert 71 = .ok (.aload_n 0, 1) := by decide +kernel
theorem dX5_insert_72 : decode cX5_insert 72 = .ok (.getfield 15, 3) := by decide +kernel
theorem dX5_insert_75 : decode cX5_insert 75 = .ok (.iload 4, 2) := by decide +kernel
theorem dX5_insert_77 : decode cX5_insert 77 = .ok (.aload_n 0, 1) := by decide +kernel
theorem dX5_insert_78 : decode cX5_insert 78 = .ok (.getfield 15, 3) := by decide +kernel
theorem dX5_insert_81 : decode cX5_insert 81 = .ok (.iload 5, 2) := by decide +kernel
theorem dX5_insert_83 : decode cX5_insert 83 = .ok (.iaload, 1) := by decide +kernel
theorem dX5_insert_84 : decode cX5_insert 84 = .ok (.iastore, 1) := by decide +kernel
theorem dX5_insert_85 : decode cX5_insert 85 = .ok (.aload_n 0, 1) := by decide +kernel
theorem dX5_insert_86 : decode cX5_insert 86 = .ok (.getfield 15, 3) := by decide +kernel
theorem dX5_insert_89 : decode cX5_insert 89 = .ok (.iload 5, 2) := by decide +kernel
theorem dX5_insert_91 : decode cX5_insert 91 = .ok (.iload 4, 2) := by decide +kernel
theorem dX5_insert_93 : decode cX5_insert 93 = .ok (.iastore, 1) := by decide +kernel
theorem dX5_insert_94 : decode cX5_insert 94 = .ok (.goto 24, 3) := by decide +kernel
theorem dX5_insert_97 : decode cX5_insert 97 = .ok (.aload_n 0, 1) := by decide +kernel
theorem dX5_insert_98 : decode cX5_insert 98 = .ok (.getfield 15, 3) := by decide +kernel
theorem dX5_insert_101 : decode cX5_insert 101 = .ok (.iload 4, 2) := by decide +kernel
theorem dX5_insert_103 : decode cX5_insert 103 = .ok (.aload_n 0, 1) := by decide +kernel
theorem dX5_insert_104 : decode cX5_insert 104 = .ok (.getfield 9, 3) := by decide +kernel
theorem dX5_insert_107 : decode cX5_insert 107 = .ok (.iload_n 1, 1) := by decide +kernel
theorem dX5_insert_108 : decode cX5_insert 108 = .ok (.iaload, 1) := by decide +kernel
theorem dX5_insert_109 : decode cX5_insert 109 = .ok (.iastore, 1) := by decide +kernel
theorem dX5_insert_110 : decode cX5_insert 110 = .ok (.aload_n 0, 1) := by decide +kernel
theorem dX5_insert_111 : decode cX5_insert 111 = .ok (.getfield 9, 3) := by decide +kernel
theorem dX5_insert_114 : decode cX5_insert 114 = .ok (.iload_n 1, 1) := by decide +kernel
theorem dX5_insert_115 : decode cX5_insert 115 = .ok (.iload 4, 2) := by decide +kernel
theorem dX5_insert_117 : decode cX5_insert 117 = .ok (.iastore, 1) := by decide +kernel
theorem dX5_insert_118 : decode cX5_insert 118 = .ok (.aload_n 0, 1) := by decide +kernel
theorem dX5_insert_119 : decode cX5_insert 119 = .ok (.dup, 1) := by decide +kernel
theorem dX5_insert_120 : decode cX5_insert 120 = .ok (.getfield 28, 3) := by decide +kernel
theorem dX5_insert_123 : decode cX5_insert 123 = .ok (.iconst 1, 1) := by decide +kernel
theorem dX5_insert_124 : decode cX5_insert 124 = .ok (.iadd, 1) := by decide +kernel
theorem dX5_insert_125 : decode cX5_insert 125 = .ok (.putfield 28, 3) := by decide +kernel
theorem dX5_insert_128 : decode cX5_insert 128 = .ok (.iconst 1, 1) := by decide +kernel
theorem dX5_insert_129 : decode cX5_insert 129 = .ok (.ireturn, 1) := by decide +kernel
theorem dX5_merged_0 : decode cX5_merged 0 = .ok (.aload_n 0, 1) := by decide +kernel
theorem dX5_merged_1 : decode cX5_merged 1 = .ok (.getfield 24, 3) := by decide +kernel
theorem dX5_merged_4 : decode cX5_merged 4 = .ok (.iload_n 1, 1) := by decide +kernel
theorem dX5_merged_5 : decode cX5_merged 5 = .ok (.invokevirtual 66, 3) := by decide +kernel
theorem dX5_merged_8 : decode cX5_merged 8 = .ok (.istore 4, 2) := by decide +kernel
theorem dX5_merged_10 : decode cX5_merged 10 = .ok (.iload 4, 2) := by decide +kernel
theorem dX5_merged_12 : decode cX5_merged 12 = .ok (.iconst 1, 1) := by decide +kernel
theorem dX5_merged_13 : decode cX5_merged 13 = .ok (.if_icmp .ne 9, 3) := by decide +kernel
theorem dX5_merged_16 : decode cX5_merged 16 = .ok (.iload_n 2, 1) := by decide +kernel
theorem dX5_merged_17 : decode cX5_merged 17 = .ok (.iload_n 3, 1) := by decide +kernel
theorem dX5_merged_18 : decode cX5_merged 18 = .ok (.invokestatic 69, 3) := by decide +kernel
theorem dX5_merged_21 : decode cX5_merged 21 = .ok (.ireturn, 1) := by decide +kernel
theorem dX5_merged_22 : decode cX5_merged 22 = .ok (.iload 4, 2) := by decide +kernel
theorem dX5_merged_24 : decode cX5_merged 24 = .ok (.iconst 2, 1) := by decide +kernel
theorem dX5_merged_25 : decode cX5_merged 25 = .ok (.if_icmp .ne 11, 3) := by decide +kernel
theorem dX5_merged_28 : decode cX5_merged 28 = .ok (.iload_n 2, 1) := by decide +kernel
theorem dX5_merged_29 : decode cX5_merged 29 = .ok (.iload_n 3, 1) := by decide +kernel
theorem dX5_merged_30 : decode cX5_merged 30 = .ok (.invokestatic 74, 3) := by decide +kernel
theorem dX5_merged_33 : decode cX5_merged 33 = .ok (.goto 6, 3) := by decide +kernel
theorem dX5_merged_36 : decode cX5_merged 36 = .ok (.iload_n 2, 1) := by decide +kernel
theorem dX5_merged_37 : decode cX5_merged 37 = .ok (.iload_n 3, 1) := by decide +kernel
theorem dX5_merged_38 : decode cX5_merged 38 = .ok (.ior, 1) := by decide +kernel
theorem dX5_merged_39 : decode cX5_merged 39 = .ok (.ireturn, 1) := by decide +kernel
theorem dX5_breaksKey_0 : decode cX5_breaksKey 0 = .ok (.aload_n 0, 1) := by decide +kernel
theorem dX5_breaksKey_1 : decode cX5_breaksKey 1 = .ok (.getfield 24, 3) := by decide +kernel
theorem dX5_breaksKey_4 : decode cX5_breaksKey 4 = .ok (.iload_n 1, 1) := by decide +kernel
theorem dX5_breaksKey_5 : decode cX5_breaksKey 5 = .ok (.invokevirtual 77, 3) := by decide +kernel
theorem dX5_breaksKey_8 : decode cX5_breaksKey 8 = .ok (.iconst 1, 1) := by decide +kernel
theorem dX5_breaksKey_9 : decode cX5_breaksKey 9 = .ok (.isub, 1) := by decide +kernel
theorem dX5_breaksKey_10 : decode cX5_breaksKey 10 = .ok (.invokestatic 80, 3) := by decide +kernel
theorem dX5_breaksKey_13 : decode cX5_breaksKey 13 = .ok (.istore_n 2, 1) := by decide +kernel
theorem dX5_breaksKey_14 : decode cX5_breaksKey 14 = .ok (.aload_n 0, 1) := by decide +kernel
theorem dX5_breaksKey_15 : decode cX5_breaksKey 15 = .ok (.iload_n 1, 1) := by decide +kernel
theorem dX5_breaksKey_16 : decode cX5_breaksKey 16 = .ok (.invokevirtual 36, 3) := by decide +kernel
theorem dX5_breaksKey_19 : decode cX5_breaksKey 19 = .ok (.istore_n 3, 1) := by decide +kernel
theorem dX5_breaksKey_20 : decode cX5_breaksKey 20 = .ok (.iconst 0, 1) := by decide +kernel
theorem dX5_breaksKey_21 : decode cX5_breaksKey 21 = .ok (.istore 4, 2) := by decide +kernel
theorem dX5_breaksKey_23 : decode cX5_breaksKey 23 = .ok (.iconst 0, 1) := by decide +kernel
theorem dX5_breaksKey_24 : decode cX5_breaksKey 24 = .ok (.istore 5, 2) := by decide +kernel
theorem dX5_breaksKey_26 : decode cX5_breaksKey 26 = .ok (.iload 5, 2) := by decide +kernel
theorem dX5_breaksKey_28 : decode cX5_breaksKey 28 = .ok (.bipush 48, 2) := by decide +kernel
theorem dX5_breaksKey_30 : decode cX5_breaksKey 30 = .ok (.if_icmp .ge 60, 3) := by decide +kernel
theorem dX5_breaksKey_33 : decode cX5_breaksKey 33 = .ok (.iload_n 3, 1) := by decide +kernel
theorem dX5_breaksKey_34 : decode cX5_breaksKey 34 = .ok (.iconst (-1), 1) := by decide +kernel
theorem dX5_breaksKey_35 : decode cX5_breaksKey 35 = .ok (.if_icmp .eq 55, 3) := by decide +kernel
theorem dX5_breaksKey_38 : decode cX5_breaksKey 38 = .ok (.iload 4, 2) := by decide +kernel
theorem dX5_breaksKey_40 : decode cX5_breaksKey 40 = .ok (.ifCond .ne 50, 3) := by decide +kernel
theorem dX5_breaksKey_43 : decode cX5_breaksKey 43 = .ok (.aload_n 0, 1) := by decide +kernel
theorem dX5_breaksKey_44 : decode cX5_breaksKey 44 = .ok (.iload_n 3, 1) := by decide +kernel
theorem dX5_breaksKey_45 : decode cX5_breaksKey 45 = .ok (.invokevirtual 40, 3) := by decide +kernel
theorem dX5_breaksKey_48 : decode cX5_breaksKey 48 = .ok (.istore 6, 2) := by decide +kernel
theorem dX5_breaksKey_50 : decode cX5_breaksKey 50 = .ok (.iload 6, 2) := by decide +kernel
theorem dX5_breaksKey_52 : decode cX5_breaksKey 52 = .ok (.iconst (-1), 1) := by decide +kernel
theorem dX5_breaksKey_53 : decode cX5_breaksKey 53 = .ok (.if_icmp .eq 25, 3) := by decide +kernel
theorem dX5_breaksKey_56 : decode cX5_breaksKey 56 = .ok (.aload_n 0, 1) := by decide +kernel
theorem dX5_breaksKey_57 : decode cX5_breaksKey 57 = .ok (.iload 6, 2) := by decide +kernel
theorem dX5_breaksKey_59 : decode cX5_breaksKey 59 = .ok (.invokevirtual 52, 3) := by decide +kernel
theorem dX5_breaksKey_62 : decode cX5_breaksKey 62 = .ok (.iload_n 2, 1) := by decide +kernel
theorem dX5_breaksKey_63 : decode cX5_breaksKey 63 = .ok (.ishr, 1) := by decide +kernel
theorem dX5_breaksKey_64 : decode cX5_breaksKey 64 = .ok (.aload_n 0, 1) := by decide +kernel
theorem dX5_breaksKey_65 : decode cX5_breaksKey 65 = .ok (.iload_n 3, 1) := by decide +kernel
theorem dX5_breaksKey_66 : decode cX5_breaksKey 66 = .ok (.invokevirtual 52, 3) := by decide +kernel
theorem dX5_breaksKey_69 : decode cX5_breaksKey 69 = .ok (.iload_n 2, 1) := by decide +kernel
theorem dX5_breaksKey_70 : decode cX5_breaksKey 70 = .ok (.ishr, 1) := by decide +kernel
theorem dX5_breaksKey_71 : decode cX5_breaksKey 71 = .ok (.if_icmp .ne 7, 3) := by decide +kernel
theorem dX5_breaksKey_74 : decode cX5_breaksKey 74 = .ok (.iconst 1, 1) := by decide +kernel
theorem dX5_breaksKey_75 : decode cX5_breaksKey 75 = .ok (.goto 4, 3) := by decide +kernel
theorem dX5_breaksKey_78 : decode cX5_breaksKey 78 = .ok (.iconst 0, 1) := by decide +kernel
theorem dX5_breaksKey_79 : decode cX5_breaksKey 79 = .ok (.istore 4, 2) := by decide +kernel
theorem dX5_breaksKey_81 : decode cX5_breaksKey 81 = .ok (.iload 6, 2) := by decide +kernel
theorem dX5_breaksKey_83 : decode cX5_breaksKey 83 = .ok (.istore_n 3, 1) := by decide +kernel
theorem dX5_breaksKey_84 : decode cX5_breaksKey 84 = .ok (.iinc 5 1, 3) := by decide +kernel
theorem dX5_breaksKey_87 : decode cX5_breaksKey 87 = .ok (.goto (-61), 3) := by decide +kernel
theorem dX5_breaksKey_90 : decode cX5_breaksKey 90 = .ok (.iload 4, 2) := by decide +kernel
theorem dX5_breaksKey_92 : decode cX5_breaksKey 92 = .ok (.ireturn, 1) := by decide +kernel
theorem dX6_init_0 : decode cX6_init 0 = .ok (.aload_n 0, 1) := by decide +kernel
theorem dX6_init_1 : decode cX6_init 1 = .ok (.invokespecial 3, 3) := by decide +kernel
theorem dX6_init_4 : decode cX6_init 4 = .ok (.aload_n 0, 1) := by decide +kernel
theorem dX6_init_5 : decode cX6_init 5 = .ok (.iconst 3, 1) := by decide +kernel
theorem dX6_init_6 : decode cX6_init 6 = .ok (.newarray .int, 2) := by decide +kernel
theorem dX6_init_8 : decode cX6_init 8 = .ok (.putfield 9, 3) := by decide +kernel
theorem dX6_init_11 : decode cX6_init 11 = .ok (.aload_n 0, 1) := by decide +kernel
theorem dX6_init_12 : decode cX6_init 12 = .ok (.iconst 3, 1) := by decide +kernel
theorem dX6_init_13 : decode cX6_init 13 = .ok (.newarray .int, 2) := by decide +kernel
theorem dX6_init_15 : decode cX6_init 15 = .ok (.putfield 15, 3) := by decide +kernel
theorem dX6_init_18 : decode cX6_init 18 = .ok (.return_, 1) := by decide +kernel
theorem dX6_make_0 : decode cX6_make 0 = .ok (.aload_n 0, 1) := by decide +kernel
theorem dX6_make_1 : decode cX6_make 1 = .ok (.iconst 0, 1) := by decide +kernel
theorem dX6_make_2 : decode cX6_make 2 = .ok (.putfield 18, 3) := by decide +kernel
theorem dX6_make_5 : decode cX6_make 5 = .ok (.iconst 0, 1) := by decide +kernel
theorem dX6_make_6 : decode cX6_make 6 = .ok (.istore_n 3, 1) := by decide +kernel
theorem dX6_make_7 : decode cX6_make 7 = .ok (.iconst 0, 1) := by decide +kernel
theorem dX6_make_8 : decode cX6_make 8 = .ok (.istore 4, 2) := by decide +kernel
theorem dX6_make_10 : decode cX6_make 10 = .ok (.iconst 0, 1) := by decide +kernel
theorem dX6_make_11 : decode cX6_make 11 = .ok (.istore 5, 2) := by decide +kernel
theorem dX6_make_13 : decode cX6_make 13 = .ok (.iload 5, 2) := by decide +kernel
theorem dX6_make_15 : decode cX6_make 15 = .ok (.iconst 3, 1) := by decide +kernel
theorem dX6_make_16 : decode cX6_make 16 = .ok (.if_icmp .ge 167, 3) := by decide +kernel
theorem dX6_make_19 : decode cX6_make 19 = .ok (.iconst (-1), 1) := by decide +kernel
theorem dX6_make_20 : decode cX6_make 20 = .ok (.istore 6, 2) := by decide +kernel
theorem dX6_make_22 : decode cX6_make 22 = .ok (.iconst 0, 1) := by decide +kernel
theorem dX6_make_23 : decode cX6_make 23 = .ok (.istore 7, 2) := by decide +kernel
theorem dX6_make_25 : decode cX6_make 25 = .ok (.iconst 0, 1) := by decide +kernel
theorem dX6_make_26 : decode cX6_make 26 = .ok (.istore 8, 2) := by decide +kernel
theorem dX6_make_28 : decode cX6_make 28 = .ok (.iload 8, 2) := by decide +kernel
theorem dX6_make_30 : decode cX6_make 30 = .ok (.aload_n 1, 1) := by decide +kernel
theorem dX6_make_31 : decode cX6_make 31 = .ok (.getfield 22, 3) := by decide +kernel
theorem dX6_make_34 : decode cX6_make 34 = .ok (.if_icmp .ge 90, 3) := by decide +kernel
theorem dX6_make_37 : decode cX6_make 37 = .ok (.aload_n 2, 1) := by decide +kernel
theorem dX6_make_38 : decode cX6_make 38 = .ok (.aload_n 1, 1) := by decide +kernel
theorem dX6_make_39 : decode cX6_make 39 = .ok (.iload 8, 2) := by decide +kernel
theorem dX6_make_41 : decode cX6_make 41 = .ok (.invokevirtual 25, 3) := by decide +kernel
theorem dX6_make_44 : decode cX6_make 44 = .ok (.invokevirtual 29, 3) := by decide +kernel
theorem dX6_make_47 : decode cX6_make 47 = .ok (.istore 9, 2) := by decide +kernel
theorem dX6_make_49 : decode cX6_make 49 = .ok (.aload_n 1, 1) := by decide +kernel
theorem dX6_make_50 : decode cX6_make 50 = .ok (.iload 8, 2) := by decide +kernel
theorem dX6_make_52 : decode cX6_make 52 = .ok (.iload 9, 2) := by decide +kernel
theorem dX6_make_54 : decode cX6_make 54 = .ok (.iload_n 3, 1) := by decide +kernel
theorem dX6_make_55 : decode cX6_make 55 = .ok (.invokevirtual 34, 3) := by decide +kernel
theorem dX6_make_58 : decode cX6_make 58 = .ok (.istore 10, 2) := by decide +kernel
theorem dX6_make_60 : decode cX6_make 60 = .ok (.iload 6, 2) := by decide +kernel
theorem dX6_make_62 : decode cX6_make 62 = .ok (.iconst (-1), 1) := by decide +kernel
theorem dX6_make_63 : decode cX6_make 63 = .ok (.if_icmp .eq 16, 3) := by decide +kernel
theorem dX6_make_66 : decode cX6_make 66 = .ok (.iload 10, 2) := by decide +kernel
theorem dX6_make_68 : decode cX6_make 68 = .ok (.invokestatic 38, 3) := by decide +kernel
theorem dX6_make_71 : decode cX6_make 71 = .ok (.iload 7, 2) := by decide +kernel
theorem dX6_make_73 : decode cX6_make 73 = .ok (.invokestatic 38, 3) := by decide +kernel
theorem dX6_make_76 : decode cX6_make 76 = .ok (.if_icmp .le 7, 3) := by decide +kernel
theorem dX6_make_79 : decode cX6_make 79 = .ok (.iconst 1, 1) := by decide +kernel
theorem dX6_make_80 : decode cX6_make 80 = .ok (.goto 4, 3) := by decide +kernel
theorem dX6_make_83 : decode cX6_make 83 = .ok (.iconst 0, 1) := by decide +kernel
theorem dX6_make_84 : decode cX6_make 84 = .ok (.istore 11, 2) := by decide +kernel
theorem dX6_make_86 : decode cX6_make 86 = .ok (.aload_n 1, 1) := by decide +kernel
theorem dX6_make_87 : decode cX6_make 87 = .ok (.iload 8, 2) := by decide +kernel
theorem dX6_make_89 : decode cX6_make 89 = .ok (.invokevirtual 43, 3) := by decide +kernel
theorem dX6_make_92 : decode cX6_make 92 = .ok (.ifCond .ne 26, 3) := by decide +kernel
theorem dX6_make_95 : decode cX6_make 95 = .ok (.iload 4, 2) := by decide +kernel
theorem dX6_make_97 : decode cX6_make 97 = .ok (.iload 8, 2) := by decide +kernel
theorem dX6_make_99 : decode cX6_make 99 = .ok (.ishr, 1) := by decide +kernel
theorem dX6_make_100 : decode cX6_make 100 = .ok (.iconst 1, 1) := by decide +kernel
theorem dX6_make_101 : decode cX6_make 101 = .ok (.iand, 1) := by decide +kernel
theorem dX6_make_102 : decode cX6_make 102 = .ok (.ifCond .ne 16, 3) := by decide +kernel
theorem dX6_make_105 : decode cX6_make 105 = .ok (.iload 11, 2) := by decide +kernel
theorem dX6_make_107 : decode cX6_make 107 = .ok (.ifCond .eq 11, 3) := by decide +kernel
theorem dX6_make_110 : decode cX6_make 110 = .ok (.iload 8, 2) := by decide +kernel
theorem dX6_make_112 : decode cX6_make 112 = .ok (.istore 6, 2) := by decide +kernel
theorem dX6_make_114 : decode cX6_make 114 = .ok (.iload 10, 2) := by decide +kernel
theorem dX6_make_116 : decode cX6_make 116 = .ok (.istore 7, 2) := by decide +kernel
theorem dX6_make_118 : decode cX6_make 118 = .ok (.iinc 8 1, 3) := by decide +kernel
theorem dX6_make_121 : decode cX6_make 121 = .ok (.goto (-93), 3) := by decide +kernel
theorem dX6_make_124 : decode cX6_make 124 = .ok (.iload 6, 2) := by decide +kernel
theorem dX6_make_126 : decode cX6_make 126 = .ok (.iconst (-1), 1) := by decide +kernel
theorem dX6_make_127 : decode cX6_make 127 = .ok (.if_icmp .eq 50, 3) := by decide +kernel
theorem dX6_make_130 : decode cX6_make 130 = .ok (.aload_n 0, 1) := by decide +kernel
theorem dX6_make_131 : decode cX6_make 131 = .ok (.getfield 9, 3) := by decide +kernel
theorem dX6_make_134 : decode cX6_make 134 = .ok (.iload 5, 2) := by decide +kernel
theorem dX6_make_136 : decode cX6_make 136 = .ok (.iload 6, 2) := by decide +kernel
theorem dX6_make_138 : decode cX6_make 138 = .ok (.iastore, 1) := by decide +kernel
theorem dX6_make_139 : decode cX6_make 139 = .ok (.aload_n 0, 1) := by decide +kernel
theorem dX6_make_140 : decode cX6_make 140 = .ok (.getfield 15, 3) := by decide +kernel
theorem dX6_make_143 : decode cX6_make 143 = .ok (.iload 5, 2) := by decide +kernel
theorem dX6_make_145 : decode cX6_make 145 = .ok (.iload 7, 2) := by decide +kernel
theorem dX6_make_147 : decode cX6_make 147 = .ok (.iastore, 1) := by decide +kernel
theorem dX6_make_148 : decode cX6_make 148 = .ok (.aload_n 0, 1) := by decide +kernel
theorem dX6_make_149 : decode cX6_make 149 = .ok (.dup, 1) := by decide +kernel
theorem dX6_make_150 : decode cX6_make 150 = .ok (.getfield 18, 3) := by decide +kernel
theorem dX6_make_153 : decode cX6_make 153 = .ok (.iconst 1, 1) := by decide +kernel
theorem dX6_make_154 : decode cX6_make 154 = .ok (.iadd, 1) := by decide +kernel
theorem dX6_make_155 : decode cX6_make 155 = .ok (.putfield 18, 3) := by decide +kernel
theorem dX6_make_158 : decode cX6_make 158 = .ok (.iload 4, 2) := by decide +kernel
theorem dX6_make_160 : decode cX6_make 160 = .ok (.iconst 1, 1) := by decide +kernel
theorem dX6_make_161 : decode cX6_make 161 = .ok (.iload 6, 2) := by decide +kernel
theorem dX6_make_163 : decode cX6_make 163 = .ok (.ishl, 1) := by decide +kernel
theorem dX6_make_164 : decode cX6_make 164 = .ok (.ior, 1) := by decide +kernel
theorem dX6_make_165 : decode cX6_make 165 = .ok (.istore 4, 2) := by decide +kernel
theorem dX6_make_167 : decode cX6_make 167 = .ok (.iload_n 3, 1) := by decide +kernel
theorem dX6_make_168 : decode cX6_make 168 = .ok (.aload_n 1, 1) := by decide +kernel
theorem dX6_make_169 : decode cX6_make 169 = .ok (.iload 6, 2) := by decide +kernel
theorem dX6_make_171 : decode cX6_make 171 = .ok (.iconst 0, 1) := by decide +kernel
theorem dX6_make_172 : decode cX6_make 172 = .ok (.invokevirtual 46, 3) := by decide +kernel
theorem dX6_make_175 : decode cX6_make 175 = .ok (.ior, 1) := by decide +kernel
theorem dX6_make_176 : decode cX6_make 176 = .ok (.istore_n 3, 1) := by decide +kernel
theorem dX6_make_177 : decode cX6_make 177 = .ok (.iinc 5 1, 3) := by decide +kernel
theorem dX6_make_180 : decode cX6_make 180 = .ok (.goto (-167), 3) := by decide +kernel
theorem dX6_make_183 : decode cX6_make 183 = .ok (.return_, 1) := by decide +kernel
theorem dX6_placeAt_0 : decode cX6_placeAt 0 = .ok (.iload_n 1, 1) := by decide +kernel
theorem dX6_placeAt_1 : decode cX6_placeAt 1 = .ok (.ifCond .lt 29, 3) := by decide +kernel
theorem dX6_placeAt_4 : decode cX6_placeAt 4 = .ok (.iload_n 1, 1) := by decide +kernel
theorem dX6_placeAt_5 : decode cX6_placeAt 5 = .ok (.aload_n 0, 1) := by decide +kernel
theorem dX6_placeAt_6 : decode cX6_placeAt 6 = .ok (.getfield 18, 3) := by decide +kernel
theorem dX6_placeAt_9 : decode cX6_placeAt 9 = .ok (.if_icmp .ge 21, 3) := by decide +kernel
theorem dX6_placeAt_12 : decode cX6_placeAt 12 = .ok (.iload_n 1, 1) := by decide +kernel
theorem dX6_placeAt_13 : decode cX6_placeAt 13 = .ok (.aload_n 0, 1) := by decide +kernel
theorem dX6_placeAt_14 : decode cX6_placeAt 14 = .ok (.getfield 9, 3) := by decide +kernel
theorem dX6_placeAt_17 : decode cX6_placeAt 17 = .ok (.arraylength, 1) := by decide +kernel
theorem dX6_placeAt_18 : decode cX6_placeAt 18 = .ok (.if_icmp .ge 12, 3) := by decide +kernel
theorem dX6_placeAt_21 : decode cX6_placeAt 21 = .ok (.aload_n 0, 1) := by decide +kernel
theorem dX6_placeAt_22 : decode cX6_placeAt 22 = .ok (.getfield 9, 3) := by decide +kernel
theorem dX6_placeAt_25 : decode cX6_placeAt 25 = .ok (.iload_n 1, 1) := by decide +kernel
theorem dX6_placeAt_26 : decode cX6_placeAt 26 = .ok (.iaload, 1) := by decide +kernel
theorem dX6_placeAt_27 : decode cX6_placeAt 27 = .ok (.goto 4, 3) := by decide +kernel
theorem dX6_placeAt_30 : decode cX6_placeAt 30 = .ok (.iconst (-1), 1) := by decide +kernel
theorem dX6_placeAt_31 : decode cX6_placeAt 31 = .ok (.ireturn, 1) := by decide +kernel
theorem dX6_searchesOf_0 : decode cX6_searchesOf 0 = .ok (.iconst 0, 1) := by decide +kernel
theorem dX6_searchesOf_1 : decode cX6_searchesOf 1 = .ok (.istore_n 3, 1) := by decide +kernel
theorem dX6_searchesOf_2 : decode cX6_searchesOf 2 = .ok (.iconst 0, 1) := by decide +kernel
theorem dX6_searchesOf_3 : decode cX6_searchesOf 3 = .ok (.istore 4, 2) := by decide +kernel
theorem dX6_searchesOf_5 : decode cX6_searchesOf 5 = .ok (.iload 4, 2) := by decide +kernel
theorem dX6_searchesOf_7 : decode cX6_searchesOf 7 = .ok (.aload_n 0, 1) := by decide +kernel
theorem dX6_searchesOf_8 : decode cX6_searchesOf 8 = .ok (.getfield 18, 3) := by decide +kernel
theorem dX6_searchesOf_11 : decode cX6_searchesOf 11 = .ok (.if_icmp .ge 45, 3) := by decide +kernel
theorem dX6_searchesOf_14 : decode cX6_searchesOf 14 = .ok (.iload 4, 2) := by decide +kernel
theorem dX6_searchesOf_16 : decode cX6_searchesOf 16 = .ok (.aload_n 0, 1) := by decide +kernel
theorem dX6_searchesOf_17 : decode cX6_searchesOf 17 = .ok (.getfield 15, 3) := by decide +kernel
theorem dX6_searchesOf_20 : decode cX6_searchesOf 20 = .ok (.arraylength, 1) := by decide +kernel
theorem dX6_searchesOf_21 : decode cX6_searchesOf 21 = .ok (.if_icmp .ge 35, 3) := by decide +kernel
theorem dX6_searchesOf_24 : decode cX6_searchesOf 24 = .ok (.aload_n 1, 1) := by decide +kernel
theorem dX6_searchesOf_25 : decode cX6_searchesOf 25 = .ok (.aload_n 0, 1) := by decide +kernel
theorem dX6_searchesOf_26 : decode cX6_searchesOf 26 = .ok (.iload 4, 2) := by decide +kernel
theorem dX6_searchesOf_28 : decode cX6_searchesOf 28 = .ok (.invokevirtual 50, 3) := by decide +kernel
theorem dX6_searchesOf_31 : decode cX6_searchesOf 31 = .ok (.invokevirtual 25, 3) := by decide +kernel
theorem dX6_searchesOf_34 : decode cX6_searchesOf 34 = .ok (.iload_n 2, 1) := by decide +kernel
theorem dX6_searchesOf_35 : decode cX6_searchesOf 35 = .ok (.if_icmp .ne 15, 3) := by decide +kernel
theorem dX6_searchesOf_38 : decode cX6_searchesOf 38 = .ok (.iload_n 3, 1) := by decide +kernel
theorem dX6_searchesOf_39 : decode cX6_searchesOf 39 = .ok (.iconst 1, 1) := by decide +kernel
theorem dX6_searchesOf_40 : decode cX6_searchesOf 40 = .ok (.aload_n 0, 1) := by decide +kernel
theorem dX6_searchesOf_41 : decode cX6_searchesOf 41 = .ok (.getfield 15, 3) := by decide +kernel
theorem dX6_searchesOf_44 : decode cX6_searchesOf 44 = .ok (.iload 4, 2) := by decide +kernel
theorem dX6_searchesOf_46 : decode cX6_searchesOf 46 = .ok (.iaload, 1) := by decide +kernel
theorem dX6_searchesOf_47 : decode cX6_searchesOf 47 = .ok (.ishl, 1) := by decide +kernel
theorem dX6_searchesOf_48 : decode cX6_searchesOf 48 = .ok (.ior, 1) := by decide +kernel
theorem dX6_searchesOf_49 : decode cX6_searchesOf 49 = .ok (.istore_n 3, 1) := by decide +kernel
theorem dX6_searchesOf_50 : decode cX6_searchesOf 50 = .ok (.iinc 4 1, 3) := by decide +kernel
theorem dX6_searchesOf_53 : decode cX6_searchesOf 53 = .ok (.goto (-48), 3) := by decide +kernel
theorem dX6_searchesOf_56 : decode cX6_searchesOf 56 = .ok (.iload_n 3, 1) := by decide +kernel
theorem dX6_searchesOf_57 : decode cX6_searchesOf 57 = .ok (.bipush (-2), 2) := by decide +kernel
theorem dX6_searchesOf_59 : decode cX6_searchesOf 59 = .ok (.iand, 1) := by decide +kernel
theorem dX6_searchesOf_60 : decode cX6_searchesOf 60 = .ok (.ireturn, 1) := by decide +kernel
theorem dX7_init_0 : decode cX7_init 0 = .ok (.aload_n 0, 1) := by decide +kernel
theorem dX7_init_1 : decode cX7_init 1 = .ok (.invokespecial 3, 3) := by decide +kernel
theorem dX7_init_4 : decode cX7_init 4 = .ok (.aload_n 0, 1) := by decide +kernel
theorem dX7_init_5 : decode cX7_init 5 = .ok (.new 9, 3) := by decide +kernel
theorem dX7_init_8 : decode cX7_init 8 = .ok (.dup, 1) := by decide +kernel
theorem dX7_init_9 : decode cX7_init 9 = .ok (.invokespecial 11, 3) := by decide +kernel
theorem dX7_init_12 : decode cX7_init 12 = .ok (.putfield 12, 3) := by decide +kernel
theorem dX7_init_15 : decode cX7_init 15 = .ok (.aload_n 0, 1) := by decide +kernel
theorem dX7_init_16 : decode cX7_init 16 = .ok (.bipush 12, 2) := by decide +kernel
theorem dX7_init_18 : decode cX7_init 18 = .ok (.anewarray 9, 3) := by decide +kernel
theorem dX7_init_21 : decode cX7_init 21 = .ok (.putfield 18, 3) := by decide +kernel
theorem dX7_init_24 : decode cX7_init 24 = .ok (.aload_n 0, 1) := by decide +kernel
theorem dX7_init_25 : decode cX7_init 25 = .ok (.bipush 6, 2) := by decide +kernel
theorem dX7_init_27 : decode cX7_init 27 = .ok (.anewarray 9, 3) := by decide +kernel
theorem dX7_init_30 : decode cX7_init 30 = .ok (.putfield 22, 3) := by decide +kernel
theorem dX7_init_33 : decode cX7_init 33 = .ok (.aload_n 0, 1) := by decide +kernel
theorem dX7_init_34 : decode cX7_init 34 = .ok (.bipush 10, 2) := by decide +kernel
theorem dX7_init_36 : decode cX7_init 36 = .ok (.newarray .int, 2) := by decide +kernel
theorem dX7_init_38 : decode cX7_init 38 = .ok (.putfield 25, 3) := by decide +kernel
theorem dX7_init_41 : decode cX7_init 41 = .ok (.aload_n 0, 1) := by decide +kernel
theorem dX7_init_42 : decode cX7_init 42 = .ok (.aload_n 1, 1) := by decide +kernel
theorem dX7_init_43 : decode cX7_init 43 = .ok (.putfield 29, 3) := by decide +kernel
theorem dX7_init_46 : decode cX7_init 46 = .ok (.iconst 0, 1) := by decide +kernel
theorem dX7_init_47 : decode cX7_init 47 = .ok (.istore_n 2, 1) := by decide +kernel
theorem dX7_init_48 : decode cX7_init 48 = .ok (.iload_n 2, 1) := by decide +kernel
theorem dX7_init_49 : decode cX7_init 49 = .ok (.aload_n 0, 1) := by decide +kernel
theorem dX7_init_50 : decode cX7_init 50 = .ok (.getfield 18, 3) := by decide +kernel
theorem dX7_init_53 : decode cX7_init 53 = .ok (.arraylength, 1) := by decide +kernel
theorem dX7_init_54 : decode cX7_init 54 = .ok (.if_icmp .ge 22, 3) := by decide +kernel
theorem dX7_init_57 : decode cX7_init 57 = .ok (.aload_n 0, 1) := by decide +kernel
theorem dX7_init_58 : decode cX7_init 58 = .ok (.getfield 18, 3) := by decide +kernel
theorem dX7_init_61 : decode cX7_init 61 = .ok (.iload_n 2, 1) := by decide +kernel
theorem dX7_init_62 : decode cX7_init 62 = .ok (.new 9, 3) := by decide +kernel
theorem dX7_init_65 : decode cX7_init 65 = .ok (.dup, 1) := by decide +kernel
theorem dX7_init_66 : decode cX7_init 66 = .ok (.invokespecial 11, 3) := by decide +kernel
theorem dX7_init_69 : decode cX7_init 69 = .ok (.aastore, 1) := by decide +kernel
theorem dX7_init_70 : decode cX7_init 70 = .ok (.iinc 2 1, 3) := by decide +kernel
theorem dX7_init_73 : decode cX7_init 73 = .ok (.goto (-25), 3) := by decide +kernel
theorem dX7_init_76 : decode cX7_init 76 = .ok (.iconst 0, 1) := by decide +kernel
theorem dX7_init_77 : decode cX7_init 77 = .ok (.istore_n 2, 1) := by decide +kernel
theorem dX7_init_78 : decode cX7_init 78 = .ok (.iload_n 2, 1) := by decide +kernel
theorem dX7_init_79 : decode cX7_init 79 = .ok (.aload_n 0, 1) := by decide +kernel
theorem dX7_init_80 : decode cX7_init 80 = .ok (.getfield 22, 3) := by decide +kernel
theorem dX7_init_83 : decode cX7_init 83 = .ok (.arraylength, 1) := by decide +kernel
theorem dX7_init_84 : decode cX7_init 84 = .ok (.if_icmp .ge 22, 3) := by decide +kernel
theorem dX7_init_87 : decode cX7_init 87 = .ok (.aload_n 0, 1) := by decide +kernel
theorem dX7_init_88 : decode cX7_init 88 = .ok (.getfield 22, 3) := by decide +kernel
theorem dX7_init_91 : decode cX7_init 91 = .ok (.iload_n 2, 1) := by decide +kernel
theorem dX7_init_92 : decode cX7_init 92 = .ok (.new 9, 3) := by decide +kernel
theorem dX7_init_95 : decode cX7_init 95 = .ok (.dup, 1) := by decide +kernel
theorem dX7_init_96 : decode cX7_init 96 = .ok (.invokespecial 11, 3) := by decide +kernel
theorem dX7_init_99 : decode cX7_init 99 = .ok (.aastore, 1) := by decide +kernel
theorem dX7_init_100 : decode cX7_init 100 = .ok (.iinc 2 1, 3) := by decide +kernel
theorem dX7_init_103 : decode cX7_init 103 = .ok (.goto (-25), 3) := by decide +kernel
theorem dX7_init_106 : decode cX7_init 106 = .ok (.return_, 1) := by decide +kernel
theorem dX7_hasRule_0 : decode cX7_hasRule 0 = .ok (.iload_n 1, 1) := by decide +kernel
theorem dX7_hasRule_1 : decode cX7_hasRule 1 = .ok (.ifCond .lt 15, 3) := by decide +kernel
theorem dX7_hasRule_4 : decode cX7_hasRule 4 = .ok (.iload_n 1, 1) := by decide +kernel
theorem dX7_hasRule_5 : decode cX7_hasRule 5 = .ok (.aload_n 0, 1) := by decide +kernel
theorem dX7_hasRule_6 : decode cX7_hasRule 6 = .ok (.getfield 33, 3) := by decide +kernel
theorem dX7_hasRule_9 : decode cX7_hasRule 9 = .ok (.if_icmp .ge 7, 3) := by decide +kernel
theorem dX7_hasRule_12 : decode cX7_hasRule 12 = .ok (.iconst 1, 1) := by decide +kernel
theorem dX7_hasRule_13 : decode cX7_hasRule 13 = .ok (.goto 4, 3) := by decide +kernel
theorem dX7_hasRule_16 : decode cX7_hasRule 16 = .ok (.iconst 0, 1) := by decide +kernel
theorem dX7_hasRule_17 : decode cX7_hasRule 17 = .ok (.ireturn, 1) := by decide +kernel
theorem dX7_rule_0 : decode cX7_rule 0 = .ok (.iload_n 1, 1) := by decide +kernel
theorem dX7_rule_1 : decode cX7_rule 1 = .ok (.ifCond .lt 21, 3) := by decide +kernel
theorem dX7_rule_4 : decode cX7_rule 4 = .ok (.iload_n 1, 1) := by decide +kernel
theorem dX7_rule_5 : decode cX7_rule 5 = .ok (.aload_n 0, 1) := by decide +kernel
theorem dX7_rule_6 : decode cX7_rule 6 = .ok (.getfield 18, 3) := by decide +kernel
theorem dX7_rule_9 : decode cX7_rule 9 = .ok (.arraylength, 1) := by decide +kernel
theorem dX7_rule_10 : decode cX7_rule 10 = .ok (.if_icmp .ge 12, 3) := by decide +kernel
theorem dX7_rule_13 : decode cX7_rule 13 = .ok (.aload_n 0, 1) := by decide +kernel
theorem dX7_rule_14 : decode cX7_rule 14 = .ok (.getfield 18, 3) := by decide +kernel
theorem dX7_rule_17 : decode cX7_rule 17 = .ok (.iload_n 1, 1) := by decide +kernel
theorem dX7_rule_18 : decode cX7_rule 18 = .ok (.aaload, 1) := by decide +kernel
theorem dX7_rule_19 : decode cX7_rule 19 = .ok (.goto 7, 3) := by decide +kernel
theorem dX7_rule_22 : decode cX7_rule 22 = .ok (.aload_n 0, 1) := by decide +kernel
theorem dX7_rule_23 : decode cX7_rule 23 = .ok (.getfield 12, 3) := by decide +kernel
theorem dX7_rule_26 : decode cX7_rule 26 = .ok (.astore_n 2, 1) := by decide +kernel
theorem dX7_rule_27 : decode cX7_rule 27 = .ok (.aload_n 2, 1) := by decide +kernel
theorem dX7_rule_28 : decode cX7_rule 28 = .ok (.ifnonnull 10, 3) := by decide +kernel
theorem dX7_rule_31 : decode cX7_rule 31 = .ok (.aload_n 0, 1) := by decide +kernel
theorem dX7_rule_32 : decode cX7_rule 32 = .ok (.getfield 12, 3) := by decide +kernel
theorem dX7_rule_35 : decode cX7_rule 35 = .ok (.goto 4, 3) := by decide +kernel
theorem dX7_rule_38 : decode cX7_rule 38 = .ok (.aload_n 2, 1) := by decide +kernel
theorem dX7_rule_39 : decode cX7_rule 39 = .ok (.areturn, 1) := by decide +kernel
theorem dX7_denial_0 : decode cX7_denial 0 = .ok (.iload_n 1, 1) := by decide +kernel
theorem dX7_denial_1 : decode cX7_denial 1 = .ok (.ifCond .lt 21, 3) := by decide +kernel
theorem dX7_denial_4 : decode cX7_denial 4 = .ok (.iload_n 1, 1) := by decide +kernel
theorem dX7_denial_5 : decode cX7_denial 5 = .ok (.aload_n 0, 1) := by decide +kernel
theorem dX7_denial_6 : decode cX7_denial 6 = .ok (.getfield 22, 3) := by decide +kernel
theorem dX7_denial_9 : decode cX7_denial 9 = .ok (.arraylength, 1) := by decide +kernel
theorem dX7_denial_10 : decode cX7_denial 10 = .ok (.if_icmp .ge 12, 3) := by decide +kernel
theorem dX7_denial_13 : decode cX7_denial 13 = .ok (.aload_n 0, 1) := by decide +kernel
theorem dX7_denial_14 : decode cX7_denial 14 = .ok (.getfield 22, 3) := by decide +kernel
theorem dX7_denial_17 : decode cX7_denial 17 = .ok (.iload_n 1, 1) := by decide +kernel
theorem dX7_denial_18 : decode cX7_denial 18 = .ok (.aaload, 1) := by decide +kernel
theorem dX7_denial_19 : decode cX7_denial 19 = .ok (.goto 7, 3) := by decide +kernel
theorem dX7_denial_22 : decode cX7_denial 22 = .ok (.aload_n 0, 1) := by decide +kernel
theorem dX7_denial_23 : decode cX7_denial 23 = .ok (.getfield 12, 3) := by decide +kernel
theorem dX7_denial_26 : decode cX7_denial 26 = .ok (.astore_n 2, 1) := by decide +kernel
theorem dX7_denial_27 : decode cX7_denial 27 = .ok (.aload_n 2, 1) := by decide +kernel
theorem dX7_denial_28 : decode cX7_denial 28 = .ok (.ifnonnull 10, 3) := by decide +kernel
theorem dX7_denial_31 : decode cX7_denial 31 = .ok (.aload_n 0, 1) := by decide +kernel
theorem dX7_denial_32 : decode cX7_denial 32 = .ok (.getfield 12, 3) := by decide +kernel
theorem dX7_denial_35 : decode cX7_denial 35 = .ok (.goto 4, 3) := by decide +kernel
theorem dX7_denial_38 : decode cX7_denial 38 = .ok (.aload_n 2, 1) := by decide +kernel
theorem dX7_denial_39 : decode cX7_denial 39 = .ok (.areturn, 1) := by decide +kernel
theorem dX7_rulesLeft_0 : decode cX7_rulesLeft 0 = .ok (.iconst 0, 1) := by decide +kernel
theorem dX7_rulesLeft_1 : decode cX7_rulesLeft 1 = .ok (.istore_n 1, 1) := by decide +kernel
theorem dX7_rulesLeft_2 : decode cX7_rulesLeft 2 = .ok (.iconst 0, 1) := by decide +kernel
theorem dX7_rulesLeft_3 : decode cX7_rulesLeft 3 = .ok (.istore_n 2, 1) := by decide +kernel
theorem dX7_rulesLeft_4 : decode cX7_rulesLeft 4 = .ok (.iload_n 2, 1) := by decide +kernel
theorem dX7_rulesLeft_5 : decode cX7_rulesLeft 5 = .ok (.aload_n 0, 1) := by decide +kernel
theorem dX7_rulesLeft_6 : decode cX7_rulesLeft 6 = .ok (.getfield 33, 3) := by decide +kernel
theorem dX7_rulesLeft_9 : decode cX7_rulesLeft 9 = .ok (.if_icmp .ge 28, 3) := by decide +kernel
theorem dX7_rulesLeft_12 : decode cX7_rulesLeft 12 = .ok (.iload_n 1, 1) := by decide +kernel
theorem dX7_rulesLeft_13 : decode cX7_rulesLeft 13 = .ok (.aload_n 0, 1) := by decide +kernel
theorem dX7_rulesLeft_14 : decode cX7_rulesLeft 14 = .ok (.iload_n 2, 1) := by decide +kernel
theorem dX7_rulesLeft_15 : decode cX7_rulesLeft 15 = .ok (.invokevirtual 37, 3) := by decide +kernel
theorem dX7_rulesLeft_18 : decode cX7_rulesLeft 18 = .ok (.getfield 41, 3) := by decide +kernel
theorem dX7_rulesLeft_21 : decode cX7_rulesLeft 21 = .ok (.ifCond .eq 7, 3) := by decide +kernel
theorem dX7_rulesLeft_24 : decode cX7_rulesLeft 24 = .ok (.iconst 0, 1) := by decide +kernel
theorem dX7_rulesLeft_25 : decode cX7_rulesLeft 25 = .ok (.goto 4, 3) := by decide +kernel
theorem dX7_rulesLeft_28 : decode cX7_rulesLeft 28 = .ok (.iconst 1, 1) := by decide +kernel
theorem dX7_rulesLeft_29 : decode cX7_rulesLeft 29 = .ok (.iadd, 1) := by decide +kernel
theorem dX7_rulesLeft_30 : decode cX7_rulesLeft 30 = .ok (.istore_n 1, 1) := by decide +kernel
theorem dX7_rulesLeft_31 : decode cX7_rulesLeft 31 = .ok (.iinc 2 1, 3) := by decide +kernel
theorem dX7_rulesLeft_34 : decode cX7_rulesLeft 34 = .ok (.goto (-30), 3) := by decide +kernel
theorem dX7_rulesLeft_37 : decode cX7_rulesLeft 37 = .ok (.iload_n 1, 1) := by decide +kernel
theorem dX7_rulesLeft_38 : decode cX7_rulesLeft 38 = .ok (.ireturn, 1) := by decide +kernel
theorem dX7_append_0 : decode cX7_append 0 = .ok (.aload_n 0, 1) := by decide +kernel
theorem dX7_append_1 : decode cX7_append 1 = .ok (.aload_n 0, 1) := by decide +kernel
theorem dX7_append_2 : decode cX7_append 2 = .ok (.getfield 33, 3) := by decide +kernel
theorem dX7_append_5 : decode cX7_append 5 = .ok (.invokevirtual 37, 3) := by decide +kernel
theorem dX7_append_8 : decode cX7_append 8 = .ok (.aload_n 1, 1) := by decide +kernel
theorem dX7_append_9 : decode cX7_append 9 = .ok (.invokevirtual 45, 3) := by decide +kernel
theorem dX7_append_12 : decode cX7_append 12 = .ok (.aload_n 0, 1) := by decide +kernel
theorem dX7_append_13 : decode cX7_append 13 = .ok (.dup, 1) := by decide +kernel
theorem dX7_append_14 : decode cX7_append 14 = .ok (.getfield 33, 3) := by decide +kernel
theorem dX7_append_17 : decode cX7_append 17 = .ok (.iconst 1, 1) := by decide +kernel
theorem dX7_append_18 : decode cX7_append 18 = .ok (.iadd, 1) := by decide +kernel
theorem dX7_append_19 : decode cX7_append 19 = .ok (.putfield 33, 3) := by decide +kernel
theorem dX7_append_22 : decode cX7_append 22 = .ok (.return_, 1) := by decide +kernel
theorem dX7_takeBack_0 : decode cX7_takeBack 0 = .ok (.aload_n 0, 1) := by decide +kernel
theorem dX7_takeBack_1 : decode cX7_takeBack 1 = .ok (.dup, 1) := by decide +kernel
theorem dX7_takeBack_2 : decode cX7_takeBack 2 = .ok (.getfield 33, 3) := by decide +kernel
theorem dX7_takeBack_5 : decode cX7_takeBack 5 = .ok (.iconst 1, 1) := by decide +kernel
theorem dX7_takeBack_6 : decode cX7_takeBack 6 = .ok (.isub, 1) := by decide +kernel
theorem dX7_takeBack_7 : decode cX7_takeBack 7 = .ok (.putfield 33, 3) := by decide +kernel
theorem dX7_takeBack_10 : decode cX7_takeBack 10 = .ok (.aload_n 0, 1) := by decide +kernel
theorem dX7_takeBack_11 : decode cX7_takeBack 11 = .ok (.invokevirtual 49, 3) := by decide +kernel
theorem dX7_takeBack_14 : decode cX7_takeBack 14 = .ok (.pop, 1) := by decide +kernel
theorem dX7_takeBack_15 : decode cX7_takeBack 15 = .ok (.return_, 1) := by decide +kernel
theorem dX7_appendDenial_0 : decode cX7_appendDenial 0 = .ok (.aload_n 0, 1) := by decide +kernel
theorem dX7_appendDenial_1 : decode cX7_appendDenial 1 = .ok (.aload_n 0, 1) := by decide +kernel
theorem dX7_appendDenial_2 : decode cX7_appendDenial 2 = .ok (.getfield 53, 3) := by decide +kernel
theorem dX7_appendDenial_5 : decode cX7_appendDenial 5 = .ok (.invokevirtual 56, 3) := by decide +kernel
theorem dX7_appendDenial_8 : decode cX7_appendDenial 8 = .ok (.aload_n 1, 1) := by decide +kernel
theorem dX7_appendDenial_9 : decode cX7_appendDenial 9 = .ok (.invokevirtual 45, 3) := by decide +kernel
theorem dX7_appendDenial_12 : decode cX7_appendDenial 12 = .ok (.aload_n 0, 1) := by decide +kernel
theorem dX7_appendDenial_13 : decode cX7_appendDenial 13 = .ok (.dup, 1) := by decide +kernel
theorem dX7_appendDenial_14 : decode cX7_appendDenial 14 = .ok (.getfield 53, 3) := by decide +kernel
theorem dX7_appendDenial_17 : decode cX7_appendDenial 17 = .ok (.iconst 1, 1) := by decide +kernel
theorem dX7_appendDenial_18 : decode cX7_appendDenial 18 = .ok (.iadd, 1) := by decide +kernel
theorem dX7_appendDenial_19 : decode cX7_appendDenial 19 = .ok (.putfield 53, 3) := by decide +kernel
theorem dX7_appendDenial_22 : decode cX7_appendDenial 22 = .ok (.return_, 1) := by decide +kernel
theorem dX7_levelOf_0 : decode cX7_levelOf 0 = .ok (.iload_n 1, 1) := by decide +kernel
theorem dX7_levelOf_1 : decode cX7_levelOf 1 = .ok (.ifCond .lt 21, 3) := by decide +kernel
theorem dX7_levelOf_4 : decode cX7_levelOf 4 = .ok (.iload_n 1, 1) := by decide +kernel
theorem dX7_levelOf_5 : decode cX7_levelOf 5 = .ok (.aload_n 0, 1) := by decide +kernel
theorem dX7_levelOf_6 : decode cX7_levelOf 6 = .ok (.getfield 25, 3) := by decide +kernel
theorem dX7_levelOf_9 : decode cX7_levelOf 9 = .ok (.arraylength, 1) := by decide +kernel
theorem dX7_levelOf_10 : decode cX7_levelOf 10 = .ok (.if_icmp .ge 12, 3) := by decide +kernel
theorem dX7_levelOf_13 : decode cX7_levelOf 13 = .ok (.aload_n 0, 1) := by decide +kernel
theorem dX7_levelOf_14 : decode cX7_levelOf 14 = .ok (.getfield 25, 3) := by decide +kernel
theorem dX7_levelOf_17 : decode cX7_levelOf 17 = .ok (.iload_n 1, 1) := by decide +kernel
theorem dX7_levelOf_18 : decode cX7_levelOf 18 = .ok (.iaload, 1) := by decide +kernel
theorem dX7_levelOf_19 : decode cX7_levelOf 19 = .ok (.goto 4, 3) := by decide +kernel
theorem dX7_levelOf_22 : decode cX7_levelOf 22 = .ok (.iconst (-1), 1) := by decide +kernel
theorem dX7_levelOf_23 : decode cX7_levelOf 23 = .ok (.ireturn, 1) := by decide +kernel
theorem dX7_stratify_0 : decode cX7_stratify 0 = .ok (.iconst 0, 1) := by decide +kernel
theorem dX7_stratify_1 : decode cX7_stratify 1 = .ok (.istore_n 1, 1) := by decide +kernel
theorem dX7_stratify_2 : decode cX7_stratify 2 = .ok (.iload_n 1, 1) := by decide +kernel
theorem dX7_stratify_3 : decode cX7_stratify 3 = .ok (.aload_n 0, 1) := by decide +kernel
theorem dX7_stratify_4 : decode cX7_stratify 4 = .ok (.getfield 25, 3) := by decide +kernel
theorem dX7_stratify_7 : decode cX7_stratify 7 = .ok (.arraylength, 1) := by decide +kernel
theorem dX7_stratify_8 : decode cX7_stratify 8 = .ok (.if_icmp .ge 16, 3) := by decide +kernel
theorem dX7_stratify_11 : decode cX7_stratify 11 = .ok (.aload_n 0, 1) := by decide +kernel
theorem dX7_stratify_12 : decode cX7_stratify 12 = .ok (.getfield 25, 3) := by decide +kernel
theorem dX7_stratify_15 : decode cX7_stratify 15 = .ok (.iload_n 1, 1) := by decide +kernel
theorem dX7_stratify_16 : decode cX7_stratify 16 = .ok (.iconst 0, 1) := by decide +kernel
theorem dX7_stratify_17 : decode cX7_stratify 17 = .ok (.iastore, 1) := by decide +kernel
theorem dX7_stratify_18 : decode cX7_stratify 18 = .ok (.iinc 1 1, 3) := by decide +kernel
theorem dX7_stratify_21 : decode cX7_stratify 21 = .ok (.goto (-19), 3) := by decide +kernel
theorem dX7_stratify_24 : decode cX7_stratify 24 = .ok (.aload_n 0, 1) := by decide +kernel
theorem dX7_stratify_25 : decode cX7_stratify 25 = .ok (.iconst 0, 1) := by decide +kernel
theorem dX7_stratify_26 : decode cX7_stratify 26 = .ok (.putfield 59, 3) := by decide +kernel
theorem dX7_stratify_29 : decode cX7_stratify 29 = .ok (.iconst 1, 1) := by decide +kernel
theorem dX7_stratify_30 : decode cX7_stratify 30 = .ok (.istore_n 1, 1) := by decide +kernel
theorem dX7_stratify_31 : decode cX7_stratify 31 = .ok (.iconst 0, 1) := by decide +kernel
theorem dX7_stratify_32 : decode cX7_stratify 32 = .ok (.istore_n 2, 1) := by decide +kernel
theorem dX7_stratify_33 : decode cX7_stratify 33 = .ok (.iload_n 2, 1) := by decide +kernel
theorem dX7_stratify_34 : decode cX7_stratify 34 = .ok (.sipush 10000, 3) := by decide +kernel
theorem dX7_stratify_37 : decode cX7_stratify 37 = .ok (.if_icmp .ge 62, 3) := by decide +kernel
theorem dX7_stratify_40 : decode cX7_stratify 40 = .ok (.iload_n 1, 1) := by decide +kernel
theorem dX7_stratify_41 : decode cX7_stratify 41 = .ok (.ifCond .eq 58, 3) := by decide +kernel
theorem dX7_stratify_44 : decode cX7_stratify 44 = .ok (.aload_n 0, 1) := by decide +kernel
theorem dX7_stratify_45 : decode cX7_stratify 45 = .ok (.getfield 59, 3) := by decide +kernel
theorem dX7_stratify_48 : decode cX7_stratify 48 = .ok (.bipush 10, 2) := by decide +kernel
theorem dX7_stratify_50 : decode cX7_stratify 50 = .ok (.if_icmp .ge 49, 3) := by decide +kernel
theorem dX7_stratify_53 : decode cX7_stratify 53 = .ok (.iconst 0, 1) := by decide +kernel
theorem dX7_stratify_54 : decode cX7_stratify 54 = .ok (.istore_n 1, 1) := by decide +kernel
theorem dX7_stratify_55 : decode cX7_stratify 55 = .ok (.iconst 0, 1) := by decide +kernel
theorem dX7_stratify_56 : decode cX7_stratify 56 = .ok (.istore_n 3, 1) := by decide +kernel
theorem dX7_stratify_57 : decode cX7_stratify 57 = .ok (.iload_n 3, 1) := by decide +kernel
theorem dX7_stratify_58 : decode cX7_stratify 58 = .ok (.aload_n 0, 1) := by decide +kernel
theorem dX7_stratify_59 : decode cX7_stratify 59 = .ok (.getfield 33, 3) := by decide +kernel
theorem dX7_stratify_62 : decode cX7_stratify 62 = .ok (.if_icmp .ge 31, 3) := by decide +kernel
theorem dX7_stratify_65 : decode cX7_stratify 65 = .ok (.aload_n 0, 1) := by decide +kernel
theorem dX7_stratify_66 : decode cX7_stratify 66 = .ok (.aload_n 0, 1) := by decide +kernel
theorem dX7_stratify_67 : decode cX7_stratify 67 = .ok (.iload_n 3, 1) := by decide +kernel
theorem dX7_stratify_68 : decode cX7_stratify 68 = .ok (.invokevirtual 37, 3) := by decide +kernel
theorem dX7_stratify_71 : decode cX7_stratify 71 = .ok (.invokevirtual 62, 3) := by decide +kernel
theorem dX7_stratify_74 : decode cX7_stratify 74 = .ok (.ifCond .ne 7, 3) := by decide +kernel
theorem dX7_stratify_77 : decode cX7_stratify 77 = .ok (.iload_n 1, 1) := by decide +kernel
theorem dX7_stratify_78 : decode cX7_stratify 78 = .ok (.ifCond .eq 7, 3) := by decide +kernel
theorem dX7_stratify_81 : decode cX7_stratify 81 = .ok (.iconst 1, 1) := by decide +kernel
theorem dX7_stratify_82 : decode cX7_stratify 82 = .ok (.goto 4, 3) := by decide +kernel
theorem dX7_stratify_85 : decode cX7_stratify 85 = .ok (.iconst 0, 1) := by decide +kernel
theorem dX7_stratify_86 : decode cX7_stratify 86 = .ok (.istore_n 1, 1) := by decide +kernel
theorem dX7_stratify_87 : decode cX7_stratify 87 = .ok (.iinc 3 1, 3) := by decide +kernel
theorem dX7_stratify_90 : decode cX7_stratify 90 = .ok (.goto (-33), 3) := by decide +kernel
theorem dX7_stratify_93 : decode cX7_stratify 93 = .ok (.iinc 2 1, 3) := by decide +kernel
theorem dX7_stratify_96 : decode cX7_stratify 96 = .ok (.goto (-63), 3) := by decide +kernel
theorem dX7_stratify_99 : decode cX7_stratify 99 = .ok (.aload_n 0, 1) := by decide +kernel
theorem dX7_stratify_100 : decode cX7_stratify 100 = .ok (.getfield 59, 3) := by decide +kernel
theorem dX7_stratify_103 : decode cX7_stratify 103 = .ok (.bipush 10, 2) := by decide +kernel
theorem dX7_stratify_105 : decode cX7_stratify 105 = .ok (.if_icmp .ge 7, 3) := by decide +kernel
theorem dX7_stratify_108 : decode cX7_stratify 108 = .ok (.iconst 1, 1) := by decide +kernel
theorem dX7_stratify_109 : decode cX7_stratify 109 = .ok (.goto 4, 3) := by decide +kernel
theorem dX7_stratify_112 : decode cX7_stratify 112 = .ok (.iconst 0, 1) := by decide +kernel
theorem dX7_stratify_113 : decode cX7_stratify 113 = .ok (.ireturn, 1) := by decide +kernel
theorem dX7_raise_0 : decode cX7_raise 0 = .ok (.aload_n 1, 1) := by decide +kernel
theorem dX7_raise_1 : decode cX7_raise 1 = .ok (.getfield 66, 3) := by decide +kernel
theorem dX7_raise_4 : decode cX7_raise 4 = .ok (.istore_n 2, 1) := by decide +kernel
theorem dX7_raise_5 : decode cX7_raise 5 = .ok (.iconst 0, 1) := by decide +kernel
theorem dX7_raise_6 : decode cX7_raise 6 = .ok (.istore_n 3, 1) := by decide +kernel
theorem dX7_raise_7 : decode cX7_raise 7 = .ok (.iconst 0, 1) := by decide +kernel
theorem dX7_raise_8 : decode cX7_raise 8 = .ok (.istore 4, 2) := by decide +kernel
theorem dX7_raise_10 : decode cX7_raise 10 = .ok (.iload 4, 2) := by decide +kernel
theorem dX7_raise_12 : decode cX7_raise 12 = .ok (.aload_n 1, 1) := by decide +kernel
theorem dX7_raise_13 : decode cX7_raise 13 = .ok (.getfield 69, 3) := by decide +kernel
theorem dX7_raise_16 : decode cX7_raise 16 = .ok (.if_icmp .ge 100, 3) := by decide +kernel
theorem dX7_raise_19 : decode cX7_raise 19 = .ok (.aload_n 1, 1) := by decide +kernel
theorem dX7_raise_20 : decode cX7_raise 20 = .ok (.getfield 41, 3) := by decide +kernel
theorem dX7_raise_23 : decode cX7_raise 23 = .ok (.ifCond .ne 93, 3) := by decide +kernel
theorem dX7_raise_26 : decode cX7_raise 26 = .ok (.aload_n 1, 1) := by decide +kernel
theorem dX7_raise_27 : decode cX7_raise 27 = .ok (.iload 4, 2) := by decide +kernel
theorem dX7_raise_29 : decode cX7_raise 29 = .ok (.invokevirtual 72, 3) := by decide +kernel
theorem dX7_raise_32 : decode cX7_raise 32 = .ok (.ifCond .eq 78, 3) := by decide +kernel
theorem dX7_raise_35 : decode cX7_raise 35 = .ok (.iload_n 2, 1) := by decide +kernel
theorem dX7_raise_36 : decode cX7_raise 36 = .ok (.ifCond .lt 74, 3) := by decide +kernel
theorem dX7_raise_39 : decode cX7_raise 39 = .ok (.iload_n 2, 1) := by decide +kernel
theorem dX7_raise_40 : decode cX7_raise 40 = .ok (.aload_n 0, 1) := by decide +kernel
theorem dX7_raise_41 : decode cX7_raise 41 = .ok (.getfield 25, 3) := by decide +kernel
theorem dX7_raise_44 : decode cX7_raise 44 = .ok (.arraylength, 1) := by decide +kernel
theorem dX7_raise_45 : decode cX7_raise 45 = .ok (.if_icmp .ge 65, 3) := by decide +kernel
theorem dX7_raise_48 : decode cX7_raise 48 = .ok (.aload_n 0, 1) := by decide +kernel
theorem dX7_raise_49 : decode cX7_raise 49 = .ok (.aload_n 1, 1) := by decide +kernel
theorem dX7_raise_50 : decode cX7_raise 50 = .ok (.iload 4, 2) := by decide +kernel
theorem dX7_raise_52 : decode cX7_raise 52 = .ok (.invokevirtual 76, 3) := by decide +kernel
theorem dX7_raise_55 : decode cX7_raise 55 = .ok (.invokevirtual 80, 3) := by decide +kernel
theorem dX7_raise_58 : decode cX7_raise 58 = .ok (.aload_n 0, 1) := by decide +kernel
theorem dX7_raise_59 : decode cX7_raise 59 = .ok (.aload_n 1, 1) := by decide +kernel
theorem dX7_raise_60 : decode cX7_raise 60 = .ok (.iload 4, 2) := by decide +kernel
theorem dX7_raise_62 : decode cX7_raise 62 = .ok (.invokevirtual 83, 3) := by decide +kernel
theorem dX7_raise_65 : decode cX7_raise 65 = .ok (.ifCond .eq 7, 3) := by decide +kernel
theorem dX7_raise_68 : decode cX7_raise 68 = .ok (.iconst 1, 1) := by decide +kernel
theorem dX7_raise_69 : decode cX7_raise 69 = .ok (.goto 4, 3) := by decide +kernel
theorem dX7_raise_72 : decode cX7_raise 72 = .ok (.iconst 0, 1) := by decide +kernel
theorem dX7_raise_73 : decode cX7_raise 73 = .ok (.iadd, 1) := by decide +kernel
theorem dX7_raise_74 : decode cX7_raise 74 = .ok (.istore 5, 2) := by decide +kernel
theorem dX7_raise_76 : decode cX7_raise 76 = .ok (.aload_n 0, 1) := by decide +kernel
theorem dX7_raise_77 : decode cX7_raise 77 = .ok (.getfield 25, 3) := by decide +kernel
theorem dX7_raise_80 : decode cX7_raise 80 = .ok (.iload_n 2, 1) := by decide +kernel
theorem dX7_raise_81 : decode cX7_raise 81 = .ok (.iaload, 1) := by decide +kernel
theorem dX7_raise_82 : decode cX7_raise 82 = .ok (.iload 5, 2) := by decide +kernel
theorem dX7_raise_84 : decode cX7_raise 84 = .ok (.if_icmp .ge 26, 3) := by decide +kernel
theorem dX7_raise_87 : decode cX7_raise 87 = .ok (.aload_n 0, 1) := by decide +kernel
theorem dX7_raise_88 : decode cX7_raise 88 = .ok (.getfield 25, 3) := by decide +kernel
theorem dX7_raise_91 : decode cX7_raise 91 = .ok (.iload_n 2, 1) := by decide +kernel
theorem dX7_raise_92 : decode cX7_raise 92 = .ok (.iload 5, 2) := by decide +kernel
theorem dX7_raise_94 : decode cX7_raise 94 = .ok (.iastore, 1) := by decide +kernel
theorem dX7_raise_95 : decode cX7_raise 95 = .ok (.aload_n 0, 1) := by decide +kernel
theorem dX7_raise_96 : decode cX7_raise 96 = .ok (.aload_n 0, 1) := by decide +kernel
theorem dX7_raise_97 : decode cX7_raise 97 = .ok (.getfield 59, 3) := by decide +kernel
theorem dX7_raise_100 : decode cX7_raise 100 = .ok (.iload 5, 2) := by decide +kernel
theorem dX7_raise_102 : decode cX7_raise 102 = .ok (.invokestatic 87, 3) := by decide +kernel
theorem dX7_raise_105 : decode cX7_raise 105 = .ok (.putfield 59, 3) := by decide +kernel
theorem dX7_raise_108 : decode cX7_raise 108 = .ok (.iconst 1, 1) := by decide +kernel
theorem dX7_raise_109 : decode cX7_raise 109 = .ok (.istore_n 3, 1) := by decide +kernel
theorem dX7_raise_110 : decode cX7_raise 110 = .ok (.iinc 4 1, 3) := by decide +kernel
theorem dX7_raise_113 : decode cX7_raise 113 = .ok (.goto (-103), 3) := by decide +kernel
theorem dX7_raise_116 : decode cX7_raise 116 = .ok (.iload_n 3, 1) := by decide +kernel
theorem dX7_raise_117 : decode cX7_raise 117 = .ok (.ireturn, 1) := by decide +kernel
theorem dX7_isAbove_0 : decode cX7_isAbove 0 = .ok (.aload_n 1, 1) := by decide +kernel
theorem dX7_isAbove_1 : decode cX7_isAbove 1 = .ok (.iload_n 2, 1) := by decide +kernel
theorem dX7_isAbove_2 : decode cX7_isAbove 2 = .ok (.invokevirtual 93, 3) := by decide +kernel
theorem dX7_isAbove_5 : decode cX7_isAbove 5 = .ok (.iconst 1, 1) := by decide +kernel
theorem dX7_isAbove_6 : decode cX7_isAbove 6 = .ok (.if_icmp .eq 27, 3) := by decide +kernel
theorem dX7_isAbove_9 : decode cX7_isAbove 9 = .ok (.aload_n 0, 1) := by decide +kernel
theorem dX7_isAbove_10 : decode cX7_isAbove 10 = .ok (.getfield 29, 3) := by decide +kernel
theorem dX7_isAbove_13 : decode cX7_isAbove 13 = .ok (.aload_n 1, 1) := by decide +kernel
theorem dX7_isAbove_14 : decode cX7_isAbove 14 = .ok (.iload_n 2, 1) := by decide +kernel
theorem dX7_isAbove_15 : decode cX7_isAbove 15 = .ok (.invokevirtual 76, 3) := by decide +kernel
theorem dX7_isAbove_18 : decode cX7_isAbove 18 = .ok (.invokevirtual 96, 3) := by decide +kernel
theorem dX7_isAbove_21 : decode cX7_isAbove 21 = .ok (.ifCond .eq 16, 3) := by decide +kernel
theorem dX7_isAbove_24 : decode cX7_isAbove 24 = .ok (.aload_n 0, 1) := by decide +kernel
theorem dX7_isAbove_25 : decode cX7_isAbove 25 = .ok (.aload_n 1, 1) := by decide +kernel
theorem dX7_isAbove_26 : decode cX7_isAbove 26 = .ok (.iload_n 2, 1) := by decide +kernel
theorem dX7_isAbove_27 : decode cX7_isAbove 27 = .ok (.invokevirtual 101, 3) := by decide +kernel
theorem dX7_isAbove_30 : decode cX7_isAbove 30 = .ok (.ifCond .ne 7, 3) := by decide +kernel
theorem dX7_isAbove_33 : decode cX7_isAbove 33 = .ok (.iconst 1, 1) := by decide +kernel
theorem dX7_isAbove_34 : decode cX7_isAbove 34 = .ok (.goto 4, 3) := by decide +kernel
theorem dX7_isAbove_37 : decode cX7_isAbove 37 = .ok (.iconst 0, 1) := by decide +kernel
theorem dX7_isAbove_38 : decode cX7_isAbove 38 = .ok (.ireturn, 1) := by decide +kernel
theorem dX7_grows_0 : decode cX7_grows 0 = .ok (.aload_n 1, 1) := by decide +kernel
theorem dX7_grows_1 : decode cX7_grows 1 = .ok (.iload_n 2, 1) := by decide +kernel
theorem dX7_grows_2 : decode cX7_grows 2 = .ok (.invokevirtual 76, 3) := by decide +kernel
theorem dX7_grows_5 : decode cX7_grows 5 = .ok (.istore_n 3, 1) := by decide +kernel
theorem dX7_grows_6 : decode cX7_grows 6 = .ok (.aload_n 0, 1) := by decide +kernel
theorem dX7_grows_7 : decode cX7_grows 7 = .ok (.getfield 29, 3) := by decide +kernel
theorem dX7_grows_10 : decode cX7_grows 10 = .ok (.iload_n 3, 1) := by decide +kernel
theorem dX7_grows_11 : decode cX7_grows 11 = .ok (.invokevirtual 96, 3) := by decide +kernel
theorem dX7_grows_14 : decode cX7_grows 14 = .ok (.istore 4, 2) := by decide +kernel
theorem dX7_grows_16 : decode cX7_grows 16 = .ok (.aload_n 1, 1) := by decide +kernel
theorem dX7_grows_17 : decode cX7_grows 17 = .ok (.iload_n 2, 1) := by decide +kernel
theorem dX7_grows_18 : decode cX7_grows 18 = .ok (.aload_n 0, 1) := by decide +kernel
theorem dX7_grows_19 : decode cX7_grows 19 = .ok (.getfield 29, 3) := by decide +kernel
theorem dX7_grows_22 : decode cX7_grows 22 = .ok (.iload_n 3, 1) := by decide +kernel
theorem dX7_grows_23 : decode cX7_grows 23 = .ok (.invokevirtual 104, 3) := by decide +kernel
theorem dX7_grows_26 : decode cX7_grows 26 = .ok (.iconst 1, 1) := by decide +kernel
theorem dX7_grows_27 : decode cX7_grows 27 = .ok (.isub, 1) := by decide +kernel
theorem dX7_grows_28 : decode cX7_grows 28 = .ok (.invokevirtual 107, 3) := by decide +kernel
theorem dX7_grows_31 : decode cX7_grows 31 = .ok (.istore 5, 2) := by decide +kernel
theorem dX7_grows_33 : decode cX7_grows 33 = .ok (.aload_n 1, 1) := by decide +kernel
theorem dX7_grows_34 : decode cX7_grows 34 = .ok (.iload 5, 2) := by decide +kernel
theorem dX7_grows_36 : decode cX7_grows 36 = .ok (.invokevirtual 110, 3) := by decide +kernel
theorem dX7_grows_39 : decode cX7_grows 39 = .ok (.istore 6, 2) := by decide +kernel
theorem dX7_grows_41 : decode cX7_grows 41 = .ok (.iload 5, 2) := by decide +kernel
theorem dX7_grows_43 : decode cX7_grows 43 = .ok (.ifCond .ge 9, 3) := by decide +kernel
theorem dX7_grows_46 : decode cX7_grows 46 = .ok (.iload 6, 2) := by decide +kernel
theorem dX7_grows_48 : decode cX7_grows 48 = .ok (.iconst 2, 1) := by decide +kernel
theorem dX7_grows_49 : decode cX7_grows 49 = .ok (.if_icmp .le 5, 3) := by decide +kernel
theorem dX7_grows_52 : decode cX7_grows 52 = .ok (.iconst 0, 1) := by decide +kernel
theorem dX7_grows_53 : decode cX7_grows 53 = .ok (.ireturn, 1) := by decide +kernel
theorem dX7_grows_54 : decode cX7_grows 54 = .ok (.aload_n 0, 1) := by decide +kernel
theorem dX7_grows_55 : decode cX7_grows 55 = .ok (.getfield 29, 3) := by decide +kernel
theorem dX7_grows_58 : decode cX7_grows 58 = .ok (.aload_n 1, 1) := by decide +kernel
theorem dX7_grows_59 : decode cX7_grows 59 = .ok (.getfield 66, 3) := by decide +kernel
theorem dX7_grows_62 : decode cX7_grows 62 = .ok (.invokevirtual 96, 3) := by decide +kernel
theorem dX7_grows_65 : decode cX7_grows 65 = .ok (.iload 4, 2) := by decide +kernel
theorem dX7_grows_67 : decode cX7_grows 67 = .ok (.if_icmp .ne 7, 3) := by decide +kernel
theorem dX7_grows_70 : decode cX7_grows 70 = .ok (.iconst 1, 1) := by decide +kernel
theorem dX7_grows_71 : decode cX7_grows 71 = .ok (.goto 4, 3) := by decide +kernel
theorem dX7_grows_74 : decode cX7_grows 74 = .ok (.iconst 0, 1) := by decide +kernel
theorem dX7_grows_75 : decode cX7_grows 75 = .ok (.istore 7, 2) := by decide +kernel
theorem dX7_grows_77 : decode cX7_grows 77 = .ok (.aload_n 1, 1) := by decide +kernel
theorem dX7_grows_78 : decode cX7_grows 78 = .ok (.iconst 5, 1) := by decide +kernel
theorem dX7_grows_79 : decode cX7_grows 79 = .ok (.aload_n 0, 1) := by decide +kernel
theorem dX7_grows_80 : decode cX7_grows 80 = .ok (.getfield 29, 3) := by decide +kernel
theorem dX7_grows_83 : decode cX7_grows 83 = .ok (.aload_n 1, 1) := by decide +kernel
theorem dX7_grows_84 : decode cX7_grows 84 = .ok (.getfield 66, 3) := by decide +kernel
theorem dX7_grows_87 : decode cX7_grows 87 = .ok (.invokevirtual 104, 3) := by decide +kernel
theorem dX7_grows_90 : decode cX7_grows 90 = .ok (.iconst 1, 1) := by decide +kernel
theorem dX7_grows_91 : decode cX7_grows 91 = .ok (.isub, 1) := by decide +kernel
theorem dX7_grows_92 : decode cX7_grows 92 = .ok (.invokevirtual 107, 3) := by decide +kernel
theorem dX7_grows_95 : decode cX7_grows 95 = .ok (.istore 8, 2) := by decide +kernel
theorem dX7_grows_97 : decode cX7_grows 97 = .ok (.iload 4, 2) := by decide +kernel
theorem dX7_grows_99 : decode cX7_grows 99 = .ok (.iconst 3, 1) := by decide +kernel
theorem dX7_grows_100 : decode cX7_grows 100 = .ok (.if_icmp .ne 7, 3) := by decide +kernel
theorem dX7_grows_103 : decode cX7_grows 103 = .ok (.iconst 0, 1) := by decide +kernel
theorem dX7_grows_104 : decode cX7_grows 104 = .ok (.goto 9, 3) := by decide +kernel
theorem dX7_grows_107 : decode cX7_grows 107 = .ok (.aload_n 1, 1) := by decide +kernel
theorem dX7_grows_108 : decode cX7_grows 108 = .ok (.iload 5, 2) := by decide +kernel
theorem dX7_grows_110 : decode cX7_grows 110 = .ok (.invokevirtual 113, 3) := by decide +kernel
theorem dX7_grows_113 : decode cX7_grows 113 = .ok (.istore 9, 2) := by decide +kernel
theorem dX7_grows_115 : decode cX7_grows 115 = .ok (.iload 6, 2) := by decide +kernel
theorem dX7_grows_117 : decode cX7_grows 117 = .ok (.iconst 1, 1) := by decide +kernel
theorem dX7_grows_118 : decode cX7_grows 118 = .ok (.if_icmp .eq 42, 3) := by decide +kernel
theorem dX7_grows_121 : decode cX7_grows 121 = .ok (.iload 7, 2) := by decide +kernel
theorem dX7_grows_123 : decode cX7_grows 123 = .ok (.ifCond .eq 10, 3) := by decide +kernel
theorem dX7_grows_126 : decode cX7_grows 126 = .ok (.iload 8, 2) := by decide +kernel
theorem dX7_grows_128 : decode cX7_grows 128 = .ok (.iload 5, 2) := by decide +kernel
theorem dX7_grows_130 : decode cX7_grows 130 = .ok (.if_icmp .eq 30, 3) := by decide +kernel
theorem dX7_grows_133 : decode cX7_grows 133 = .ok (.iload 7, 2) := by decide +kernel
theorem dX7_grows_135 : decode cX7_grows 135 = .ok (.ifCond .eq 29, 3) := by decide +kernel
theorem dX7_grows_138 : decode cX7_grows 138 = .ok (.iload 9, 2) := by decide +kernel
theorem dX7_grows_140 : decode cX7_grows 140 = .ok (.ifCond .ge 24, 3) := by decide +kernel
theorem dX7_grows_143 : decode cX7_grows 143 = .ok (.iload 8, 2) := by decide +kernel
theorem dX7_grows_145 : decode cX7_grows 145 = .ok (.iload 9, 2) := by decide +kernel
theorem dX7_grows_147 : decode cX7_grows 147 = .ok (.if_icmp .ne 17, 3) := by decide +kernel
theorem dX7_grows_150 : decode cX7_grows 150 = .ok (.aload_n 1, 1) := by decide +kernel
theorem dX7_grows_151 : decode cX7_grows 151 = .ok (.iload 9, 2) := by decide +kernel
theorem dX7_grows_153 : decode cX7_grows 153 = .ok (.invokevirtual 110, 3) := by decide +kernel
theorem dX7_grows_156 : decode cX7_grows 156 = .ok (.iconst 2, 1) := by decide +kernel
theorem dX7_grows_157 : decode cX7_grows 157 = .ok (.if_icmp .ne 7, 3) := by decide +kernel
theorem dX7_grows_160 : decode cX7_grows 160 = .ok (.iconst 1, 1) := by decide +kernel
theorem dX7_grows_161 : decode cX7_grows 161 = .ok (.goto 4, 3) := by decide +kernel
theorem dX7_grows_164 : decode cX7_grows 164 = .ok (.iconst 0, 1) := by decide +kernel
theorem dX7_grows_165 : decode cX7_grows 165 = .ok (.ireturn, 1) := by decide +kernel
theorem dX8_init_0 : decode cX8_init 0 = .ok (.aload_n 0, 1) := by decide +kernel
theorem dX8_init_1 : decode cX8_init 1 = .ok (.invokespecial 3, 3) := by decide +kernel
theorem dX8_init_4 : decode cX8_init 4 = .ok (.aload_n 0, 1) := by decide +kernel
theorem dX8_init_5 : decode cX8_init 5 = .ok (.bipush 10, 2) := by decide +kernel
theorem dX8_init_7 : decode cX8_init 7 = .ok (.newarray .int, 2) := by decide +kernel
theorem dX8_init_9 : decode cX8_init 9 = .ok (.putfield 9, 3) := by decide +kernel
theorem dX8_init_12 : decode cX8_init 12 = .ok (.aload_n 0, 1) := by decide +kernel
theorem dX8_init_13 : decode cX8_init 13 = .ok (.bipush 10, 2) := by decide +kernel
theorem dX8_init_15 : decode cX8_init 15 = .ok (.newarray .int, 2) := by decide +kernel
theorem dX8_init_17 : decode cX8_init 17 = .ok (.putfield 15, 3) := by decide +kernel
theorem dX8_init_20 : decode cX8_init 20 = .ok (.aload_n 0, 1) := by decide +kernel
theorem dX8_init_21 : decode cX8_init 21 = .ok (.bipush 10, 2) := by decide +kernel
theorem dX8_init_23 : decode cX8_init 23 = .ok (.newarray .int, 2) := by decide +kernel
theorem dX8_init_25 : decode cX8_init 25 = .ok (.putfield 18, 3) := by decide +kernel
theorem dX8_init_28 : decode cX8_init 28 = .ok (.aload_n 0, 1) := by decide +kernel
theorem dX8_init_29 : decode cX8_init 29 = .ok (.bipush 10, 2) := by decide +kernel
theorem dX8_init_31 : decode cX8_init 31 = .ok (.newarray .int, 2) := by decide +kernel
theorem dX8_init_33 : decode cX8_init 33 = .ok (.putfield 21, 3) := by decide +kernel
theorem dX8_init_36 : decode cX8_init 36 = .ok (.return_, 1) := by decide +kernel
theorem dX8_note_0 : decode cX8_note 0 = .ok (.iload_n 1, 1) := by decide +kernel
theorem dX8_note_1 : decode cX8_note 1 = .ok (.ifCond .lt 56, 3) := by decide +kernel
theorem dX8_note_4 : decode cX8_note 4 = .ok (.iload_n 1, 1) := by decide +kernel
theorem dX8_note_5 : decode cX8_note 5 = .ok (.bipush 10, 2) := by decide +kernel
theorem dX8_note_7 : decode cX8_note 7 = .ok (.if_icmp .ge 50, 3) := by decide +kernel
theorem dX8_note_10 : decode cX8_note 10 = .ok (.aload_n 0, 1) := by decide +kernel
theorem dX8_note_11 : decode cX8_note 11 = .ok (.getfield 9, 3) := by decide +kernel
theorem dX8_note_14 : decode cX8_note 14 = .ok (.iload_n 1, 1) := by decide +kernel
theorem dX8_note_15 : decode cX8_note 15 = .ok (.iload_n 2, 1) := by decide +kernel
theorem dX8_note_16 : decode cX8_note 16 = .ok (.iastore, 1) := by decide +kernel
theorem dX8_note_17 : decode cX8_note 17 = .ok (.aload_n 0, 1) := by decide +kernel
theorem dX8_note_18 : decode cX8_note 18 = .ok (.getfield 15, 3) := by decide +kernel
theorem dX8_note_21 : decode cX8_note 21 = .ok (.iload_n 1, 1) := by decide +kernel
theorem dX8_note_22 : decode cX8_note 22 = .ok (.iload_n 3, 1) := by decide +kernel
theorem dX8_note_23 : decode cX8_note 23 = .ok (.iastore, 1) := by decide +kernel
theorem dX8_note_24 : decode cX8_note 24 = .ok (.aload_n 0, 1) := by decide +kernel
theorem dX8_note_25 : decode cX8_note 25 = .ok (.getfield 18, 3) := by decide +kernel
theorem dX8_note_28 : decode cX8_note 28 = .ok (.iload_n 1, 1) := by decide +kernel
theorem dX8_note_29 : decode cX8_note 29 = .ok (.iload 4, 2) := by decide +kernel
theorem dX8_note_31 : decode cX8_note 31 = .ok (.iastore, 1) := by decide +kernel
theorem dX8_note_32 : decode cX8_note 32 = .ok (.aload_n 0, 1) := by decide +kernel
theorem dX8_note_33 : decode cX8_note 33 = .ok (.getfield 21, 3) := by decide +kernel
theorem dX8_note_36 : decode cX8_note 36 = .ok (.iload_n 1, 1) := by decide +kernel
theorem dX8_note_37 : decode cX8_note 37 = .ok (.iload_n 3, 1) := by decide +kernel
theorem dX8_note_38 : decode cX8_note 38 = .ok (.ifCond .ne 7, 3) := by decide +kernel
theorem dX8_note_41 : decode cX8_note 41 = .ok (.iconst (-1), 1) := by decide +kernel
theorem dX8_note_42 : decode cX8_note 42 = .ok (.goto 14, 3) := by decide +kernel
theorem dX8_note_45 : decode cX8_note 45 = .ok (.bipush 127, 2) := by decide +kernel
theorem dX8_note_47 : decode cX8_note 47 = .ok (.iload_n 2, 1) := by decide +kernel
theorem dX8_note_48 : decode cX8_note 48 = .ok (.iconst 1, 1) := by decide +kernel
theorem dX8_note_49 : decode cX8_note 49 = .ok (.isub, 1) := by decide +kernel
theorem dX8_note_50 : decode cX8_note 50 = .ok (.invokestatic 24, 3) := by decide +kernel
theorem dX8_note_53 : decode cX8_note 53 = .ok (.ishl, 1) := by decide +kernel
theorem dX8_note_54 : decode cX8_note 54 = .ok (.iconst (-1), 1) := by decide +kernel
theorem dX8_note_55 : decode cX8_note 55 = .ok (.ixor, 1) := by decide +kernel
theorem dX8_note_56 : decode cX8_note 56 = .ok (.iastore, 1) := by decide +kernel
theorem dX8_note_57 : decode cX8_note 57 = .ok (.return_, 1) := by decide +kernel
theorem dX8_isDeclared_0 : decode cX8_isDeclared 0 = .ok (.aload_n 0, 1) := by decide +kernel
theorem dX8_isDeclared_1 : decode cX8_isDeclared 1 = .ok (.iload_n 1, 1) := by decide +kernel
theorem dX8_isDeclared_2 : decode cX8_isDeclared 2 = .ok (.invokevirtual 28, 3) := by decide +kernel
theorem dX8_isDeclared_5 : decode cX8_isDeclared 5 = .ok (.ifCond .le 7, 3) := by decide +kernel
theorem dX8_isDeclared_8 : decode cX8_isDeclared 8 = .ok (.iconst 1, 1) := by decide +kernel
theorem dX8_isDeclared_9 : decode cX8_isDeclared 9 = .ok (.goto 4, 3) := by decide +kernel
theorem dX8_isDeclared_12 : decode cX8_isDeclared 12 = .ok (.iconst 0, 1) := by decide +kernel
theorem dX8_isDeclared_13 : decode cX8_isDeclared 13 = .ok (.ireturn, 1) := by decide +kernel
theorem dX8_columnsOf_0 : decode cX8_columnsOf 0 = .ok (.iload_n 1, 1) := by decide +kernel
theorem dX8_columnsOf_1 : decode cX8_columnsOf 1 = .ok (.ifCond .lt 18, 3) := by decide +kernel
theorem dX8_columnsOf_4 : decode cX8_columnsOf 4 = .ok (.iload_n 1, 1) := by decide +kernel
theorem dX8_columnsOf_5 : decode cX8_columnsOf 5 = .ok (.bipush 10, 2) := by decide +kernel
theorem dX8_columnsOf_7 : decode cX8_columnsOf 7 = .ok (.if_icmp .ge 12, 3) := by decide +kernel
theorem dX8_columnsOf_10 : decode cX8_columnsOf 10 = .ok (.aload_n 0, 1) := by decide +kernel
theorem dX8_columnsOf_11 : decode cX8_columnsOf 11 = .ok (.getfield 9, 3) := by decide +kernel
theorem dX8_columnsOf_14 : decode cX8_columnsOf 14 = .ok (.iload_n 1, 1) := by decide +kernel
theorem dX8_columnsOf_15 : decode cX8_columnsOf 15 = .ok (.iaload, 1) := by decide +kernel
theorem dX8_columnsOf_16 : decode cX8_columnsOf 16 = .ok (.goto 4, 3) := by decide +kernel
theorem dX8_columnsOf_19 : decode cX8_columnsOf 19 = .ok (.iconst 0, 1) := by decide +kernel
theorem dX8_columnsOf_20 : decode cX8_columnsOf 20 = .ok (.ireturn, 1) := by decide +kernel
theorem dX8_kindOf_0 : decode cX8_kindOf 0 = .ok (.iload_n 1, 1) := by decide +kernel
theorem dX8_kindOf_1 : decode cX8_kindOf 1 = .ok (.ifCond .lt 18, 3) := by decide +kernel
theorem dX8_kindOf_4 : decode cX8_kindOf 4 = .ok (.iload_n 1, 1) := by decide +kernel
theorem dX8_kindOf_5 : decode cX8_kindOf 5 = .ok (.bipush 10, 2) := by decide +kernel
theorem dX8_kindOf_7 : decode cX8_kindOf 7 = .ok (.if_icmp .ge 12, 3) := by decide +kernel
theorem dX8_kindOf_10 : decode cX8_kindOf 10 = .ok (.aload_n 0, 1) := by decide +kernel
theorem dX8_kindOf_11 : decode cX8_kindOf 11 = .ok (.getfield 15, 3) := by decide +kernel
theorem dX8_kindOf_14 : decode cX8_kindOf 14 = .ok (.iload_n 1, 1) := by decide +kernel
theorem dX8_kindOf_15 : decode cX8_kindOf 15 = .ok (.iaload, 1) := by decide +kernel
theorem dX8_kindOf_16 : decode cX8_kindOf 16 = .ok (.goto 4, 3) := by decide +kernel
theorem dX8_kindOf_19 : decode cX8_kindOf 19 = .ok (.iconst 0, 1) := by decide +kernel
theorem dX8_kindOf_20 : decode cX8_kindOf 20 = .ok (.ireturn, 1) := by decide +kernel
theorem dX8_keyOf_0 : decode cX8_keyOf 0 = .ok (.iload_n 1, 1) := by decide +kernel
theorem dX8_keyOf_1 : decode cX8_keyOf 1 = .ok (.ifCond .lt 18, 3) := by decide +kernel
theorem dX8_keyOf_4 : decode cX8_keyOf 4 = .ok (.iload_n 1, 1) := by decide +kernel
theorem dX8_keyOf_5 : decode cX8_keyOf 5 = .ok (.bipush 10, 2) := by decide +kernel
theorem dX8_keyOf_7 : decode cX8_keyOf 7 = .ok (.if_icmp .ge 12, 3) := by decide +kernel
theorem dX8_keyOf_10 : decode cX8_keyOf 10 = .ok (.aload_n 0, 1) := by decide +kernel
theorem dX8_keyOf_11 : decode cX8_keyOf 11 = .ok (.getfield 18, 3) := by decide +kernel
theorem dX8_keyOf_14 : decode cX8_keyOf 14 = .ok (.iload_n 1, 1) := by decide +kernel
theorem dX8_keyOf_15 : decode cX8_keyOf 15 = .ok (.iaload, 1) := by decide +kernel
theorem dX8_keyOf_16 : decode cX8_keyOf 16 = .ok (.goto 4, 3) := by decide +kernel
theorem dX8_keyOf_19 : decode cX8_keyOf 19 = .ok (.iconst 0, 1) := by decide +kernel
theorem dX8_keyOf_20 : decode cX8_keyOf 20 = .ok (.ireturn, 1) := by decide +kernel
theorem dX8_tellingBits_0 : decode cX8_tellingBits 0 = .ok (.iload_n 1, 1) := by decide +kernel
theorem dX8_tellingBits_1 : decode cX8_tellingBits 1 = .ok (.ifCond .lt 18, 3) := by decide +kernel
theorem dX8_tellingBits_4 : decode cX8_tellingBits 4 = .ok (.iload_n 1, 1) := by decide +kernel
theorem dX8_tellingBits_5 : decode cX8_tellingBits 5 = .ok (.bipush 10, 2) := by decide +kernel
theorem dX8_tellingBits_7 : decode cX8_tellingBits 7 = .ok (.if_icmp .ge 12, 3) := by decide +kernel
theorem dX8_tellingBits_10 : decode cX8_tellingBits 10 = .ok (.aload_n 0, 1) := by decide +kernel
theorem dX8_tellingBits_11 : decode cX8_tellingBits 11 = .ok (.getfield 21, 3) := by decide +kernel
theorem dX8_tellingBits_14 : decode cX8_tellingBits 14 = .ok (.iload_n 1, 1) := by decide +kernel
theorem dX8_tellingBits_15 : decode cX8_tellingBits 15 = .ok (.iaload, 1) := by decide +kernel
theorem dX8_tellingBits_16 : decode cX8_tellingBits 16 = .ok (.goto 4, 3) := by decide +kernel
theorem dX8_tellingBits_19 : decode cX8_tellingBits 19 = .ok (.iconst (-1), 1) := by decide +kernel
theorem dX8_tellingBits_20 : decode cX8_tellingBits 20 = .ok (.ireturn, 1) := by decide +kernel
theorem dX8_hasOpenKey_0 : decode cX8_hasOpenKey 0 = .ok (.aload_n 0, 1) := by decide +kernel
theorem dX8_hasOpenKey_1 : decode cX8_hasOpenKey 1 = .ok (.iload_n 1, 1) := by decide +kernel
theorem dX8_hasOpenKey_2 : decode cX8_hasOpenKey 2 = .ok (.invokevirtual 31, 3) := by decide +kernel
theorem dX8_hasOpenKey_5 : decode cX8_hasOpenKey 5 = .ok (.ifCond .ne 20, 3) := by decide +kernel
theorem dX8_hasOpenKey_8 : decode cX8_hasOpenKey 8 = .ok (.aload_n 0, 1) := by decide +kernel
theorem dX8_hasOpenKey_9 : decode cX8_hasOpenKey 9 = .ok (.iload_n 1, 1) := by decide +kernel
theorem dX8_hasOpenKey_10 : decode cX8_hasOpenKey 10 = .ok (.invokevirtual 34, 3) := by decide +kernel
theorem dX8_hasOpenKey_13 : decode cX8_hasOpenKey 13 = .ok (.aload_n 0, 1) := by decide +kernel
theorem dX8_hasOpenKey_14 : decode cX8_hasOpenKey 14 = .ok (.iload_n 1, 1) := by decide +kernel
theorem dX8_hasOpenKey_15 : decode cX8_hasOpenKey 15 = .ok (.invokevirtual 28, 3) := by decide +kernel
theorem dX8_hasOpenKey_18 : decode cX8_hasOpenKey 18 = .ok (.if_icmp .ge 7, 3) := by decide +kernel
theorem dX8_hasOpenKey_21 : decode cX8_hasOpenKey 21 = .ok (.iconst 1, 1) := by decide +kernel
theorem dX8_hasOpenKey_22 : decode cX8_hasOpenKey 22 = .ok (.goto 4, 3) := by decide +kernel
theorem dX8_hasOpenKey_25 : decode cX8_hasOpenKey 25 = .ok (.iconst 0, 1) := by decide +kernel
theorem dX8_hasOpenKey_26 : decode cX8_hasOpenKey 26 = .ok (.ireturn, 1) := by decide +kernel
theorem dX8_tellingColumns_0 : decode cX8_tellingColumns 0 = .ok (.aload_n 0, 1) := by decide +kernel
theorem dX8_tellingColumns_1 : decode cX8_tellingColumns 1 = .ok (.iload_n 1, 1) := by decide +kernel
theorem dX8_tellingColumns_2 : decode cX8_tellingColumns 2 = .ok (.invokevirtual 31, 3) := by decide +kernel
theorem dX8_tellingColumns_5 : decode cX8_tellingColumns 5 = .ok (.ifCond .ne 11, 3) := by decide +kernel
theorem dX8_tellingColumns_8 : decode cX8_tellingColumns 8 = .ok (.aload_n 0, 1) := by decide +kernel
theorem dX8_tellingColumns_9 : decode cX8_tellingColumns 9 = .ok (.iload_n 1, 1) := by decide +kernel
theorem dX8_tellingColumns_10 : decode cX8_tellingColumns 10 = .ok (.invokevirtual 28, 3) := by decide +kernel
theorem dX8_tellingColumns_13 : decode cX8_tellingColumns 13 = .ok (.goto 8, 3) := by decide +kernel
theorem dX8_tellingColumns_16 : decode cX8_tellingColumns 16 = .ok (.aload_n 0, 1) := by decide +kernel
theorem dX8_tellingColumns_17 : decode cX8_tellingColumns 17 = .ok (.iload_n 1, 1) := by decide +kernel
theorem dX8_tellingColumns_18 : decode cX8_tellingColumns 18 = .ok (.invokevirtual 34, 3) := by decide +kernel
theorem dX8_tellingColumns_21 : decode cX8_tellingColumns 21 = .ok (.ireturn, 1) := by decide +kernel
theorem dX8_tellingSet_0 : decode cX8_tellingSet 0 = .ok (.iconst 1, 1) := by decide +kernel
theorem dX8_tellingSet_1 : decode cX8_tellingSet 1 = .ok (.aload_n 0, 1) := by decide +kernel
theorem dX8_tellingSet_2 : decode cX8_tellingSet 2 = .ok (.iload_n 1, 1) := by decide +kernel
theorem dX8_tellingSet_3 : decode cX8_tellingSet 3 = .ok (.invokevirtual 37, 3) := by decide +kernel
theorem dX8_tellingSet_6 : decode cX8_tellingSet 6 = .ok (.ishl, 1) := by decide +kernel
theorem dX8_tellingSet_7 : decode cX8_tellingSet 7 = .ok (.iconst 1, 1) := by decide +kernel
theorem dX8_tellingSet_8 : decode cX8_tellingSet 8 = .ok (.isub, 1) := by decide +kernel
theorem dX8_tellingSet_9 : decode cX8_tellingSet 9 = .ok (.ireturn, 1) := by decide +kernel
theorem dX8_permits_0 : decode cX8_permits 0 = .ok (.iconst 1, 1) := by decide +kernel
theorem dX8_permits_1 : decode cX8_permits 1 = .ok (.istore 6, 2) := by decide +kernel
theorem dX8_permits_3 : decode cX8_permits 3 = .ok (.iconst 0, 1) := by decide +kernel
theorem dX8_permits_4 : decode cX8_permits 4 = .ok (.istore 7, 2) := by decide +kernel
theorem dX8_permits_6 : decode cX8_permits 6 = .ok (.iload 7, 2) := by decide +kernel
theorem dX8_permits_8 : decode cX8_permits 8 = .ok (.iconst 3, 1) := by decide +kernel
theorem dX8_permits_9 : decode cX8_permits 9 = .ok (.if_icmp .ge 60, 3) := by decide +kernel
theorem dX8_permits_12 : decode cX8_permits 12 = .ok (.iload 7, 2) := by decide +kernel
theorem dX8_permits_14 : decode cX8_permits 14 = .ok (.iload_n 3, 1) := by decide +kernel
theorem dX8_permits_15 : decode cX8_permits 15 = .ok (.iload 4, 2) := by decide +kernel
theorem dX8_permits_17 : decode cX8_permits 17 = .ok (.iload 5, 2) := by decide +kernel
theorem dX8_permits_19 : decode cX8_permits 19 = .ok (.invokestatic 40, 3) := by decide +kernel
theorem dX8_permits_22 : decode cX8_permits 22 = .ok (.istore 8, 2) := by decide +kernel
theorem dX8_permits_24 : decode cX8_permits 24 = .ok (.iload 6, 2) := by decide +kernel
theorem dX8_permits_26 : decode cX8_permits 26 = .ok (.ifCond .eq 34, 3) := by decide +kernel
theorem dX8_permits_29 : decode cX8_permits 29 = .ok (.iload 7, 2) := by decide +kernel
theorem dX8_permits_31 : decode cX8_permits 31 = .ok (.aload_n 0, 1) := by decide +kernel
theorem dX8_permits_32 : decode cX8_permits 32 = .ok (.iload_n 1, 1) := by decide +kernel
theorem dX8_permits_33 : decode cX8_permits 33 = .ok (.invokevirtual 28, 3) := by decide +kernel
theorem dX8_permits_36 : decode cX8_permits 36 = .ok (.if_icmp .ge 15, 3) := by decide +kernel
theorem dX8_permits_39 : decode cX8_permits 39 = .ok (.iload_n 2, 1) := by decide +kernel
theorem dX8_permits_40 : decode cX8_permits 40 = .ok (.iload 8, 2) := by decide +kernel
theorem dX8_permits_42 : decode cX8_permits 42 = .ok (.invokestatic 44, 3) := by decide +kernel
theorem dX8_permits_45 : decode cX8_permits 45 = .ok (.ifCond .eq 15, 3) := by decide +kernel
theorem dX8_permits_48 : decode cX8_permits 48 = .ok (.goto 8, 3) := by decide +kernel
theorem dX8_permits_51 : decode cX8_permits 51 = .ok (.iload 8, 2) := by decide +kernel
theorem dX8_permits_53 : decode cX8_permits 53 = .ok (.ifCond .ne 7, 3) := by decide +kernel
theorem dX8_permits_56 : decode cX8_permits 56 = .ok (.iconst 1, 1) := by decide +kernel
theorem dX8_permits_57 : decode cX8_permits 57 = .ok (.goto 4, 3) := by decide +kernel
theorem dX8_permits_60 : decode cX8_permits 60 = .ok (.iconst 0, 1) := by decide +kernel
theorem dX8_permits_61 : decode cX8_permits 61 = .ok (.istore 6, 2) := by decide +kernel
theorem dX8_permits_63 : decode cX8_permits 63 = .ok (.iinc 7 1, 3) := by decide +kernel
theorem dX8_permits_66 : decode cX8_permits 66 = .ok (.goto (-60), 3) := by decide +kernel
theorem dX8_permits_69 : decode cX8_permits 69 = .ok (.iload 6, 2) := by decide +kernel
theorem dX8_permits_71 : decode cX8_permits 71 = .ok (.ireturn, 1) := by decide +kernel
theorem dX8_goalOf_0 : decode cX8_goalOf 0 = .ok (.iconst 0, 1) := by decide +kernel
theorem dX8_goalOf_1 : decode cX8_goalOf 1 = .ok (.istore 5, 2) := by decide +kernel
theorem dX8_goalOf_3 : decode cX8_goalOf 3 = .ok (.iconst 0, 1) := by decide +kernel
theorem dX8_goalOf_4 : decode cX8_goalOf 4 = .ok (.istore 6, 2) := by decide +kernel
theorem dX8_goalOf_6 : decode cX8_goalOf 6 = .ok (.iconst 0, 1) := by decide +kernel
theorem dX8_goalOf_7 : decode cX8_goalOf 7 = .ok (.istore 7, 2) := by decide +kernel
theorem dX8_goalOf_9 : decode cX8_goalOf 9 = .ok (.iload 7, 2) := by decide +kernel
theorem dX8_goalOf_11 : decode cX8_goalOf 11 = .ok (.aload_n 0, 1) := by decide +kernel
theorem dX8_goalOf_12 : decode cX8_goalOf 12 = .ok (.iload_n 1, 1) := by decide +kernel
theorem dX8_goalOf_13 : decode cX8_goalOf 13 = .ok (.invokevirtual 37, 3) := by decide +kernel
theorem dX8_goalOf_16 : decode cX8_goalOf 16 = .ok (.if_icmp .ge 47, 3) := by decide +kernel
theorem dX8_goalOf_19 : decode cX8_goalOf 19 = .ok (.iload 7, 2) := by decide +kernel
theorem dX8_goalOf_21 : decode cX8_goalOf 21 = .ok (.iload_n 2, 1) := by decide +kernel
theorem dX8_goalOf_22 : decode cX8_goalOf 22 = .ok (.iload_n 3, 1) := by decide +kernel
theorem dX8_goalOf_23 : decode cX8_goalOf 23 = .ok (.iload 4, 2) := by decide +kernel
theorem dX8_goalOf_25 : decode cX8_goalOf 25 = .ok (.invokestatic 40, 3) := by decide +kernel
theorem dX8_goalOf_28 : decode cX8_goalOf 28 = .ok (.istore 8, 2) := by decide +kernel
theorem dX8_goalOf_30 : decode cX8_goalOf 30 = .ok (.iload 8, 2) := by decide +kernel
theorem dX8_goalOf_32 : decode cX8_goalOf 32 = .ok (.ifCond .lt 25, 3) := by decide +kernel
theorem dX8_goalOf_35 : decode cX8_goalOf 35 = .ok (.iload 5, 2) := by decide +kernel
theorem dX8_goalOf_37 : decode cX8_goalOf 37 = .ok (.iconst 1, 1) := by decide +kernel
theorem dX8_goalOf_38 : decode cX8_goalOf 38 = .ok (.iload 7, 2) := by decide +kernel
theorem dX8_goalOf_40 : decode cX8_goalOf 40 = .ok (.ishl, 1) := by decide +kernel
theorem dX8_goalOf_41 : decode cX8_goalOf 41 = .ok (.ior, 1) := by decide +kernel
theorem dX8_goalOf_42 : decode cX8_goalOf 42 = .ok (.istore 5, 2) := by decide +kernel
theorem dX8_goalOf_44 : decode cX8_goalOf 44 = .ok (.iload 6, 2) := by decide +kernel
theorem dX8_goalOf_46 : decode cX8_goalOf 46 = .ok (.iload 8, 2) := by decide +kernel
theorem dX8_goalOf_48 : decode cX8_goalOf 48 = .ok (.iload 7, 2) := by decide +kernel
theorem dX8_goalOf_50 : decode cX8_goalOf 50 = .ok (.invokestatic 24, 3) := by decide +kernel
theorem dX8_goalOf_53 : decode cX8_goalOf 53 = .ok (.ishl, 1) := by decide +kernel
theorem dX8_goalOf_54 : decode cX8_goalOf 54 = .ok (.ior, 1) := by decide +kernel
theorem dX8_goalOf_55 : decode cX8_goalOf 55 = .ok (.istore 6, 2) := by decide +kernel
theorem dX8_goalOf_57 : decode cX8_goalOf 57 = .ok (.iinc 7 1, 3) := by decide +kernel
theorem dX8_goalOf_60 : decode cX8_goalOf 60 = .ok (.goto (-51), 3) := by decide +kernel
theorem dX8_goalOf_63 : decode cX8_goalOf 63 = .ok (.iload_n 1, 1) := by decide +kernel
theorem dX8_goalOf_64 : decode cX8_goalOf 64 = .ok (.iconst 3, 1) := by decide +kernel
theorem dX8_goalOf_65 : decode cX8_goalOf 65 = .ok (.ishl, 1) := by decide +kernel
theorem dX8_goalOf_66 : decode cX8_goalOf 66 = .ok (.iload 5, 2) := by decide +kernel
theorem dX8_goalOf_68 : decode cX8_goalOf 68 = .ok (.ior, 1) := by decide +kernel
theorem dX8_goalOf_69 : decode cX8_goalOf 69 = .ok (.bipush 21, 2) := by decide +kernel
theorem dX8_goalOf_71 : decode cX8_goalOf 71 = .ok (.ishl, 1) := by decide +kernel
theorem dX8_goalOf_72 : decode cX8_goalOf 72 = .ok (.iload 6, 2) := by decide +kernel
theorem dX8_goalOf_74 : decode cX8_goalOf 74 = .ok (.ior, 1) := by decide +kernel
theorem dX8_goalOf_75 : decode cX8_goalOf 75 = .ok (.ireturn, 1) := by decide +kernel
theorem dX9_init_0 : decode cX9_init 0 = .ok (.aload_n 0, 1) := by decide +kernel
theorem dX9_init_1 : decode cX9_init 1 = .ok (.invokespecial 3, 3) := by decide +kernel
theorem dX9_init_4 : decode cX9_init 4 = .ok (.aload_n 0, 1) := by decide +kernel
theorem dX9_init_5 : decode cX9_init 5 = .ok (.bipush 8, 2) := by decide +kernel
theorem dX9_init_7 : decode cX9_init 7 = .ok (.newarray .int, 2) := by decide +kernel
theorem dX9_init_9 : decode cX9_init 9 = .ok (.putfield 9, 3) := by decide +kernel
theorem dX9_init_12 : decode cX9_init 12 = .ok (.aload_n 0, 1) := by decide +kernel
theorem dX9_init_13 : decode cX9_init 13 = .ok (.iconst 5, 1) := by decide +kernel
theorem dX9_init_14 : decode cX9_init 14 = .ok (.newarray .int, 2) := by decide +kernel
theorem dX9_init_16 : decode cX9_init 16 = .ok (.putfield 15, 3) := by decide +kernel
theorem dX9_init_19 : decode cX9_init 19 = .ok (.aload_n 0, 1) := by decide +kernel
theorem dX9_init_20 : decode cX9_init 20 = .ok (.iconst 5, 1) := by decide +kernel
theorem dX9_init_21 : decode cX9_init 21 = .ok (.newarray .int, 2) := by decide +kernel
theorem dX9_init_23 : decode cX9_init 23 = .ok (.putfield 18, 3) := by decide +kernel
theorem dX9_init_26 : decode cX9_init 26 = .ok (.aload_n 0, 1) := by decide +kernel
theorem dX9_init_27 : decode cX9_init 27 = .ok (.aload_n 1, 1) := by decide +kernel
theorem dX9_init_28 : decode cX9_init 28 = .ok (.putfield 21, 3) := by decide +kernel
theorem dX9_init_31 : decode cX9_init 31 = .ok (.aload_n 0, 1) := by decide +kernel
theorem dX9_init_32 : decode cX9_init 32 = .ok (.aload_n 2, 1) := by decide +kernel
theorem dX9_init_33 : decode cX9_init 33 = .ok (.putfield 25, 3) := by decide +kernel
theorem dX9_init_36 : decode cX9_init 36 = .ok (.aload_n 0, 1) := by decide +kernel
theorem dX9_init_37 : decode cX9_init 37 = .ok (.aload_n 3, 1) := by decide +kernel
theorem dX9_init_38 : decode cX9_init 38 = .ok (.putfield 29, 3) := by decide +kernel
theorem dX9_init_41 : decode cX9_init 41 = .ok (.aload_n 0, 1) := by decide +kernel
theorem dX9_init_42 : decode cX9_init 42 = .ok (.iconst (-1), 1) := by decide +kernel
theorem dX9_init_43 : decode cX9_init 43 = .ok (.putfield 33, 3) := by decide +kernel
theorem dX9_init_46 : decode cX9_init 46 = .ok (.aload_n 0, 1) := by decide +kernel
theorem dX9_init_47 : decode cX9_init 47 = .ok (.iconst (-1), 1) := by decide +kernel
theorem dX9_init_48 : decode cX9_init 48 = .ok (.putfield 37, 3) := by decide +kernel
theorem dX9_init_51 : decode cX9_init 51 = .ok (.return_, 1) := by decide +kernel
theorem dX9_begin_0 : decode cX9_begin 0 = .ok (.aload_n 0, 1) := by decide +kernel
theorem dX9_begin_1 : decode cX9_begin 1 = .ok (.aload_n 1, 1) := by decide +kernel
theorem dX9_begin_2 : decode cX9_begin 2 = .ok (.putfield 25, 3) := by decide +kernel
theorem dX9_begin_5 : decode cX9_begin 5 = .ok (.aload_n 0, 1) := by decide +kernel
theorem dX9_begin_6 : decode cX9_begin 6 = .ok (.aload_n 2, 1) := by decide +kernel
theorem dX9_begin_7 : decode cX9_begin 7 = .ok (.putfield 29, 3) := by decide +kernel
theorem dX9_begin_10 : decode cX9_begin 10 = .ok (.aload_n 0, 1) := by decide +kernel
theorem dX9_begin_11 : decode cX9_begin 11 = .ok (.iload_n 3, 1) := by decide +kernel
theorem dX9_begin_12 : decode cX9_begin 12 = .ok (.putfield 40, 3) := by decide +kernel
theorem dX9_begin_15 : decode cX9_begin 15 = .ok (.aload_n 0, 1) := by decide +kernel
theorem dX9_begin_16 : decode cX9_begin 16 = .ok (.iconst 0, 1) := by decide +kernel
theorem dX9_begin_17 : decode cX9_begin 17 = .ok (.putfield 37, 3) := by decide +kernel
theorem dX9_begin_20 : decode cX9_begin 20 = .ok (.aload_n 0, 1) := by decide +kernel
theorem dX9_begin_21 : decode cX9_begin 21 = .ok (.iconst 1, 1) := by decide +kernel
theorem dX9_begin_22 : decode cX9_begin 22 = .ok (.putfield 43, 3) := by decide +kernel
theorem dX9_begin_25 : decode cX9_begin 25 = .ok (.aload_n 0, 1) := by decide +kernel
theorem dX9_begin_26 : decode cX9_begin 26 = .ok (.iconst (-1), 1) := by decide +kernel
theorem dX9_begin_27 : decode cX9_begin 27 = .ok (.putfield 33, 3) := by decide +kernel
theorem dX9_begin_30 : decode cX9_begin 30 = .ok (.aload_n 0, 1) := by decide +kernel
theorem dX9_begin_31 : decode cX9_begin 31 = .ok (.iconst (-1), 1) := by decide +kernel
theorem dX9_begin_32 : decode cX9_begin 32 = .ok (.invokevirtual 47, 3) := by decide +kernel
theorem dX9_begin_35 : decode cX9_begin 35 = .ok (.return_, 1) := by decide +kernel
theorem dX9_leadBy_0 : decode cX9_leadBy 0 = .ok (.aload_n 0, 1) := by decide +kernel
theorem dX9_leadBy_1 : decode cX9_leadBy 1 = .ok (.iload_n 1, 1) := by decide +kernel
theorem dX9_leadBy_2 : decode cX9_leadBy 2 = .ok (.putfield 33, 3) := by decide +kernel
theorem dX9_leadBy_5 : decode cX9_leadBy 5 = .ok (.aload_n 0, 1) := by decide +kernel
theorem dX9_leadBy_6 : decode cX9_leadBy 6 = .ok (.iload_n 2, 1) := by decide +kernel
theorem dX9_leadBy_7 : decode cX9_leadBy 7 = .ok (.putfield 51, 3) := by decide +kernel
theorem dX9_leadBy_10 : decode cX9_leadBy 10 = .ok (.return_, 1) := by decide +kernel
theorem dX9_pose_0 : decode cX9_pose 0 = .ok (.iconst 1, 1) := by decide +kernel
theorem dX9_pose_1 : decode cX9_pose 1 = .ok (.istore_n 3, 1) := by decide +kernel
theorem dX9_pose_2 : decode cX9_pose 2 = .ok (.iconst 0, 1) := by decide +kernel
theorem dX9_pose_3 : decode cX9_pose 3 = .ok (.istore 4, 2) := by decide +kernel
theorem dX9_pose_5 : decode cX9_pose 5 = .ok (.iload 4, 2) := by decide +kernel
theorem dX9_pose_7 : decode cX9_pose 7 = .ok (.iconst 3, 1) := by decide +kernel
theorem dX9_pose_8 : decode cX9_pose 8 = .ok (.if_icmp .ge 67, 3) := by decide +kernel
theorem dX9_pose_11 : decode cX9_pose 11 = .ok (.iload_n 2, 1) := by decide +kernel
theorem dX9_pose_12 : decode cX9_pose 12 = .ok (.iload 4, 2) := by decide +kernel
theorem dX9_pose_14 : decode cX9_pose 14 = .ok (.ishr, 1) := by decide +kernel
theorem dX9_pose_15 : decode cX9_pose 15 = .ok (.iconst 1, 1) := by decide +kernel
theorem dX9_pose_16 : decode cX9_pose 16 = .ok (.iand, 1) := by decide +kernel
theorem dX9_pose_17 : decode cX9_pose 17 = .ok (.ifCond .eq 52, 3) := by decide +kernel
theorem dX9_pose_20 : decode cX9_pose 20 = .ok (.aload_n 0, 1) := by decide +kernel
theorem dX9_pose_21 : decode cX9_pose 21 = .ok (.getfield 25, 3) := by decide +kernel
theorem dX9_pose_24 : decode cX9_pose 24 = .ok (.iconst 5, 1) := by decide +kernel
theorem dX9_pose_25 : decode cX9_pose 25 = .ok (.iload 4, 2) := by decide +kernel
theorem dX9_pose_27 : decode cX9_pose 27 = .ok (.invokevirtual 54, 3) := by decide +kernel
theorem dX9_pose_30 : decode cX9_pose 30 = .ok (.istore 5, 2) := by decide +kernel
theorem dX9_pose_32 : decode cX9_pose 32 = .ok (.aload_n 0, 1) := by decide +kernel
theorem dX9_pose_33 : decode cX9_pose 33 = .ok (.iload 5, 2) := by decide +kernel
theorem dX9_pose_35 : decode cX9_pose 35 = .ok (.iload_n 1, 1) := by decide +kernel
theorem dX9_pose_36 : decode cX9_pose 36 = .ok (.iload 4, 2) := by decide +kernel
theorem dX9_pose_38 : decode cX9_pose 38 = .ok (.invokestatic 60, 3) := by decide +kernel
theorem dX9_pose_41 : decode cX9_pose 41 = .ok (.invokevirtual 63, 3) := by decide +kernel
theorem dX9_pose_44 : decode cX9_pose 44 = .ok (.iload_n 3, 1) := by decide +kernel
theorem dX9_pose_45 : decode cX9_pose 45 = .ok (.ifCond .eq 22, 3) := by decide +kernel
theorem dX9_pose_48 : decode cX9_pose 48 = .ok (.aload_n 0, 1) := by decide +kernel
theorem dX9_pose_49 : decode cX9_pose 49 = .ok (.iload 5, 2) := by decide +kernel
theorem dX9_pose_51 : decode cX9_pose 51 = .ok (.invokevirtual 67, 3) := by decide +kernel
theorem dX9_pose_54 : decode cX9_pose 54 = .ok (.iload_n 1, 1) := by decide +kernel
theorem dX9_pose_55 : decode cX9_pose 55 = .ok (.iload 4, 2) := by decide +kernel
theorem dX9_pose_57 : decode cX9_pose 57 = .ok (.invokestatic 60, 3) := by decide +kernel
theorem dX9_pose_60 : decode cX9_pose 60 = .ok (.if_icmp .ne 7, 3) := by decide +kernel
theorem dX9_pose_63 : decode cX9_pose 63 = .ok (.iconst 1, 1) := by decide +kernel
theorem dX9_pose_64 : decode cX9_pose 64 = .ok (.goto 4, 3) := by decide +kernel
theorem dX9_pose_67 : decode cX9_pose 67 = .ok (.iconst 0, 1) := by decide +kernel
theorem dX9_pose_68 : decode cX9_pose 68 = .ok (.istore_n 3, 1) := by decide +kernel
theorem dX9_pose_69 : decode cX9_pose 69 = .ok (.iinc 4 1, 3) := by decide +kernel
theorem dX9_pose_72 : decode cX9_pose 72 = .ok (.goto (-67), 3) := by decide +kernel
theorem dX9_pose_75 : decode cX9_pose 75 = .ok (.iload_n 3, 1) := by decide +kernel
theorem dX9_pose_76 : decode cX9_pose 76 = .ok (.ireturn, 1) := by decide +kernel
theorem dX9_next_0 : decode cX9_next 0 = .ok (.aload_n 0, 1) := by decide +kernel
theorem dX9_next_1 : decode cX9_next 1 = .ok (.getfield 40, 3) := by decide +kernel
theorem dX9_next_4 : decode cX9_next 4 = .ok (.ifCond .ne 24, 3) := by decide +kernel
theorem dX9_next_7 : decode cX9_next 7 = .ok (.aload_n 0, 1) := by decide +kernel
theorem dX9_next_8 : decode cX9_next 8 = .ok (.getfield 37, 3) := by decide +kernel
theorem dX9_next_11 : decode cX9_next 11 = .ok (.ifCond .ne 17, 3) := by decide +kernel
theorem dX9_next_14 : decode cX9_next 14 = .ok (.aload_n 0, 1) := by decide +kernel
theorem dX9_next_15 : decode cX9_next 15 = .ok (.getfield 43, 3) := by decide +kernel
theorem dX9_next_18 : decode cX9_next 18 = .ok (.ifCond .eq 10, 3) := by decide +kernel
theorem dX9_next_21 : decode cX9_next 21 = .ok (.aload_n 0, 1) := by decide +kernel
theorem dX9_next_22 : decode cX9_next 22 = .ok (.iconst 0, 1) := by decide +kernel
theorem dX9_next_23 : decode cX9_next 23 = .ok (.putfield 43, 3) := by decide +kernel
theorem dX9_next_26 : decode cX9_next 26 = .ok (.iconst 1, 1) := by decide +kernel
theorem dX9_next_27 : decode cX9_next 27 = .ok (.ireturn, 1) := by decide +kernel
theorem dX9_next_28 : decode cX9_next 28 = .ok (.iconst 0, 1) := by decide +kernel
theorem dX9_next_29 : decode cX9_next 29 = .ok (.istore_n 1, 1) := by decide +kernel
theorem dX9_next_30 : decode cX9_next 30 = .ok (.iload_n 1, 1) := by decide +kernel
theorem dX9_next_31 : decode cX9_next 31 = .ok (.ldc 71, 2) := by decide +kernel
theorem dX9_next_33 : decode cX9_next 33 = .ok (.if_icmp .ge 112, 3) := by decide +kernel
theorem dX9_next_36 : decode cX9_next 36 = .ok (.aload_n 0, 1) := by decide +kernel
theorem dX9_next_37 : decode cX9_next 37 = .ok (.getfield 37, 3) := by decide +kernel
theorem dX9_next_40 : decode cX9_next 40 = .ok (.ifCond .lt 105, 3) := by decide +kernel
theorem dX9_next_43 : decode cX9_next 43 = .ok (.aload_n 0, 1) := by decide +kernel
theorem dX9_next_44 : decode cX9_next 44 = .ok (.aload_n 0, 1) := by decide +kernel
theorem dX9_next_45 : decode cX9_next 45 = .ok (.getfield 37, 3) := by decide +kernel
theorem dX9_next_48 : decode cX9_next 48 = .ok (.invokevirtual 72, 3) := by decide +kernel
theorem dX9_next_51 : decode cX9_next 51 = .ok (.istore_n 2, 1) := by decide +kernel
theorem dX9_next_52 : decode cX9_next 52 = .ok (.aload_n 0, 1) := by decide +kernel
theorem dX9_next_53 : decode cX9_next 53 = .ok (.getfield 37, 3) := by decide +kernel
theorem dX9_next_56 : decode cX9_next 56 = .ok (.aload_n 0, 1) := by decide +kernel
theorem dX9_next_57 : decode cX9_next 57 = .ok (.getfield 40, 3) := by decide +kernel
theorem dX9_next_60 : decode cX9_next 60 = .ok (.if_icmp .ge 37, 3) := by decide +kernel
theorem dX9_next_63 : decode cX9_next 63 = .ok (.aload_n 0, 1) := by decide +kernel
theorem dX9_next_64 : decode cX9_next 64 = .ok (.getfield 25, 3) := by decide +kernel
theorem dX9_next_67 : decode cX9_next 67 = .ok (.iload_n 2, 1) := by decide +kernel
theorem dX9_next_68 : decode cX9_next 68 = .ok (.invokevirtual 75, 3) := by decide +kernel
theorem dX9_next_71 : decode cX9_next 71 = .ok (.ifCond .ne 14, 3) := by decide +kernel
theorem dX9_next_74 : decode cX9_next 74 = .ok (.aload_n 0, 1) := by decide +kernel
theorem dX9_next_75 : decode cX9_next 75 = .ok (.iload_n 2, 1) := by decide +kernel
theorem dX9_next_76 : decode cX9_next 76 = .ok (.invokevirtual 78, 3) := by decide +kernel
theorem dX9_next_79 : decode cX9_next 79 = .ok (.ifCond .eq 18, 3) := by decide +kernel
theorem dX9_next_82 : decode cX9_next 82 = .ok (.goto 11, 3) := by decide +kernel
theorem dX9_next_85 : decode cX9_next 85 = .ok (.aload_n 0, 1) := by decide +kernel
theorem dX9_next_86 : decode cX9_next 86 = .ok (.iload_n 2, 1) := by decide +kernel
theorem dX9_next_87 : decode cX9_next 87 = .ok (.invokevirtual 82, 3) := by decide +kernel
theorem dX9_next_90 : decode cX9_next 90 = .ok (.ifCond .eq 7, 3) := by decide +kernel
theorem dX9_next_93 : decode cX9_next 93 = .ok (.iconst 1, 1) := by decide +kernel
theorem dX9_next_94 : decode cX9_next 94 = .ok (.goto 4, 3) := by decide +kernel
theorem dX9_next_97 : decode cX9_next 97 = .ok (.iconst 0, 1) := by decide +kernel
theorem dX9_next_98 : decode cX9_next 98 = .ok (.istore_n 3, 1) := by decide +kernel
theorem dX9_next_99 : decode cX9_next 99 = .ok (.aload_n 0, 1) := by decide +kernel
theorem dX9_next_100 : decode cX9_next 100 = .ok (.dup, 1) := by decide +kernel
theorem dX9_next_101 : decode cX9_next 101 = .ok (.getfield 37, 3) := by decide +kernel
theorem dX9_next_104 : decode cX9_next 104 = .ok (.iload_n 3, 1) := by decide +kernel
theorem dX9_next_105 : decode cX9_next 105 = .ok (.ifCond .eq 7, 3) := by decide +kernel
theorem dX9_next_108 : decode cX9_next 108 = .ok (.iconst 1, 1) := by decide +kernel
theorem dX9_next_109 : decode cX9_next 109 = .ok (.goto 4, 3) := by decide +kernel
theorem dX9_next_112 : decode cX9_next 112 = .ok (.iconst (-1), 1) := by decide +kernel
theorem dX9_next_113 : decode cX9_next 113 = .ok (.iadd, 1) := by decide +kernel
theorem dX9_next_114 : decode cX9_next 114 = .ok (.putfield 37, 3) := by decide +kernel
theorem dX9_next_117 : decode cX9_next 117 = .ok (.aload_n 0, 1) := by decide +kernel
theorem dX9_next_118 : decode cX9_next 118 = .ok (.iload_n 3, 1) := by decide +kernel
theorem dX9_next_119 : decode cX9_next 119 = .ok (.putfield 43, 3) := by decide +kernel
theorem dX9_next_122 : decode cX9_next 122 = .ok (.iload_n 3, 1) := by decide +kernel
theorem dX9_next_123 : decode cX9_next 123 = .ok (.ifCond .eq 16, 3) := by decide +kernel
theorem dX9_next_126 : decode cX9_next 126 = .ok (.aload_n 0, 1) := by decide +kernel
theorem dX9_next_127 : decode cX9_next 127 = .ok (.getfield 37, 3) := by decide +kernel
theorem dX9_next_130 : decode cX9_next 130 = .ok (.aload_n 0, 1) := by decide +kernel
theorem dX9_next_131 : decode cX9_next 131 = .ok (.getfield 40, 3) := by decide +kernel
theorem dX9_next_134 : decode cX9_next 134 = .ok (.if_icmp .ne 5, 3) := by decide +kernel
theorem dX9_next_137 : decode cX9_next 137 = .ok (.iconst 1, 1) := by decide +kernel
theorem dX9_next_138 : decode cX9_next 138 = .ok (.ireturn, 1) := by decide +kernel
theorem dX9_next_139 : decode cX9_next 139 = .ok (.iinc 1 1, 3) := by decide +kernel
theorem dX9_next_142 : decode cX9_next 142 = .ok (.goto (-112), 3) := by decide +kernel
theorem dX9_next_145 : decode cX9_next 145 = .ok (.iconst 0, 1) := by decide +kernel
theorem dX9_next_146 : decode cX9_next 146 = .ok (.ireturn, 1) := by decide +kernel
theorem dX9_placeAt_0 : decode cX9_placeAt 0 = .ok (.aload_n 0, 1) := by decide +kernel
theorem dX9_placeAt_1 : decode cX9_placeAt 1 = .ok (.getfield 33, 3) := by decide +kernel
theorem dX9_placeAt_4 : decode cX9_placeAt 4 = .ok (.iconst (-1), 1) := by decide +kernel
theorem dX9_placeAt_5 : decode cX9_placeAt 5 = .ok (.if_icmp .eq 11, 3) := by decide +kernel
theorem dX9_placeAt_8 : decode cX9_placeAt 8 = .ok (.iload_n 1, 1) := by decide +kernel
theorem dX9_placeAt_9 : decode cX9_placeAt 9 = .ok (.aload_n 0, 1) := by decide +kernel
theorem dX9_placeAt_10 : decode cX9_placeAt 10 = .ok (.getfield 33, 3) := by decide +kernel
theorem dX9_placeAt_13 : decode cX9_placeAt 13 = .ok (.if_icmp .le 5, 3) := by decide +kernel
theorem dX9_placeAt_16 : decode cX9_placeAt 16 = .ok (.iload_n 1, 1) := by decide +kernel
theorem dX9_placeAt_17 : decode cX9_placeAt 17 = .ok (.ireturn, 1) := by decide +kernel
theorem dX9_placeAt_18 : decode cX9_placeAt 18 = .ok (.iload_n 1, 1) := by decide +kernel
theorem dX9_placeAt_19 : decode cX9_placeAt 19 = .ok (.ifCond .ne 10, 3) := by decide +kernel
theorem dX9_placeAt_22 : decode cX9_placeAt 22 = .ok (.aload_n 0, 1) := by decide +kernel
theorem dX9_placeAt_23 : decode cX9_placeAt 23 = .ok (.getfield 33, 3) := by decide +kernel
theorem dX9_placeAt_26 : decode cX9_placeAt 26 = .ok (.goto 6, 3) := by decide +kernel
theorem dX9_placeAt_29 : decode cX9_placeAt 29 = .ok (.iload_n 1, 1) := by decide +kernel
theorem dX9_placeAt_30 : decode cX9_placeAt 30 = .ok (.iconst 1, 1) := by decide +kernel
theorem dX9_placeAt_31 : decode cX9_placeAt 31 = .ok (.isub, 1) := by decide +kernel
theorem dX9_placeAt_32 : decode cX9_placeAt 32 = .ok (.ireturn, 1) := by decide +kernel
theorem dX9_takesTuple_0 : decode cX9_takesTuple 0 = .ok (.aload_n 0, 1) := by decide +kernel
theorem dX9_takesTuple_1 : decode cX9_takesTuple 1 = .ok (.getfield 25, 3) := by decide +kernel
theorem dX9_takesTuple_4 : decode cX9_takesTuple 4 = .ok (.iload_n 1, 1) := by decide +kernel
theorem dX9_takesTuple_5 : decode cX9_takesTuple 5 = .ok (.invokevirtual 85, 3) := by decide +kernel
theorem dX9_takesTuple_8 : decode cX9_takesTuple 8 = .ok (.istore_n 2, 1) := by decide +kernel
theorem dX9_takesTuple_9 : decode cX9_takesTuple 9 = .ok (.iload_n 1, 1) := by decide +kernel
theorem dX9_takesTuple_10 : decode cX9_takesTuple 10 = .ok (.ifCond .lt 8, 3) := by decide +kernel
theorem dX9_takesTuple_13 : decode cX9_takesTuple 13 = .ok (.iload_n 1, 1) := by decide +kernel
theorem dX9_takesTuple_14 : decode cX9_takesTuple 14 = .ok (.iconst 5, 1) := by decide +kernel
theorem dX9_takesTuple_15 : decode cX9_takesTuple 15 = .ok (.if_icmp .lt 5, 3) := by decide +kernel
theorem dX9_takesTuple_18 : decode cX9_takesTuple 18 = .ok (.iconst 0, 1) := by decide +kernel
theorem dX9_takesTuple_19 : decode cX9_takesTuple 19 = .ok (.ireturn, 1) := by decide +kernel
theorem dX9_takesTuple_20 : decode cX9_takesTuple 20 = .ok (.aload_n 0, 1) := by decide +kernel
theorem dX9_takesTuple_21 : decode cX9_takesTuple 21 = .ok (.getfield 43, 3) := by decide +kernel
theorem dX9_takesTuple_24 : decode cX9_takesTuple 24 = .ok (.ifCond .eq 14, 3) := by decide +kernel
theorem dX9_takesTuple_27 : decode cX9_takesTuple 27 = .ok (.aload_n 0, 1) := by decide +kernel
theorem dX9_takesTuple_28 : decode cX9_takesTuple 28 = .ok (.getfield 29, 3) := by decide +kernel
theorem dX9_takesTuple_31 : decode cX9_takesTuple 31 = .ok (.iload_n 2, 1) := by decide +kernel
theorem dX9_takesTuple_32 : decode cX9_takesTuple 32 = .ok (.invokevirtual 88, 3) := by decide +kernel
theorem dX9_takesTuple_35 : decode cX9_takesTuple 35 = .ok (.goto 16, 3) := by decide +kernel
theorem dX9_takesTuple_38 : decode cX9_takesTuple 38 = .ok (.aload_n 0, 1) := by decide +kernel
theorem dX9_takesTuple_39 : decode cX9_takesTuple 39 = .ok (.getfield 29, 3) := by decide +kernel
theorem dX9_takesTuple_42 : decode cX9_takesTuple 42 = .ok (.aload_n 0, 1) := by decide +kernel
theorem dX9_takesTuple_43 : decode cX9_takesTuple 43 = .ok (.getfield 15, 3) := by decide +kernel
theorem dX9_takesTuple_46 : decode cX9_takesTuple 46 = .ok (.iload_n 1, 1) := by decide +kernel
theorem dX9_takesTuple_47 : decode cX9_takesTuple 47 = .ok (.iaload, 1) := by decide +kernel
theorem dX9_takesTuple_48 : decode cX9_takesTuple 48 = .ok (.invokevirtual 93, 3) := by decide +kernel
theorem dX9_takesTuple_51 : decode cX9_takesTuple 51 = .ok (.istore_n 3, 1) := by decide +kernel
theorem dX9_takesTuple_52 : decode cX9_takesTuple 52 = .ok (.aload_n 0, 1) := by decide +kernel
theorem dX9_takesTuple_53 : decode cX9_takesTuple 53 = .ok (.getfield 43, 3) := by decide +kernel
theorem dX9_takesTuple_56 : decode cX9_takesTuple 56 = .ok (.ifCond .ne 13, 3) := by decide +kernel
theorem dX9_takesTuple_59 : decode cX9_takesTuple 59 = .ok (.aload_n 0, 1) := by decide +kernel
theorem dX9_takesTuple_60 : decode cX9_takesTuple 60 = .ok (.aload_n 0, 1) := by decide +kernel
theorem dX9_takesTuple_61 : decode cX9_takesTuple 61 = .ok (.getfield 18, 3) := by decide +kernel
theorem dX9_takesTuple_64 : decode cX9_takesTuple 64 = .ok (.iload_n 1, 1) := by decide +kernel
theorem dX9_takesTuple_65 : decode cX9_takesTuple 65 = .ok (.iaload, 1) := by decide +kernel
theorem dX9_takesTuple_66 : decode cX9_takesTuple 66 = .ok (.invokevirtual 47, 3) := by decide +kernel
theorem dX9_takesTuple_69 : decode cX9_takesTuple 69 = .ok (.aload_n 0, 1) := by decide +kernel
theorem dX9_takesTuple_70 : decode cX9_takesTuple 70 = .ok (.getfield 21, 3) := by decide +kernel
theorem dX9_takesTuple_73 : decode cX9_takesTuple 73 = .ok (.iload_n 2, 1) := by decide +kernel
theorem dX9_takesTuple_74 : decode cX9_takesTuple 74 = .ok (.invokevirtual 96, 3) := by decide +kernel
theorem dX9_takesTuple_77 : decode cX9_takesTuple 77 = .ok (.istore 4, 2) := by decide +kernel
theorem dX9_takesTuple_79 : decode cX9_takesTuple 79 = .ok (.iconst 0, 1) := by decide +kernel
theorem dX9_takesTuple_80 : decode cX9_takesTuple 80 = .ok (.istore 5, 2) := by decide +kernel
theorem dX9_takesTuple_82 : decode cX9_takesTuple 82 = .ok (.iload 5, 2) := by decide +kernel
theorem dX9_takesTuple_84 : decode cX9_takesTuple 84 = .ok (.bipush 48, 2) := by decide +kernel
theorem dX9_takesTuple_86 : decode cX9_takesTuple 86 = .ok (.if_icmp .ge 59, 3) := by decide +kernel
theorem dX9_takesTuple_89 : decode cX9_takesTuple 89 = .ok (.iload_n 3, 1) := by decide +kernel
theorem dX9_takesTuple_90 : decode cX9_takesTuple 90 = .ok (.iconst (-1), 1) := by decide +kernel
theorem dX9_takesTuple_91 : decode cX9_takesTuple 91 = .ok (.if_icmp .eq 54, 3) := by decide +kernel
theorem dX9_takesTuple_94 : decode cX9_takesTuple 94 = .ok (.aload_n 0, 1) := by decide +kernel
theorem dX9_takesTuple_95 : decode cX9_takesTuple 95 = .ok (.iload_n 1, 1) := by decide +kernel
theorem dX9_takesTuple_96 : decode cX9_takesTuple 96 = .ok (.iload_n 3, 1) := by decide +kernel
theorem dX9_takesTuple_97 : decode cX9_takesTuple 97 = .ok (.invokevirtual 101, 3) := by decide +kernel
theorem dX9_takesTuple_100 : decode cX9_takesTuple 100 = .ok (.ifCond .eq 30, 3) := by decide +kernel
theorem dX9_takesTuple_103 : decode cX9_takesTuple 103 = .ok (.aload_n 0, 1) := by decide +kernel
theorem dX9_takesTuple_104 : decode cX9_takesTuple 104 = .ok (.iload_n 1, 1) := by decide +kernel
theorem dX9_takesTuple_105 : decode cX9_takesTuple 105 = .ok (.iload 4, 2) := by decide +kernel
theorem dX9_takesTuple_107 : decode cX9_takesTuple 107 = .ok (.aload_n 0, 1) := by decide +kernel
theorem dX9_takesTuple_108 : decode cX9_takesTuple 108 = .ok (.getfield 29, 3) := by decide +kernel
theorem dX9_takesTuple_111 : decode cX9_takesTuple 111 = .ok (.iload_n 3, 1) := by decide +kernel
theorem dX9_takesTuple_112 : decode cX9_takesTuple 112 = .ok (.invokevirtual 105, 3) := by decide +kernel
theorem dX9_takesTuple_115 : decode cX9_takesTuple 115 = .ok (.invokevirtual 108, 3) := by decide +kernel
theorem dX9_takesTuple_118 : decode cX9_takesTuple 118 = .ok (.ifCond .eq 12, 3) := by decide +kernel
theorem dX9_takesTuple_121 : decode cX9_takesTuple 121 = .ok (.aload_n 0, 1) := by decide +kernel
theorem dX9_takesTuple_122 : decode cX9_takesTuple 122 = .ok (.getfield 15, 3) := by decide +kernel
theorem dX9_takesTuple_125 : decode cX9_takesTuple 125 = .ok (.iload_n 1, 1) := by decide +kernel
theorem dX9_takesTuple_126 : decode cX9_takesTuple 126 = .ok (.iload_n 3, 1) := by decide +kernel
theorem dX9_takesTuple_127 : decode cX9_takesTuple 127 = .ok (.iastore, 1) := by decide +kernel
theorem dX9_takesTuple_128 : decode cX9_takesTuple 128 = .ok (.iconst 1, 1) := by decide +kernel
theorem dX9_takesTuple_129 : decode cX9_takesTuple 129 = .ok (.ireturn, 1) := by decide +kernel
theorem dX9_takesTuple_130 : decode cX9_takesTuple 130 = .ok (.aload_n 0, 1) := by decide +kernel
theorem dX9_takesTuple_131 : decode cX9_takesTuple 131 = .ok (.getfield 29, 3) := by decide +kernel
theorem dX9_takesTuple_134 : decode cX9_takesTuple 134 = .ok (.iload_n 3, 1) := by decide +kernel
theorem dX9_takesTuple_135 : decode cX9_takesTuple 135 = .ok (.invokevirtual 93, 3) := by decide +kernel
theorem dX9_takesTuple_138 : decode cX9_takesTuple 138 = .ok (.istore_n 3, 1) := by decide +kernel
theorem dX9_takesTuple_139 : decode cX9_takesTuple 139 = .ok (.iinc 5 1, 3) := by decide +kernel
theorem dX9_takesTuple_142 : decode cX9_takesTuple 142 = .ok (.goto (-60), 3) := by decide +kernel
theorem dX9_takesTuple_145 : decode cX9_takesTuple 145 = .ok (.iconst 0, 1) := by decide +kernel
theorem dX9_takesTuple_146 : decode cX9_takesTuple 146 = .ok (.ireturn, 1) := by decide +kernel
theorem dX9_isTimely_0 : decode cX9_isTimely 0 = .ok (.aload_n 0, 1) := by decide +kernel
theorem dX9_isTimely_1 : decode cX9_isTimely 1 = .ok (.getfield 33, 3) := by decide +kernel
theorem dX9_isTimely_4 : decode cX9_isTimely 4 = .ok (.iconst (-1), 1) := by decide +kernel
theorem dX9_isTimely_5 : decode cX9_isTimely 5 = .ok (.if_icmp .eq 11, 3) := by decide +kernel
theorem dX9_isTimely_8 : decode cX9_isTimely 8 = .ok (.iload_n 1, 1) := by decide +kernel
theorem dX9_isTimely_9 : decode cX9_isTimely 9 = .ok (.aload_n 0, 1) := by decide +kernel
theorem dX9_isTimely_10 : decode cX9_isTimely 10 = .ok (.getfield 33, 3) := by decide +kernel
theorem dX9_isTimely_13 : decode cX9_isTimely 13 = .ok (.if_icmp .le 5, 3) := by decide +kernel
theorem dX9_isTimely_16 : decode cX9_isTimely 16 = .ok (.iconst 1, 1) := by decide +kernel
theorem dX9_isTimely_17 : decode cX9_isTimely 17 = .ok (.ireturn, 1) := by decide +kernel
theorem dX9_isTimely_18 : decode cX9_isTimely 18 = .ok (.aload_n 0, 1) := by decide +kernel
theorem dX9_isTimely_19 : decode cX9_isTimely 19 = .ok (.getfield 29, 3) := by decide +kernel
theorem dX9_isTimely_22 : decode cX9_isTimely 22 = .ok (.iload_n 2, 1) := by decide +kernel
theorem dX9_isTimely_23 : decode cX9_isTimely 23 = .ok (.invokevirtual 112, 3) := by decide +kernel
theorem dX9_isTimely_26 : decode cX9_isTimely 26 = .ok (.istore_n 3, 1) := by decide +kernel
theorem dX9_isTimely_27 : decode cX9_isTimely 27 = .ok (.iload_n 1, 1) := by decide +kernel
theorem dX9_isTimely_28 : decode cX9_isTimely 28 = .ok (.aload_n 0, 1) := by decide +kernel
theorem dX9_isTimely_29 : decode cX9_isTimely 29 = .ok (.getfield 33, 3) := by decide +kernel
theorem dX9_isTimely_32 : decode cX9_isTimely 32 = .ok (.if_icmp .ne 19, 3) := by decide +kernel
theorem dX9_isTimely_35 : decode cX9_isTimely 35 = .ok (.iload_n 3, 1) := by decide +kernel
theorem dX9_isTimely_36 : decode cX9_isTimely 36 = .ok (.aload_n 0, 1) := by decide +kernel
theorem dX9_isTimely_37 : decode cX9_isTimely 37 = .ok (.getfield 51, 3) := by decide +kernel
theorem dX9_isTimely_40 : decode cX9_isTimely 40 = .ok (.if_icmp .ne 7, 3) := by decide +kernel
theorem dX9_isTimely_43 : decode cX9_isTimely 43 = .ok (.iconst 1, 1) := by decide +kernel
theorem dX9_isTimely_44 : decode cX9_isTimely 44 = .ok (.goto 20, 3) := by decide +kernel
theorem dX9_isTimely_47 : decode cX9_isTimely 47 = .ok (.iconst 0, 1) := by decide +kernel
theorem dX9_isTimely_48 : decode cX9_isTimely 48 = .ok (.goto 16, 3) := by decide +kernel
theorem dX9_isTimely_51 : decode cX9_isTimely 51 = .ok (.iload_n 3, 1) := by decide +kernel
theorem dX9_isTimely_52 : decode cX9_isTimely 52 = .ok (.aload_n 0, 1) := by decide +kernel
theorem dX9_isTimely_53 : decode cX9_isTimely 53 = .ok (.getfield 51, 3) := by decide +kernel
theorem dX9_isTimely_56 : decode cX9_isTimely 56 = .ok (.if_icmp .ge 7, 3) := by decide +kernel
theorem dX9_isTimely_59 : decode cX9_isTimely 59 = .ok (.iconst 1, 1) := by decide +kernel
theorem dX9_isTimely_60 : decode cX9_isTimely 60 = .ok (.goto 4, 3) := by decide +kernel
theorem dX9_isTimely_63 : decode cX9_isTimely 63 = .ok (.iconst 0, 1) := by decide +kernel
theorem dX9_isTimely_64 : decode cX9_isTimely 64 = .ok (.ireturn, 1) := by decide +kernel
theorem dX9_fits_0 : decode cX9_fits 0 = .ok (.iconst 0, 1) := by decide +kernel
theorem dX9_fits_1 : decode cX9_fits 1 = .ok (.istore 4, 2) := by decide +kernel
theorem dX9_fits_3 : decode cX9_fits 3 = .ok (.iconst 0, 1) := by decide +kernel
theorem dX9_fits_4 : decode cX9_fits 4 = .ok (.istore 5, 2) := by decide +kernel
theorem dX9_fits_6 : decode cX9_fits 6 = .ok (.iload 5, 2) := by decide +kernel
theorem dX9_fits_8 : decode cX9_fits 8 = .ok (.iload_n 2, 1) := by decide +kernel
theorem dX9_fits_9 : decode cX9_fits 9 = .ok (.if_icmp .ge 79, 3) := by decide +kernel
theorem dX9_fits_12 : decode cX9_fits 12 = .ok (.aload_n 0, 1) := by decide +kernel
theorem dX9_fits_13 : decode cX9_fits 13 = .ok (.getfield 25, 3) := by decide +kernel
theorem dX9_fits_16 : decode cX9_fits 16 = .ok (.iload_n 1, 1) := by decide +kernel
theorem dX9_fits_17 : decode cX9_fits 17 = .ok (.iload 5, 2) := by decide +kernel
theorem dX9_fits_19 : decode cX9_fits 19 = .ok (.invokevirtual 54, 3) := by decide +kernel
theorem dX9_fits_22 : decode cX9_fits 22 = .ok (.istore 6, 2) := by decide +kernel
theorem dX9_fits_24 : decode cX9_fits 24 = .ok (.iload_n 3, 1) := by decide +kernel
theorem dX9_fits_25 : decode cX9_fits 25 = .ok (.iload 5, 2) := by decide +kernel
theorem dX9_fits_27 : decode cX9_fits 27 = .ok (.invokestatic 60, 3) := by decide +kernel
theorem dX9_fits_30 : decode cX9_fits 30 = .ok (.istore 7, 2) := by decide +kernel
theorem dX9_fits_32 : decode cX9_fits 32 = .ok (.aload_n 0, 1) := by decide +kernel
theorem dX9_fits_33 : decode cX9_fits 33 = .ok (.iload 6, 2) := by decide +kernel
theorem dX9_fits_35 : decode cX9_fits 35 = .ok (.invokevirtual 67, 3) := by decide +kernel
theorem dX9_fits_38 : decode cX9_fits 38 = .ok (.istore 8, 2) := by decide +kernel
theorem dX9_fits_40 : decode cX9_fits 40 = .ok (.iload 8, 2) := by decide +kernel
theorem dX9_fits_42 : decode cX9_fits 42 = .ok (.iconst (-1), 1) := by decide +kernel
theorem dX9_fits_43 : decode cX9_fits 43 = .ok (.if_icmp .ne 24, 3) := by decide +kernel
theorem dX9_fits_46 : decode cX9_fits 46 = .ok (.aload_n 0, 1) := by decide +kernel
theorem dX9_fits_47 : decode cX9_fits 47 = .ok (.iload 6, 2) := by decide +kernel
theorem dX9_fits_49 : decode cX9_fits 49 = .ok (.iload 7, 2) := by decide +kernel
theorem dX9_fits_51 : decode cX9_fits 51 = .ok (.invokevirtual 63, 3) := by decide +kernel
theorem dX9_fits_54 : decode cX9_fits 54 = .ok (.iload 4, 2) := by decide +kernel
theorem dX9_fits_56 : decode cX9_fits 56 = .ok (.iload 6, 2) := by decide +kernel
theorem dX9_fits_58 : decode cX9_fits 58 = .ok (.invokestatic 115, 3) := by decide +kernel
theorem dX9_fits_61 : decode cX9_fits 61 = .ok (.ior, 1) := by decide +kernel
theorem dX9_fits_62 : decode cX9_fits 62 = .ok (.istore 4, 2) := by decide +kernel
theorem dX9_fits_64 : decode cX9_fits 64 = .ok (.goto 18, 3) := by decide +kernel
theorem dX9_fits_67 : decode cX9_fits 67 = .ok (.iload 8, 2) := by decide +kernel
theorem dX9_fits_69 : decode cX9_fits 69 = .ok (.iload 7, 2) := by decide +kernel
theorem dX9_fits_71 : decode cX9_fits 71 = .ok (.if_icmp .eq 11, 3) := by decide +kernel
theorem dX9_fits_74 : decode cX9_fits 74 = .ok (.aload_n 0, 1) := by decide +kernel
theorem dX9_fits_75 : decode cX9_fits 75 = .ok (.iload 4, 2) := by decide +kernel
theorem dX9_fits_77 : decode cX9_fits 77 = .ok (.invokevirtual 47, 3) := by decide +kernel
theorem dX9_fits_80 : decode cX9_fits 80 = .ok (.iconst 0, 1) := by decide +kernel
theorem dX9_fits_81 : decode cX9_fits 81 = .ok (.ireturn, 1) := by decide +kernel
theorem dX9_fits_82 : decode cX9_fits 82 = .ok (.iinc 5 1, 3) := by decide +kernel
theorem dX9_fits_85 : decode cX9_fits 85 = .ok (.goto (-79), 3) := by decide +kernel
theorem dX9_fits_88 : decode cX9_fits 88 = .ok (.aload_n 0, 1) := by decide +kernel
theorem dX9_fits_89 : decode cX9_fits 89 = .ok (.iload_n 1, 1) := by decide +kernel
theorem dX9_fits_90 : decode cX9_fits 90 = .ok (.iload 4, 2) := by decide +kernel
theorem dX9_fits_92 : decode cX9_fits 92 = .ok (.invokevirtual 118, 3) := by decide +kernel
theorem dX9_fits_95 : decode cX9_fits 95 = .ok (.iconst 1, 1) := by decide +kernel
theorem dX9_fits_96 : decode cX9_fits 96 = .ok (.ireturn, 1) := by decide +kernel
theorem dX9_passes_0 : decode cX9_passes 0 = .ok (.aload_n 0, 1) := by decide +kernel
theorem dX9_passes_1 : decode cX9_passes 1 = .ok (.getfield 43, 3) := by decide +kernel
theorem dX9_passes_4 : decode cX9_passes 4 = .ok (.ifCond .ne 14, 3) := by decide +kernel
theorem dX9_passes_7 : decode cX9_passes 7 = .ok (.aload_n 0, 1) := by decide +kernel
theorem dX9_passes_8 : decode cX9_passes 8 = .ok (.aload_n 0, 1) := by decide +kernel
theorem dX9_passes_9 : decode cX9_passes 9 = .ok (.iload_n 1, 1) := by decide +kernel
theorem dX9_passes_10 : decode cX9_passes 10 = .ok (.invokevirtual 121, 3) := by decide +kernel
theorem dX9_passes_13 : decode cX9_passes 13 = .ok (.invokevirtual 47, 3) := by decide +kernel
theorem dX9_passes_16 : decode cX9_passes 16 = .ok (.iconst 0, 1) := by decide +kernel
theorem dX9_passes_17 : decode cX9_passes 17 = .ok (.ireturn, 1) := by decide +kernel
theorem dX9_passes_18 : decode cX9_passes 18 = .ok (.aload_n 0, 1) := by decide +kernel
theorem dX9_passes_19 : decode cX9_passes 19 = .ok (.iload_n 1, 1) := by decide +kernel
theorem dX9_passes_20 : decode cX9_passes 20 = .ok (.iconst 0, 1) := by decide +kernel
theorem dX9_passes_21 : decode cX9_passes 21 = .ok (.invokevirtual 118, 3) := by decide +kernel
theorem dX9_passes_24 : decode cX9_passes 24 = .ok (.aload_n 0, 1) := by decide +kernel
theorem dX9_passes_25 : decode cX9_passes 25 = .ok (.getfield 25, 3) := by decide +kernel
theorem dX9_passes_28 : decode cX9_passes 28 = .ok (.iload_n 1, 1) := by decide +kernel
theorem dX9_passes_29 : decode cX9_passes 29 = .ok (.invokevirtual 75, 3) := by decide +kernel
theorem dX9_passes_32 : decode cX9_passes 32 = .ok (.istore_n 2, 1) := by decide +kernel
theorem dX9_passes_33 : decode cX9_passes 33 = .ok (.iload_n 2, 1) := by decide +kernel
theorem dX9_passes_34 : decode cX9_passes 34 = .ok (.iconst 1, 1) := by decide +kernel
theorem dX9_passes_35 : decode cX9_passes 35 = .ok (.if_icmp .ne 51, 3) := by decide +kernel
theorem dX9_passes_38 : decode cX9_passes 38 = .ok (.aload_n 0, 1) := by decide +kernel
theorem dX9_passes_39 : decode cX9_passes 39 = .ok (.getfield 29, 3) := by decide +kernel
theorem dX9_passes_42 : decode cX9_passes 42 = .ok (.aload_n 0, 1) := by decide +kernel
theorem dX9_passes_43 : decode cX9_passes 43 = .ok (.getfield 25, 3) := by decide +kernel
theorem dX9_passes_46 : decode cX9_passes 46 = .ok (.iload_n 1, 1) := by decide +kernel
theorem dX9_passes_47 : decode cX9_passes 47 = .ok (.invokevirtual 85, 3) := by decide +kernel
theorem dX9_passes_50 : decode cX9_passes 50 = .ok (.aload_n 0, 1) := by decide +kernel
theorem dX9_passes_51 : decode cX9_passes 51 = .ok (.iload_n 1, 1) := by decide +kernel
theorem dX9_passes_52 : decode cX9_passes 52 = .ok (.invokevirtual 124, 3) := by decide +kernel
theorem dX9_passes_55 : decode cX9_passes 55 = .ok (.invokevirtual 127, 3) := by decide +kernel
theorem dX9_passes_58 : decode cX9_passes 58 = .ok (.istore_n 3, 1) := by decide +kernel
theorem dX9_passes_59 : decode cX9_passes 59 = .ok (.iload_n 3, 1) := by decide +kernel
theorem dX9_passes_60 : decode cX9_passes 60 = .ok (.iconst (-1), 1) := by decide +kernel
theorem dX9_passes_61 : decode cX9_passes 61 = .ok (.if_icmp .eq 19, 3) := by decide +kernel
theorem dX9_passes_64 : decode cX9_passes 64 = .ok (.aload_n 0, 1) := by decide +kernel
theorem dX9_passes_65 : decode cX9_passes 65 = .ok (.getfield 29, 3) := by decide +kernel
theorem dX9_passes_68 : decode cX9_passes 68 = .ok (.iload_n 3, 1) := by decide +kernel
theorem dX9_passes_69 : decode cX9_passes 69 = .ok (.invokevirtual 105, 3) := by decide +kernel
theorem dX9_passes_72 : decode cX9_passes 72 = .ok (.aload_n 0, 1) := by decide +kernel
theorem dX9_passes_73 : decode cX9_passes 73 = .ok (.iload_n 1, 1) := by decide +kernel
theorem dX9_passes_74 : decode cX9_passes 74 = .ok (.invokevirtual 124, 3) := by decide +kernel
theorem dX9_passes_77 : decode cX9_passes 77 = .ok (.if_icmp .eq 7, 3) := by decide +kernel
theorem dX9_passes_80 : decode cX9_passes 80 = .ok (.iconst 1, 1) := by decide +kernel
theorem dX9_passes_81 : decode cX9_passes 81 = .ok (.goto 4, 3) := by decide +kernel
theorem dX9_passes_84 : decode cX9_passes 84 = .ok (.iconst 0, 1) := by decide +kernel
theorem dX9_passes_85 : decode cX9_passes 85 = .ok (.ireturn, 1) := by decide +kernel
theorem dX9_passes_86 : decode cX9_passes 86 = .ok (.aload_n 0, 1) := by decide +kernel
theorem dX9_passes_87 : decode cX9_passes 87 = .ok (.getfield 25, 3) := by decide +kernel
theorem dX9_passes_90 : decode cX9_passes 90 = .ok (.iload_n 1, 1) := by decide +kernel
theorem dX9_passes_91 : decode cX9_passes 91 = .ok (.iconst 0, 1) := by decide +kernel
theorem dX9_passes_92 : decode cX9_passes 92 = .ok (.invokevirtual 54, 3) := by decide +kernel
theorem dX9_passes_95 : decode cX9_passes 95 = .ok (.istore_n 3, 1) := by decide +kernel
theorem dX9_passes_96 : decode cX9_passes 96 = .ok (.aload_n 0, 1) := by decide +kernel
theorem dX9_passes_97 : decode cX9_passes 97 = .ok (.iload_n 3, 1) := by decide +kernel
theorem dX9_passes_98 : decode cX9_passes 98 = .ok (.invokevirtual 67, 3) := by decide +kernel
theorem dX9_passes_101 : decode cX9_passes 101 = .ok (.istore 4, 2) := by decide +kernel
theorem dX9_passes_103 : decode cX9_passes 103 = .ok (.aload_n 0, 1) := by decide +kernel
theorem dX9_passes_104 : decode cX9_passes 104 = .ok (.aload_n 0, 1) := by decide +kernel
theorem dX9_passes_105 : decode cX9_passes 105 = .ok (.getfield 25, 3) := by decide +kernel
theorem dX9_passes_108 : decode cX9_passes 108 = .ok (.iload_n 1, 1) := by decide +kernel
theorem dX9_passes_109 : decode cX9_passes 109 = .ok (.iconst 1, 1) := by decide +kernel
theorem dX9_passes_110 : decode cX9_passes 110 = .ok (.invokevirtual 54, 3) := by decide +kernel
theorem dX9_passes_113 : decode cX9_passes 113 = .ok (.invokevirtual 67, 3) := by decide +kernel
theorem dX9_passes_116 : decode cX9_passes 116 = .ok (.istore 5, 2) := by decide +kernel
theorem dX9_passes_118 : decode cX9_passes 118 = .ok (.iload_n 2, 1) := by decide +kernel
theorem dX9_passes_119 : decode cX9_passes 119 = .ok (.iconst 2, 1) := by decide +kernel
theorem dX9_passes_120 : decode cX9_passes 120 = .ok (.if_icmp .ne 19, 3) := by decide +kernel
theorem dX9_passes_123 : decode cX9_passes 123 = .ok (.aload_n 0, 1) := by decide +kernel
theorem dX9_passes_124 : decode cX9_passes 124 = .ok (.getfield 25, 3) := by decide +kernel
theorem dX9_passes_127 : decode cX9_passes 127 = .ok (.iload_n 1, 1) := by decide +kernel
theorem dX9_passes_128 : decode cX9_passes 128 = .ok (.invokevirtual 85, 3) := by decide +kernel
theorem dX9_passes_131 : decode cX9_passes 131 = .ok (.iload 4, 2) := by decide +kernel
theorem dX9_passes_133 : decode cX9_passes 133 = .ok (.iload 5, 2) := by decide +kernel
theorem dX9_passes_135 : decode cX9_passes 135 = .ok (.invokestatic 130, 3) := by decide +kernel
theorem dX9_passes_138 : decode cX9_passes 138 = .ok (.ireturn, 1) := by decide +kernel
theorem dX9_passes_139 : decode cX9_passes 139 = .ok (.bipush 127, 2) := by decide +kernel
theorem dX9_passes_141 : decode cX9_passes 141 = .ok (.iload 5, 2) := by decide +kernel
theorem dX9_passes_143 : decode cX9_passes 143 = .ok (.aload_n 0, 1) := by decide +kernel
theorem dX9_passes_144 : decode cX9_passes 144 = .ok (.aload_n 0, 1) := by decide +kernel
theorem dX9_passes_145 : decode cX9_passes 145 = .ok (.getfield 25, 3) := by decide +kernel
theorem dX9_passes_148 : decode cX9_passes 148 = .ok (.iload_n 1, 1) := by decide +kernel
theorem dX9_passes_149 : decode cX9_passes 149 = .ok (.iconst 2, 1) := by decide +kernel
theorem dX9_passes_150 : decode cX9_passes 150 = .ok (.invokevirtual 54, 3) := by decide +kernel
theorem dX9_passes_153 : decode cX9_passes 153 = .ok (.invokevirtual 67, 3) := by decide +kernel
theorem dX9_passes_156 : decode cX9_passes 156 = .ok (.iadd, 1) := by decide +kernel
theorem dX9_passes_157 : decode cX9_passes 157 = .ok (.invokestatic 133, 3) := by decide +kernel
theorem dX9_passes_160 : decode cX9_passes 160 = .ok (.istore 6, 2) := by decide +kernel
theorem dX9_passes_162 : decode cX9_passes 162 = .ok (.iload 4, 2) := by decide +kernel
theorem dX9_passes_164 : decode cX9_passes 164 = .ok (.iconst (-1), 1) := by decide +kernel
theorem dX9_passes_165 : decode cX9_passes 165 = .ok (.if_icmp .ne 19, 3) := by decide +kernel
theorem dX9_passes_168 : decode cX9_passes 168 = .ok (.aload_n 0, 1) := by decide +kernel
theorem dX9_passes_169 : decode cX9_passes 169 = .ok (.iload_n 3, 1) := by decide +kernel
theorem dX9_passes_170 : decode cX9_passes 170 = .ok (.iload 6, 2) := by decide +kernel
theorem dX9_passes_172 : decode cX9_passes 172 = .ok (.invokevirtual 63, 3) := by decide +kernel
theorem dX9_passes_175 : decode cX9_passes 175 = .ok (.aload_n 0, 1) := by decide +kernel
theorem dX9_passes_176 : decode cX9_passes 176 = .ok (.iload_n 1, 1) := by decide +kernel
theorem dX9_passes_177 : decode cX9_passes 177 = .ok (.iload_n 3, 1) := by decide +kernel
theorem dX9_passes_178 : decode cX9_passes 178 = .ok (.invokestatic 115, 3) := by decide +kernel
theorem dX9_passes_181 : decode cX9_passes 181 = .ok (.invokevirtual 118, 3) := by decide +kernel
theorem dX9_passes_184 : decode cX9_passes 184 = .ok (.iload 4, 2) := by decide +kernel
theorem dX9_passes_186 : decode cX9_passes 186 = .ok (.iconst (-1), 1) := by decide +kernel
theorem dX9_passes_187 : decode cX9_passes 187 = .ok (.if_icmp .eq 10, 3) := by decide +kernel
theorem dX9_passes_190 : decode cX9_passes 190 = .ok (.iload 4, 2) := by decide +kernel
theorem dX9_passes_192 : decode cX9_passes 192 = .ok (.iload 6, 2) := by decide +kernel
theorem dX9_passes_194 : decode cX9_passes 194 = .ok (.if_icmp .ne 7, 3) := by decide +kernel
theorem dX9_passes_197 : decode cX9_passes 197 = .ok (.iconst 1, 1) := by decide +kernel
theorem dX9_passes_198 : decode cX9_passes 198 = .ok (.goto 4, 3) := by decide +kernel
theorem dX9_passes_201 : decode cX9_passes 201 = .ok (.iconst 0, 1) := by decide +kernel
theorem dX9_passes_202 : decode cX9_passes 202 = .ok (.ireturn, 1) := by decide +kernel
theorem dX9_isSo_0 : decode cX9_isSo 0 = .ok (.iload_n 0, 1) := by decide +kernel
theorem dX9_isSo_1 : decode cX9_isSo 1 = .ok (.ifCond .eq 8, 3) := by decide +kernel
theorem dX9_isSo_4 : decode cX9_isSo 4 = .ok (.iload_n 0, 1) := by decide +kernel
theorem dX9_isSo_5 : decode cX9_isSo 5 = .ok (.iconst 1, 1) := by decide +kernel
theorem dX9_isSo_6 : decode cX9_isSo 6 = .ok (.if_icmp .ne 31, 3) := by decide +kernel
theorem dX9_isSo_9 : decode cX9_isSo 9 = .ok (.iload_n 1, 1) := by decide +kernel
theorem dX9_isSo_10 : decode cX9_isSo 10 = .ok (.iload_n 2, 1) := by decide +kernel
theorem dX9_isSo_11 : decode cX9_isSo 11 = .ok (.if_icmp .ne 7, 3) := by decide +kernel
theorem dX9_isSo_14 : decode cX9_isSo 14 = .ok (.iconst 1, 1) := by decide +kernel
theorem dX9_isSo_15 : decode cX9_isSo 15 = .ok (.goto 4, 3) := by decide +kernel
theorem dX9_isSo_18 : decode cX9_isSo 18 = .ok (.iconst 0, 1) := by decide +kernel
theorem dX9_isSo_19 : decode cX9_isSo 19 = .ok (.iload_n 0, 1) := by decide +kernel
theorem dX9_isSo_20 : decode cX9_isSo 20 = .ok (.ifCond .ne 7, 3) := by decide +kernel
theorem dX9_isSo_23 : decode cX9_isSo 23 = .ok (.iconst 1, 1) := by decide +kernel
theorem dX9_isSo_24 : decode cX9_isSo 24 = .ok (.goto 4, 3) := by decide +kernel
theorem dX9_isSo_27 : decode cX9_isSo 27 = .ok (.iconst 0, 1) := by decide +kernel
theorem dX9_isSo_28 : decode cX9_isSo 28 = .ok (.if_icmp .ne 7, 3) := by decide +kernel
theorem dX9_isSo_31 : decode cX9_isSo 31 = .ok (.iconst 1, 1) := by decide +kernel
theorem dX9_isSo_32 : decode cX9_isSo 32 = .ok (.goto 4, 3) := by decide +kernel
theorem dX9_isSo_35 : decode cX9_isSo 35 = .ok (.iconst 0, 1) := by decide +kernel
theorem dX9_isSo_36 : decode cX9_isSo 36 = .ok (.ireturn, 1) := by decide +kernel
theorem dX9_isSo_37 : decode cX9_isSo 37 = .ok (.iload_n 0, 1) := by decide +kernel
theorem dX9_isSo_38 : decode cX9_isSo 38 = .ok (.iconst 2, 1) := by decide +kernel
theorem dX9_isSo_39 : decode cX9_isSo 39 = .ok (.if_icmp .ne 16, 3) := by decide +kernel
theorem dX9_isSo_42 : decode cX9_isSo 42 = .ok (.iload_n 1, 1) := by decide +kernel
theorem dX9_isSo_43 : decode cX9_isSo 43 = .ok (.iload_n 2, 1) := by decide +kernel
theorem dX9_isSo_44 : decode cX9_isSo 44 = .ok (.if_icmp .ge 7, 3) := by decide +kernel
theorem dX9_isSo_47 : decode cX9_isSo 47 = .ok (.iconst 1, 1) := by decide +kernel
theorem dX9_isSo_48 : decode cX9_isSo 48 = .ok (.goto 17, 3) := by decide +kernel
theorem dX9_isSo_51 : decode cX9_isSo 51 = .ok (.iconst 0, 1) := by decide +kernel
theorem dX9_isSo_52 : decode cX9_isSo 52 = .ok (.goto 13, 3) := by decide +kernel
theorem dX9_isSo_55 : decode cX9_isSo 55 = .ok (.iload_n 1, 1) := by decide +kernel
theorem dX9_isSo_56 : decode cX9_isSo 56 = .ok (.iload_n 2, 1) := by decide +kernel
theorem dX9_isSo_57 : decode cX9_isSo 57 = .ok (.if_icmp .gt 7, 3) := by decide +kernel
theorem dX9_isSo_60 : decode cX9_isSo 60 = .ok (.iconst 1, 1) := by decide +kernel
theorem dX9_isSo_61 : decode cX9_isSo 61 = .ok (.goto 4, 3) := by decide +kernel
theorem dX9_isSo_64 : decode cX9_isSo 64 = .ok (.iconst 0, 1) := by decide +kernel
theorem dX9_isSo_65 : decode cX9_isSo 65 = .ok (.ireturn, 1) := by decide +kernel
theorem dX9_valueOf_0 : decode cX9_valueOf 0 = .ok (.iconst (-1), 1) := by decide +kernel
theorem dX9_valueOf_1 : decode cX9_valueOf 1 = .ok (.iload_n 1, 1) := by decide +kernel
theorem dX9_valueOf_2 : decode cX9_valueOf 2 = .ok (.isub, 1) := by decide +kernel
theorem dX9_valueOf_3 : decode cX9_valueOf 3 = .ok (.istore_n 2, 1) := by decide +kernel
theorem dX9_valueOf_4 : decode cX9_valueOf 4 = .ok (.iload_n 2, 1) := by decide +kernel
theorem dX9_valueOf_5 : decode cX9_valueOf 5 = .ok (.ifCond .lt 21, 3) := by decide +kernel
theorem dX9_valueOf_8 : decode cX9_valueOf 8 = .ok (.iload_n 2, 1) := by decide +kernel
theorem dX9_valueOf_9 : decode cX9_valueOf 9 = .ok (.aload_n 0, 1) := by decide +kernel
theorem dX9_valueOf_10 : decode cX9_valueOf 10 = .ok (.getfield 9, 3) := by decide +kernel
theorem dX9_valueOf_13 : decode cX9_valueOf 13 = .ok (.arraylength, 1) := by decide +kernel
theorem dX9_valueOf_14 : decode cX9_valueOf 14 = .ok (.if_icmp .ge 12, 3) := by decide +kernel
theorem dX9_valueOf_17 : decode cX9_valueOf 17 = .ok (.aload_n 0, 1) := by decide +kernel
theorem dX9_valueOf_18 : decode cX9_valueOf 18 = .ok (.getfield 9, 3) := by decide +kernel
theorem dX9_valueOf_21 : decode cX9_valueOf 21 = .ok (.iload_n 2, 1) := by decide +kernel
theorem dX9_valueOf_22 : decode cX9_valueOf 22 = .ok (.iaload, 1) := by decide +kernel
theorem dX9_valueOf_23 : decode cX9_valueOf 23 = .ok (.goto 4, 3) := by decide +kernel
theorem dX9_valueOf_26 : decode cX9_valueOf 26 = .ok (.iload_n 1, 1) := by decide +kernel
theorem dX9_valueOf_27 : decode cX9_valueOf 27 = .ok (.ireturn, 1) := by decide +kernel
theorem dX9_bindIfFree_0 : decode cX9_bindIfFree 0 = .ok (.iconst (-1), 1) := by decide +kernel
theorem dX9_bindIfFree_1 : decode cX9_bindIfFree 1 = .ok (.iload_n 1, 1) := by decide +kernel
theorem dX9_bindIfFree_2 : decode cX9_bindIfFree 2 = .ok (.isub, 1) := by decide +kernel
theorem dX9_bindIfFree_3 : decode cX9_bindIfFree 3 = .ok (.istore_n 3, 1) := by decide +kernel
theorem dX9_bindIfFree_4 : decode cX9_bindIfFree 4 = .ok (.iload_n 3, 1) := by decide +kernel
theorem dX9_bindIfFree_5 : decode cX9_bindIfFree 5 = .ok (.ifCond .lt 29, 3) := by decide +kernel
theorem dX9_bindIfFree_8 : decode cX9_bindIfFree 8 = .ok (.iload_n 3, 1) := by decide +kernel
theorem dX9_bindIfFree_9 : decode cX9_bindIfFree 9 = .ok (.aload_n 0, 1) := by decide +kernel
theorem dX9_bindIfFree_10 : decode cX9_bindIfFree 10 = .ok (.getfield 9, 3) := by decide +kernel
theorem dX9_bindIfFree_13 : decode cX9_bindIfFree 13 = .ok (.arraylength, 1) := by decide +kernel
theorem dX9_bindIfFree_14 : decode cX9_bindIfFree 14 = .ok (.if_icmp .ge 20, 3) := by decide +kernel
theorem dX9_bindIfFree_17 : decode cX9_bindIfFree 17 = .ok (.aload_n 0, 1) := by decide +kernel
theorem dX9_bindIfFree_18 : decode cX9_bindIfFree 18 = .ok (.getfield 9, 3) := by decide +kernel
theorem dX9_bindIfFree_21 : decode cX9_bindIfFree 21 = .ok (.iload_n 3, 1) := by decide +kernel
theorem dX9_bindIfFree_22 : decode cX9_bindIfFree 22 = .ok (.iaload, 1) := by decide +kernel
theorem dX9_bindIfFree_23 : decode cX9_bindIfFree 23 = .ok (.iconst (-1), 1) := by decide +kernel
theorem dX9_bindIfFree_24 : decode cX9_bindIfFree 24 = .ok (.if_icmp .ne 10, 3) := by decide +kernel
theorem dX9_bindIfFree_27 : decode cX9_bindIfFree 27 = .ok (.aload_n 0, 1) := by decide +kernel
theorem dX9_bindIfFree_28 : decode cX9_bindIfFree 28 = .ok (.getfield 9, 3) := by decide +kernel
theorem dX9_bindIfFree_31 : decode cX9_bindIfFree 31 = .ok (.iload_n 3, 1) := by decide +kernel
theorem dX9_bindIfFree_32 : decode cX9_bindIfFree 32 = .ok (.iload_n 2, 1) := by decide +kernel
theorem dX9_bindIfFree_33 : decode cX9_bindIfFree 33 = .ok (.iastore, 1) := by decide +kernel
theorem dX9_bindIfFree_34 : decode cX9_bindIfFree 34 = .ok (.return_, 1) := by decide +kernel
theorem dX9_unbind_0 : decode cX9_unbind 0 = .ok (.iconst 0, 1) := by decide +kernel
theorem dX9_unbind_1 : decode cX9_unbind 1 = .ok (.istore_n 2, 1) := by decide +kernel
theorem dX9_unbind_2 : decode cX9_unbind 2 = .ok (.iload_n 2, 1) := by decide +kernel
theorem dX9_unbind_3 : decode cX9_unbind 3 = .ok (.aload_n 0, 1) := by decide +kernel
theorem dX9_unbind_4 : decode cX9_unbind 4 = .ok (.getfield 9, 3) := by decide +kernel
theorem dX9_unbind_7 : decode cX9_unbind 7 = .ok (.arraylength, 1) := by decide +kernel
theorem dX9_unbind_8 : decode cX9_unbind 8 = .ok (.if_icmp .ge 28, 3) := by decide +kernel
theorem dX9_unbind_11 : decode cX9_unbind 11 = .ok (.iload_n 1, 1) := by decide +kernel
theorem dX9_unbind_12 : decode cX9_unbind 12 = .ok (.ifCond .eq 24, 3) := by decide +kernel
theorem dX9_unbind_15 : decode cX9_unbind 15 = .ok (.iload_n 1, 1) := by decide +kernel
theorem dX9_unbind_16 : decode cX9_unbind 16 = .ok (.iload_n 2, 1) := by decide +kernel
theorem dX9_unbind_17 : decode cX9_unbind 17 = .ok (.ishr, 1) := by decide +kernel
theorem dX9_unbind_18 : decode cX9_unbind 18 = .ok (.iconst 1, 1) := by decide +kernel
theorem dX9_unbind_19 : decode cX9_unbind 19 = .ok (.iand, 1) := by decide +kernel
theorem dX9_unbind_20 : decode cX9_unbind 20 = .ok (.ifCond .eq 10, 3) := by decide +kernel
theorem dX9_unbind_23 : decode cX9_unbind 23 = .ok (.aload_n 0, 1) := by decide +kernel
theorem dX9_unbind_24 : decode cX9_unbind 24 = .ok (.getfield 9, 3) := by decide +kernel
theorem dX9_unbind_27 : decode cX9_unbind 27 = .ok (.iload_n 2, 1) := by decide +kernel
theorem dX9_unbind_28 : decode cX9_unbind 28 = .ok (.iconst (-1), 1) := by decide +kernel
theorem dX9_unbind_29 : decode cX9_unbind 29 = .ok (.iastore, 1) := by decide +kernel
theorem dX9_unbind_30 : decode cX9_unbind 30 = .ok (.iinc 2 1, 3) := by decide +kernel
theorem dX9_unbind_33 : decode cX9_unbind 33 = .ok (.goto (-31), 3) := by decide +kernel
theorem dX9_unbind_36 : decode cX9_unbind 36 = .ok (.return_, 1) := by decide +kernel
theorem dX9_noteBound_0 : decode cX9_noteBound 0 = .ok (.iload_n 1, 1) := by decide +kernel
theorem dX9_noteBound_1 : decode cX9_noteBound 1 = .ok (.ifCond .lt 19, 3) := by decide +kernel
theorem dX9_noteBound_4 : decode cX9_noteBound 4 = .ok (.iload_n 1, 1) := by decide +kernel
theorem dX9_noteBound_5 : decode cX9_noteBound 5 = .ok (.aload_n 0, 1) := by decide +kernel
theorem dX9_noteBound_6 : decode cX9_noteBound 6 = .ok (.getfield 18, 3) := by decide +kernel
theorem dX9_noteBound_9 : decode cX9_noteBound 9 = .ok (.arraylength, 1) := by decide +kernel
theorem dX9_noteBound_10 : decode cX9_noteBound 10 = .ok (.if_icmp .ge 10, 3) := by decide +kernel
theorem dX9_noteBound_13 : decode cX9_noteBound 13 = .ok (.aload_n 0, 1) := by decide +kernel
theorem dX9_noteBound_14 : decode cX9_noteBound 14 = .ok (.getfield 18, 3) := by decide +kernel
theorem dX9_noteBound_17 : decode cX9_noteBound 17 = .ok (.iload_n 1, 1) := by decide +kernel
theorem dX9_noteBound_18 : decode cX9_noteBound 18 = .ok (.iload_n 2, 1) := by decide +kernel
theorem dX9_noteBound_19 : decode cX9_noteBound 19 = .ok (.iastore, 1) := by decide +kernel
theorem dX9_noteBound_20 : decode cX9_noteBound 20 = .ok (.return_, 1) := by decide +kernel
theorem dX9_boundAt_0 : decode cX9_boundAt 0 = .ok (.iload_n 1, 1) := by decide +kernel
theorem dX9_boundAt_1 : decode cX9_boundAt 1 = .ok (.ifCond .lt 21, 3) := by decide +kernel
theorem dX9_boundAt_4 : decode cX9_boundAt 4 = .ok (.iload_n 1, 1) := by decide +kernel
theorem dX9_boundAt_5 : decode cX9_boundAt 5 = .ok (.aload_n 0, 1) := by decide +kernel
theorem dX9_boundAt_6 : decode cX9_boundAt 6 = .ok (.getfield 18, 3) := by decide +kernel
theorem dX9_boundAt_9 : decode cX9_boundAt 9 = .ok (.arraylength, 1) := by decide +kernel
theorem dX9_boundAt_10 : decode cX9_boundAt 10 = .ok (.if_icmp .ge 12, 3) := by decide +kernel
theorem dX9_boundAt_13 : decode cX9_boundAt 13 = .ok (.aload_n 0, 1) := by decide +kernel
theorem dX9_boundAt_14 : decode cX9_boundAt 14 = .ok (.getfield 18, 3) := by decide +kernel
theorem dX9_boundAt_17 : decode cX9_boundAt 17 = .ok (.iload_n 1, 1) := by decide +kernel
theorem dX9_boundAt_18 : decode cX9_boundAt 18 = .ok (.iaload, 1) := by decide +kernel
theorem dX9_boundAt_19 : decode cX9_boundAt 19 = .ok (.goto 4, 3) := by decide +kernel
theorem dX9_boundAt_22 : decode cX9_boundAt 22 = .ok (.iconst 0, 1) := by decide +kernel
theorem dX9_boundAt_23 : decode cX9_boundAt 23 = .ok (.ireturn, 1) := by decide +kernel
theorem dX9_tuple_0 : decode cX9_tuple 0 = .ok (.iconst 0, 1) := by decide +kernel
theorem dX9_tuple_1 : decode cX9_tuple 1 = .ok (.aload_n 0, 1) := by decide +kernel
theorem dX9_tuple_2 : decode cX9_tuple 2 = .ok (.aload_n 0, 1) := by decide +kernel
theorem dX9_tuple_3 : decode cX9_tuple 3 = .ok (.getfield 25, 3) := by decide +kernel
theorem dX9_tuple_6 : decode cX9_tuple 6 = .ok (.iload_n 1, 1) := by decide +kernel
theorem dX9_tuple_7 : decode cX9_tuple 7 = .ok (.iconst 0, 1) := by decide +kernel
theorem dX9_tuple_8 : decode cX9_tuple 8 = .ok (.invokevirtual 54, 3) := by decide +kernel
theorem dX9_tuple_11 : decode cX9_tuple 11 = .ok (.invokevirtual 67, 3) := by decide +kernel
theorem dX9_tuple_14 : decode cX9_tuple 14 = .ok (.invokestatic 138, 3) := by decide +kernel
theorem dX9_tuple_17 : decode cX9_tuple 17 = .ok (.iconst 0, 1) := by decide +kernel
theorem dX9_tuple_18 : decode cX9_tuple 18 = .ok (.aload_n 0, 1) := by decide +kernel
theorem dX9_tuple_19 : decode cX9_tuple 19 = .ok (.aload_n 0, 1) := by decide +kernel
theorem dX9_tuple_20 : decode cX9_tuple 20 = .ok (.getfield 25, 3) := by decide +kernel
theorem dX9_tuple_23 : decode cX9_tuple 23 = .ok (.iload_n 1, 1) := by decide +kernel
theorem dX9_tuple_24 : decode cX9_tuple 24 = .ok (.iconst 1, 1) := by decide +kernel
theorem dX9_tuple_25 : decode cX9_tuple 25 = .ok (.invokevirtual 54, 3) := by decide +kernel
theorem dX9_tuple_28 : decode cX9_tuple 28 = .ok (.invokevirtual 67, 3) := by decide +kernel
theorem dX9_tuple_31 : decode cX9_tuple 31 = .ok (.invokestatic 138, 3) := by decide +kernel
theorem dX9_tuple_34 : decode cX9_tuple 34 = .ok (.iconst 0, 1) := by decide +kernel
theorem dX9_tuple_35 : decode cX9_tuple 35 = .ok (.aload_n 0, 1) := by decide +kernel
theorem dX9_tuple_36 : decode cX9_tuple 36 = .ok (.aload_n 0, 1) := by decide +kernel
theorem dX9_tuple_37 : decode cX9_tuple 37 = .ok (.getfield 25, 3) := by decide +kernel
theorem dX9_tuple_40 : decode cX9_tuple 40 = .ok (.iload_n 1, 1) := by decide +kernel
theorem dX9_tuple_41 : decode cX9_tuple 41 = .ok (.iconst 2, 1) := by decide +kernel
theorem dX9_tuple_42 : decode cX9_tuple 42 = .ok (.invokevirtual 54, 3) := by decide +kernel
theorem dX9_tuple_45 : decode cX9_tuple 45 = .ok (.invokevirtual 67, 3) := by decide +kernel
theorem dX9_tuple_48 : decode cX9_tuple 48 = .ok (.invokestatic 138, 3) := by decide +kernel
theorem dX9_tuple_51 : decode cX9_tuple 51 = .ok (.invokestatic 141, 3) := by decide +kernel
theorem dX9_tuple_54 : decode cX9_tuple 54 = .ok (.ireturn, 1) := by decide +kernel
theorem dX9_goal_0 : decode cX9_goal 0 = .ok (.aload_n 0, 1) := by decide +kernel
theorem dX9_goal_1 : decode cX9_goal 1 = .ok (.getfield 21, 3) := by decide +kernel
theorem dX9_goal_4 : decode cX9_goal 4 = .ok (.aload_n 0, 1) := by decide +kernel
theorem dX9_goal_5 : decode cX9_goal 5 = .ok (.getfield 25, 3) := by decide +kernel
theorem dX9_goal_8 : decode cX9_goal 8 = .ok (.iload_n 1, 1) := by decide +kernel
theorem dX9_goal_9 : decode cX9_goal 9 = .ok (.invokevirtual 85, 3) := by decide +kernel
theorem dX9_goal_12 : decode cX9_goal 12 = .ok (.aload_n 0, 1) := by decide +kernel
theorem dX9_goal_13 : decode cX9_goal 13 = .ok (.aload_n 0, 1) := by decide +kernel
theorem dX9_goal_14 : decode cX9_goal 14 = .ok (.getfield 25, 3) := by decide +kernel
theorem dX9_goal_17 : decode cX9_goal 17 = .ok (.iload_n 1, 1) := by decide +kernel
theorem dX9_goal_18 : decode cX9_goal 18 = .ok (.iconst 0, 1) := by decide +kernel
theorem dX9_goal_19 : decode cX9_goal 19 = .ok (.invokevirtual 54, 3) := by decide +kernel
theorem dX9_goal_22 : decode cX9_goal 22 = .ok (.invokevirtual 67, 3) := by decide +kernel
theorem dX9_goal_25 : decode cX9_goal 25 = .ok (.aload_n 0, 1) := by decide +kernel
theorem dX9_goal_26 : decode cX9_goal 26 = .ok (.aload_n 0, 1) := by decide +kernel
theorem dX9_goal_27 : decode cX9_goal 27 = .ok (.getfield 25, 3) := by decide +kernel
theorem dX9_goal_30 : decode cX9_goal 30 = .ok (.iload_n 1, 1) := by decide +kernel
theorem dX9_goal_31 : decode cX9_goal 31 = .ok (.iconst 1, 1) := by decide +kernel
theorem dX9_goal_32 : decode cX9_goal 32 = .ok (.invokevirtual 54, 3) := by decide +kernel
theorem dX9_goal_35 : decode cX9_goal 35 = .ok (.invokevirtual 67, 3) := by decide +kernel
theorem dX9_goal_38 : decode cX9_goal 38 = .ok (.aload_n 0, 1) := by decide +kernel
theorem dX9_goal_39 : decode cX9_goal 39 = .ok (.aload_n 0, 1) := by decide +kernel
theorem dX9_goal_40 : decode cX9_goal 40 = .ok (.getfield 25, 3) := by decide +kernel
theorem dX9_goal_43 : decode cX9_goal 43 = .ok (.iload_n 1, 1) := by decide +kernel
theorem dX9_goal_44 : decode cX9_goal 44 = .ok (.iconst 2, 1) := by decide +kernel
theorem dX9_goal_45 : decode cX9_goal 45 = .ok (.invokevirtual 54, 3) := by decide +kernel
theorem dX9_goal_48 : decode cX9_goal 48 = .ok (.invokevirtual 67, 3) := by decide +kernel
theorem dX9_goal_51 : decode cX9_goal 51 = .ok (.invokevirtual 145, 3) := by decide +kernel
theorem dX9_goal_54 : decode cX9_goal 54 = .ok (.ireturn, 1) := by decide +kernel
theorem dX9_cost_0 : decode cX9_cost 0 = .ok (.iconst 1, 1) := by decide +kernel
theorem dX9_cost_1 : decode cX9_cost 1 = .ok (.istore_n 2, 1) := by decide +kernel
theorem dX9_cost_2 : decode cX9_cost 2 = .ok (.iconst 0, 1) := by decide +kernel
theorem dX9_cost_3 : decode cX9_cost 3 = .ok (.istore_n 3, 1) := by decide +kernel
theorem dX9_cost_4 : decode cX9_cost 4 = .ok (.iload_n 3, 1) := by decide +kernel
theorem dX9_cost_5 : decode cX9_cost 5 = .ok (.aload_n 0, 1) := by decide +kernel
theorem dX9_cost_6 : decode cX9_cost 6 = .ok (.getfield 25, 3) := by decide +kernel
theorem dX9_cost_9 : decode cX9_cost 9 = .ok (.getfield 149, 3) := by decide +kernel
theorem dX9_cost_12 : decode cX9_cost 12 = .ok (.if_icmp .ge 46, 3) := by decide +kernel
theorem dX9_cost_15 : decode cX9_cost 15 = .ok (.iload_n 3, 1) := by decide +kernel
theorem dX9_cost_16 : decode cX9_cost 16 = .ok (.aload_n 0, 1) := by decide +kernel
theorem dX9_cost_17 : decode cX9_cost 17 = .ok (.getfield 15, 3) := by decide +kernel
theorem dX9_cost_20 : decode cX9_cost 20 = .ok (.arraylength, 1) := by decide +kernel
theorem dX9_cost_21 : decode cX9_cost 21 = .ok (.if_icmp .ge 37, 3) := by decide +kernel
theorem dX9_cost_24 : decode cX9_cost 24 = .ok (.iload_n 2, 1) := by decide +kernel
theorem dX9_cost_25 : decode cX9_cost 25 = .ok (.aload_n 0, 1) := by decide +kernel
theorem dX9_cost_26 : decode cX9_cost 26 = .ok (.getfield 25, 3) := by decide +kernel
theorem dX9_cost_29 : decode cX9_cost 29 = .ok (.iload_n 3, 1) := by decide +kernel
theorem dX9_cost_30 : decode cX9_cost 30 = .ok (.invokevirtual 75, 3) := by decide +kernel
theorem dX9_cost_33 : decode cX9_cost 33 = .ok (.ifCond .ne 16, 3) := by decide +kernel
theorem dX9_cost_36 : decode cX9_cost 36 = .ok (.aload_n 1, 1) := by decide +kernel
theorem dX9_cost_37 : decode cX9_cost 37 = .ok (.aload_n 0, 1) := by decide +kernel
theorem dX9_cost_38 : decode cX9_cost 38 = .ok (.getfield 15, 3) := by decide +kernel
theorem dX9_cost_41 : decode cX9_cost 41 = .ok (.iload_n 3, 1) := by decide +kernel
theorem dX9_cost_42 : decode cX9_cost 42 = .ok (.iaload, 1) := by decide +kernel
theorem dX9_cost_43 : decode cX9_cost 43 = .ok (.invokevirtual 152, 3) := by decide +kernel
theorem dX9_cost_46 : decode cX9_cost 46 = .ok (.goto 4, 3) := by decide +kernel
theorem dX9_cost_49 : decode cX9_cost 49 = .ok (.iconst 0, 1) := by decide +kernel
theorem dX9_cost_50 : decode cX9_cost 50 = .ok (.iadd, 1) := by decide +kernel
theorem dX9_cost_51 : decode cX9_cost 51 = .ok (.istore_n 2, 1) := by decide +kernel
theorem dX9_cost_52 : decode cX9_cost 52 = .ok (.iinc 3 1, 3) := by decide +kernel
theorem dX9_cost_55 : decode cX9_cost 55 = .ok (.goto (-51), 3) := by decide +kernel
theorem dX9_cost_58 : decode cX9_cost 58 = .ok (.iload_n 2, 1) := by decide +kernel
theorem dX9_cost_59 : decode cX9_cost 59 = .ok (.ireturn, 1) := by decide +kernel
theorem dJ6_bitCount_0f7a4_0 : decode cJ6_bitCount_0f7a4 0 = .ok (.iload_n 0, 1) := by decide +kernel
theorem dJ6_bitCount_0f7a4_1 : decode cJ6_bitCount_0f7a4 1 = .ok (.iload_n 0, 1) := by decide +kernel
theorem dJ6_bitCount_0f7a4_2 : decode cJ6_bitCount_0f7a4 2 = .ok (.iconst 1, 1) := by decide +kernel
theorem dJ6_bitCount_0f7a4_3 : decode cJ6_bitCount_0f7a4 3 = .ok (.iushr, 1) := by decide +kernel
theorem dJ6_bitCount_0f7a4_4 : decode cJ6_bitCount_0f7a4 4 = .ok (.ldc_w 265, 3) := by decide +kernel
theorem dJ6_bitCount_0f7a4_7 : decode cJ6_bitCount_0f7a4 7 = .ok (.iand, 1) := by decide +kernel
theorem dJ6_bitCount_0f7a4_8 : decode cJ6_bitCount_0f7a4 8 = .ok (.isub, 1) := by decide +kernel
theorem dJ6_bitCount_0f7a4_9 : decode cJ6_bitCount_0f7a4 9 = .ok (.istore_n 0, 1) := by decide +kernel
theorem dJ6_bitCount_0f7a4_10 : decode cJ6_bitCount_0f7a4 10 = .ok (.iload_n 0, 1) := by decide +kernel
theorem dJ6_bitCount_0f7a4_11 : decode cJ6_bitCount_0f7a4 11 = .ok (.ldc_w 266, 3) := by decide +kernel
theorem dJ6_bitCount_0f7a4_14 : decode cJ6_bitCount_0f7a4 14 = .ok (.iand, 1) := by decide +kernel
theorem dJ6_bitCount_0f7a4_15 : decode cJ6_bitCount_0f7a4 15 = .ok (.iload_n 0, 1) := by decide +kernel
theorem dJ6_bitCount_0f7a4_16 : decode cJ6_bitCount_0f7a4 16 = .ok (.iconst 2, 1) := by decide +kernel
theorem dJ6_bitCount_0f7a4_17 : decode cJ6_bitCount_0f7a4 17 = .ok (.iushr, 1) := by decide +kernel
theorem dJ6_bitCount_0f7a4_18 : decode cJ6_bitCount_0f7a4 18 = .ok (.ldc_w 266, 3) := by decide +kernel
theorem dJ6_bitCount_0f7a4_21 : decode cJ6_bitCount_0f7a4 21 = .ok (.iand, 1) := by decide +kernel
theorem dJ6_bitCount_0f7a4_22 : decode cJ6_bitCount_0f7a4 22 = .ok (.iadd, 1) := by decide +kernel
theorem dJ6_bitCount_0f7a4_23 : decode cJ6_bitCount_0f7a4 23 = .ok (.istore_n 0, 1) := by decide +kernel
theorem dJ6_bitCount_0f7a4_24 : decode cJ6_bitCount_0f7a4 24 = .ok (.iload_n 0, 1) := by decide +kernel
theorem dJ6_bitCount_0f7a4_25 : decode cJ6_bitCount_0f7a4 25 = .ok (.iload_n 0, 1) := by decide +kernel
theorem dJ6_bitCount_0f7a4_26 : decode cJ6_bitCount_0f7a4 26 = .ok (.iconst 4, 1) := by decide +kernel
theorem dJ6_bitCount_0f7a4_27 : decode cJ6_bitCount_0f7a4 27 = .ok (.iushr, 1) := by decide +kernel
theorem dJ6_bitCount_0f7a4_28 : decode cJ6_bitCount_0f7a4 28 = .ok (.iadd, 1) := by decide +kernel
theorem dJ6_bitCount_0f7a4_29 : decode cJ6_bitCount_0f7a4 29 = .ok (.ldc_w 267, 3) := by decide +kernel
theorem dJ6_bitCount_0f7a4_32 : decode cJ6_bitCount_0f7a4 32 = .ok (.iand, 1) := by decide +kernel
theorem dJ6_bitCount_0f7a4_33 : decode cJ6_bitCount_0f7a4 33 = .ok (.istore_n 0, 1) := by decide +kernel
theorem dJ6_bitCount_0f7a4_34 : decode cJ6_bitCount_0f7a4 34 = .ok (.iload_n 0, 1) := by decide +kernel
theorem dJ6_bitCount_0f7a4_35 : decode cJ6_bitCount_0f7a4 35 = .ok (.iload_n 0, 1) := by decide +kernel
theorem dJ6_bitCount_0f7a4_36 : decode cJ6_bitCount_0f7a4 36 = .ok (.bipush 8, 2) := by decide +kernel
theorem dJ6_bitCount_0f7a4_38 : decode cJ6_bitCount_0f7a4 38 = .ok (.iushr, 1) := by decide +kernel
theorem dJ6_bitCount_0f7a4_39 : decode cJ6_bitCount_0f7a4 39 = .ok (.iadd, 1) := by decide +kernel
theorem dJ6_bitCount_0f7a4_40 : decode cJ6_bitCount_0f7a4 40 = .ok (.istore_n 0, 1) := by decide +kernel
theorem dJ6_bitCount_0f7a4_41 : decode cJ6_bitCount_0f7a4 41 = .ok (.iload_n 0, 1) := by decide +kernel
theorem dJ6_bitCount_0f7a4_42 : decode cJ6_bitCount_0f7a4 42 = .ok (.iload_n 0, 1) := by decide +kernel
theorem dJ6_bitCount_0f7a4_43 : decode cJ6_bitCount_0f7a4 43 = .ok (.bipush 16, 2) := by decide +kernel
theorem dJ6_bitCount_0f7a4_45 : decode cJ6_bitCount_0f7a4 45 = .ok (.iushr, 1) := by decide +kernel
theorem dJ6_bitCount_0f7a4_46 : decode cJ6_bitCount_0f7a4 46 = .ok (.iadd, 1) := by decide +kernel
theorem dJ6_bitCount_0f7a4_47 : decode cJ6_bitCount_0f7a4 47 = .ok (.istore_n 0, 1) := by decide +kernel
theorem dJ6_bitCount_0f7a4_48 : decode cJ6_bitCount_0f7a4 48 = .ok (.iload_n 0, 1) := by decide +kernel
theorem dJ6_bitCount_0f7a4_49 : decode cJ6_bitCount_0f7a4 49 = .ok (.bipush 63, 2) := by decide +kernel
theorem dJ6_bitCount_0f7a4_51 : decode cJ6_bitCount_0f7a4 51 = .ok (.iand, 1) := by decide +kernel
theorem dJ6_bitCount_0f7a4_52 : decode cJ6_bitCount_0f7a4 52 = .ok (.ireturn, 1) := by decide +kernel
