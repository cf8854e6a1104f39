theorem dX10_init_0 : decode cX10_init 0 = .ok (.aload_n 0, 1) := by decide +kernel
theorem dX10_init_1 : decode cX10_init 1 = .ok (.invokespecial 3, 3) := by decide +kernel
theorem dX10_init_4 : decode cX10_init 4 = .ok (.new 9, 3) := by decide +kernel
theorem dX10_init_7 : decode cX10_init 7 = .ok (.dup, 1) := by decide +kernel
theorem dX10_init_8 : decode cX10_init 8 = .ok (.invokespecial 11, 3) := by decide +kernel
theorem dX10_init_11 : decode cX10_init 11 = .ok (.astore_n 1, 1) := by decide +kernel
theorem dX10_init_12 : decode cX10_init 12 = .ok (.new 12, 3) := by decide +kernel
theorem dX10_init_15 : decode cX10_init 15 = .ok (.dup, 1) := by decide +kernel
theorem dX10_init_16 : decode cX10_init 16 = .ok (.invokespecial 14, 3) := by decide +kernel
theorem dX10_init_19 : decode cX10_init 19 = .ok (.astore_n 2, 1) := by decide +kernel
theorem dX10_init_20 : decode cX10_init 20 = .ok (.new 15, 3) := by decide +kernel
theorem dX10_init_23 : decode cX10_init 23 = .ok (.dup, 1) := by decide +kernel
theorem dX10_init_24 : decode cX10_init 24 = .ok (.aload_n 1, 1) := by decide +kernel
theorem dX10_init_25 : decode cX10_init 25 = .ok (.invokespecial 17, 3) := by decide +kernel
theorem dX10_init_28 : decode cX10_init 28 = .ok (.astore_n 3, 1) := by decide +kernel
theorem dX10_init_29 : decode cX10_init 29 = .ok (.new 20, 3) := by decide +kernel
theorem dX10_init_32 : decode cX10_init 32 = .ok (.dup, 1) := by decide +kernel
theorem dX10_init_33 : decode cX10_init 33 = .ok (.invokespecial 22, 3) := by decide +kernel
theorem dX10_init_36 : decode cX10_init 36 = .ok (.astore 4, 2) := by decide +kernel
theorem dX10_init_38 : decode cX10_init 38 = .ok (.new 23, 3) := by decide +kernel
theorem dX10_init_41 : decode cX10_init 41 = .ok (.dup, 1) := by decide +kernel
theorem dX10_init_42 : decode cX10_init 42 = .ok (.aload_n 1, 1) := by decide +kernel
theorem dX10_init_43 : decode cX10_init 43 = .ok (.invokespecial 25, 3) := by decide +kernel
theorem dX10_init_46 : decode cX10_init 46 = .ok (.astore 5, 2) := by decide +kernel
theorem dX10_init_48 : decode cX10_init 48 = .ok (.new 26, 3) := by decide +kernel
theorem dX10_init_51 : decode cX10_init 51 = .ok (.dup, 1) := by decide +kernel
theorem dX10_init_52 : decode cX10_init 52 = .ok (.aload_n 1, 1) := by decide +kernel
theorem dX10_init_53 : decode cX10_init 53 = .ok (.aload 4, 2) := by decide +kernel
theorem dX10_init_55 : decode cX10_init 55 = .ok (.aload 5, 2) := by decide +kernel
theorem dX10_init_57 : decode cX10_init 57 = .ok (.invokespecial 28, 3) := by decide +kernel
theorem dX10_init_60 : decode cX10_init 60 = .ok (.astore 6, 2) := by decide +kernel
theorem dX10_init_62 : decode cX10_init 62 = .ok (.aload_n 0, 1) := by decide +kernel
theorem dX10_init_63 : decode cX10_init 63 = .ok (.aload_n 1, 1) := by decide +kernel
theorem dX10_init_64 : decode cX10_init 64 = .ok (.putfield 31, 3) := by decide +kernel
theorem dX10_init_67 : decode cX10_init 67 = .ok (.aload_n 0, 1) := by decide +kernel
theorem dX10_init_68 : decode cX10_init 68 = .ok (.aload_n 2, 1) := by decide +kernel
theorem dX10_init_69 : decode cX10_init 69 = .ok (.putfield 35, 3) := by decide +kernel
theorem dX10_init_72 : decode cX10_init 72 = .ok (.aload_n 0, 1) := by decide +kernel
theorem dX10_init_73 : decode cX10_init 73 = .ok (.aload_n 3, 1) := by decide +kernel
theorem dX10_init_74 : decode cX10_init 74 = .ok (.putfield 39, 3) := by decide +kernel
theorem dX10_init_77 : decode cX10_init 77 = .ok (.aload_n 0, 1) := by decide +kernel
theorem dX10_init_78 : decode cX10_init 78 = .ok (.aload 4, 2) := by decide +kernel
theorem dX10_init_80 : decode cX10_init 80 = .ok (.putfield 43, 3) := by decide +kernel
theorem dX10_init_83 : decode cX10_init 83 = .ok (.aload_n 0, 1) := by decide +kernel
theorem dX10_init_84 : decode cX10_init 84 = .ok (.aload 5, 2) := by decide +kernel
theorem dX10_init_86 : decode cX10_init 86 = .ok (.putfield 47, 3) := by decide +kernel
theorem dX10_init_89 : decode cX10_init 89 = .ok (.aload_n 0, 1) := by decide +kernel
theorem dX10_init_90 : decode cX10_init 90 = .ok (.aload 6, 2) := by decide +kernel
theorem dX10_init_92 : decode cX10_init 92 = .ok (.putfield 51, 3) := by decide +kernel
theorem dX10_init_95 : decode cX10_init 95 = .ok (.aload_n 0, 1) := by decide +kernel
theorem dX10_init_96 : decode cX10_init 96 = .ok (.new 55, 3) := by decide +kernel
theorem dX10_init_99 : decode cX10_init 99 = .ok (.dup, 1) := by decide +kernel
theorem dX10_init_100 : decode cX10_init 100 = .ok (.aload_n 2, 1) := by decide +kernel
theorem dX10_init_101 : decode cX10_init 101 = .ok (.aload_n 3, 1) := by decide +kernel
theorem dX10_init_102 : decode cX10_init 102 = .ok (.aload 6, 2) := by decide +kernel
theorem dX10_init_104 : decode cX10_init 104 = .ok (.invokespecial 57, 3) := by decide +kernel
theorem dX10_init_107 : decode cX10_init 107 = .ok (.putfield 60, 3) := by decide +kernel
theorem dX10_init_110 : decode cX10_init 110 = .ok (.aload_n 0, 1) := by decide +kernel
theorem dX10_init_111 : decode cX10_init 111 = .ok (.iconst 4, 1) := by decide +kernel
theorem dX10_init_112 : decode cX10_init 112 = .ok (.anewarray 23, 3) := by decide +kernel
theorem dX10_init_115 : decode cX10_init 115 = .ok (.putfield 64, 3) := by decide +kernel
theorem dX10_init_118 : decode cX10_init 118 = .ok (.aload_n 0, 1) := by decide +kernel
theorem dX10_init_119 : decode cX10_init 119 = .ok (.iconst 4, 1) := by decide +kernel
theorem dX10_init_120 : decode cX10_init 120 = .ok (.anewarray 23, 3) := by decide +kernel
theorem dX10_init_123 : decode cX10_init 123 = .ok (.putfield 68, 3) := by decide +kernel
theorem dX10_init_126 : decode cX10_init 126 = .ok (.iconst 0, 1) := by decide +kernel
theorem dX10_init_127 : decode cX10_init 127 = .ok (.istore 7, 2) := by decide +kernel
theorem dX10_init_129 : decode cX10_init 129 = .ok (.iload 7, 2) := by decide +kernel
theorem dX10_init_131 : decode cX10_init 131 = .ok (.iconst 4, 1) := by decide +kernel
theorem dX10_init_132 : decode cX10_init 132 = .ok (.if_icmp .ge 39, 3) := by decide +kernel
theorem dX10_init_135 : decode cX10_init 135 = .ok (.aload_n 0, 1) := by decide +kernel
theorem dX10_init_136 : decode cX10_init 136 = .ok (.getfield 64, 3) := by decide +kernel
theorem dX10_init_139 : decode cX10_init 139 = .ok (.iload 7, 2) := by decide +kernel
theorem dX10_init_141 : decode cX10_init 141 = .ok (.new 23, 3) := by decide +kernel
theorem dX10_init_144 : decode cX10_init 144 = .ok (.dup, 1) := by decide +kernel
theorem dX10_init_145 : decode cX10_init 145 = .ok (.aload_n 1, 1) := by decide +kernel
theorem dX10_init_146 : decode cX10_init 146 = .ok (.invokespecial 25, 3) := by decide +kernel
theorem dX10_init_149 : decode cX10_init 149 = .ok (.aastore, 1) := by decide +kernel
theorem dX10_init_150 : decode cX10_init 150 = .ok (.aload_n 0, 1) := by decide +kernel
theorem dX10_init_151 : decode cX10_init 151 = .ok (.getfield 68, 3) := by decide +kernel
theorem dX10_init_154 : decode cX10_init 154 = .ok (.iload 7, 2) := by decide +kernel
theorem dX10_init_156 : decode cX10_init 156 = .ok (.new 23, 3) := by decide +kernel
theorem dX10_init_159 : decode cX10_init 159 = .ok (.dup, 1) := by decide +kernel
theorem dX10_init_160 : decode cX10_init 160 = .ok (.aload_n 1, 1) := by decide +kernel
theorem dX10_init_161 : decode cX10_init 161 = .ok (.invokespecial 25, 3) := by decide +kernel
theorem dX10_init_164 : decode cX10_init 164 = .ok (.aastore, 1) := by decide +kernel
theorem dX10_init_165 : decode cX10_init 165 = .ok (.iinc 7 1, 3) := by decide +kernel
theorem dX10_init_168 : decode cX10_init 168 = .ok (.goto (-39), 3) := by decide +kernel
theorem dX10_init_171 : decode cX10_init 171 = .ok (.aload_n 0, 1) := by decide +kernel
theorem dX10_init_172 : decode cX10_init 172 = .ok (.new 71, 3) := by decide +kernel
theorem dX10_init_175 : decode cX10_init 175 = .ok (.dup, 1) := by decide +kernel
theorem dX10_init_176 : decode cX10_init 176 = .ok (.invokespecial 73, 3) := by decide +kernel
theorem dX10_init_179 : decode cX10_init 179 = .ok (.putfield 74, 3) := by decide +kernel
theorem dX10_init_182 : decode cX10_init 182 = .ok (.aload_n 0, 1) := by decide +kernel
theorem dX10_init_183 : decode cX10_init 183 = .ok (.new 78, 3) := by decide +kernel
theorem dX10_init_186 : decode cX10_init 186 = .ok (.dup, 1) := by decide +kernel
theorem dX10_init_187 : decode cX10_init 187 = .ok (.invokespecial 80, 3) := by decide +kernel
theorem dX10_init_190 : decode cX10_init 190 = .ok (.putfield 81, 3) := by decide +kernel
theorem dX10_init_193 : decode cX10_init 193 = .ok (.aload_n 0, 1) := by decide +kernel
theorem dX10_init_194 : decode cX10_init 194 = .ok (.new 85, 3) := by decide +kernel
theorem dX10_init_197 : decode cX10_init 197 = .ok (.dup, 1) := by decide +kernel
theorem dX10_init_198 : decode cX10_init 198 = .ok (.invokespecial 87, 3) := by decide +kernel
theorem dX10_init_201 : decode cX10_init 201 = .ok (.putfield 88, 3) := by decide +kernel
theorem dX10_init_204 : decode cX10_init 204 = .ok (.return_, 1) := by decide +kernel
theorem dX10_declare_0 : decode cX10_declare 0 = .ok (.iload_n 1, 1) := by decide +kernel
theorem dX10_declare_1 : decode cX10_declare 1 = .ok (.ifCond .lt 18, 3) := by decide +kernel
theorem dX10_declare_4 : decode cX10_declare 4 = .ok (.iload_n 1, 1) := by decide +kernel
theorem dX10_declare_5 : decode cX10_declare 5 = .ok (.bipush 10, 2) := by decide +kernel
theorem dX10_declare_7 : decode cX10_declare 7 = .ok (.if_icmp .ge 12, 3) := by decide +kernel
theorem dX10_declare_10 : decode cX10_declare 10 = .ok (.iload_n 3, 1) := by decide +kernel
theorem dX10_declare_11 : decode cX10_declare 11 = .ok (.ifCond .lt 8, 3) := by decide +kernel
theorem dX10_declare_14 : decode cX10_declare 14 = .ok (.iload_n 3, 1) := by decide +kernel
theorem dX10_declare_15 : decode cX10_declare 15 = .ok (.iconst 3, 1) := by decide +kernel
theorem dX10_declare_16 : decode cX10_declare 16 = .ok (.if_icmp .le 13, 3) := by decide +kernel
theorem dX10_declare_19 : decode cX10_declare 19 = .ok (.new 92, 3) := by decide +kernel
theorem dX10_declare_22 : decode cX10_declare 22 = .ok (.dup, 1) := by decide +kernel
theorem dX10_declare_23 : decode cX10_declare 23 = .ok (.ldc 94, 2) := by decide +kernel
theorem dX10_declare_25 : decode cX10_declare 25 = .ok (.invokespecial 96, 3) := by decide +kernel
theorem dX10_declare_28 : decode cX10_declare 28 = .ok (.athrow, 1) := by decide +kernel
theorem dX10_declare_29 : decode cX10_declare 29 = .ok (.iload_n 2, 1) := by decide +kernel
theorem dX10_declare_30 : decode cX10_declare 30 = .ok (.iconst 1, 1) := by decide +kernel
theorem dX10_declare_31 : decode cX10_declare 31 = .ok (.if_icmp .lt 18, 3) := by decide +kernel
theorem dX10_declare_34 : decode cX10_declare 34 = .ok (.iload_n 2, 1) := by decide +kernel
theorem dX10_declare_35 : decode cX10_declare 35 = .ok (.iconst 3, 1) := by decide +kernel
theorem dX10_declare_36 : decode cX10_declare 36 = .ok (.if_icmp .gt 13, 3) := by decide +kernel
theorem dX10_declare_39 : decode cX10_declare 39 = .ok (.iload_n 2, 1) := by decide +kernel
theorem dX10_declare_40 : decode cX10_declare 40 = .ok (.iload_n 3, 1) := by decide +kernel
theorem dX10_declare_41 : decode cX10_declare 41 = .ok (.iload 4, 2) := by decide +kernel
theorem dX10_declare_43 : decode cX10_declare 43 = .ok (.invokestatic 99, 3) := by decide +kernel
theorem dX10_declare_46 : decode cX10_declare 46 = .ok (.ifCond .ne 13, 3) := by decide +kernel
theorem dX10_declare_49 : decode cX10_declare 49 = .ok (.new 103, 3) := by decide +kernel
theorem dX10_declare_52 : decode cX10_declare 52 = .ok (.dup, 1) := by decide +kernel
theorem dX10_declare_53 : decode cX10_declare 53 = .ok (.ldc 105, 2) := by decide +kernel
theorem dX10_declare_55 : decode cX10_declare 55 = .ok (.invokespecial 107, 3) := by decide +kernel
theorem dX10_declare_58 : decode cX10_declare 58 = .ok (.athrow, 1) := by decide +kernel
theorem dX10_declare_59 : decode cX10_declare 59 = .ok (.aload_n 0, 1) := by decide +kernel
theorem dX10_declare_60 : decode cX10_declare 60 = .ok (.getfield 31, 3) := by decide +kernel
theorem dX10_declare_63 : decode cX10_declare 63 = .ok (.iload_n 1, 1) := by decide +kernel
theorem dX10_declare_64 : decode cX10_declare 64 = .ok (.invokevirtual 108, 3) := by decide +kernel
theorem dX10_declare_67 : decode cX10_declare 67 = .ok (.ifCond .eq 13, 3) := by decide +kernel
theorem dX10_declare_70 : decode cX10_declare 70 = .ok (.new 112, 3) := by decide +kernel
theorem dX10_declare_73 : decode cX10_declare 73 = .ok (.dup, 1) := by decide +kernel
theorem dX10_declare_74 : decode cX10_declare 74 = .ok (.ldc 114, 2) := by decide +kernel
theorem dX10_declare_76 : decode cX10_declare 76 = .ok (.invokespecial 116, 3) := by decide +kernel
theorem dX10_declare_79 : decode cX10_declare 79 = .ok (.athrow, 1) := by decide +kernel
theorem dX10_declare_80 : decode cX10_declare 80 = .ok (.aload_n 0, 1) := by decide +kernel
theorem dX10_declare_81 : decode cX10_declare 81 = .ok (.getfield 31, 3) := by decide +kernel
theorem dX10_declare_84 : decode cX10_declare 84 = .ok (.iload_n 1, 1) := by decide +kernel
theorem dX10_declare_85 : decode cX10_declare 85 = .ok (.iload_n 2, 1) := by decide +kernel
theorem dX10_declare_86 : decode cX10_declare 86 = .ok (.iload_n 3, 1) := by decide +kernel
theorem dX10_declare_87 : decode cX10_declare 87 = .ok (.iload 4, 2) := by decide +kernel
theorem dX10_declare_89 : decode cX10_declare 89 = .ok (.invokevirtual 117, 3) := by decide +kernel
theorem dX10_declare_92 : decode cX10_declare 92 = .ok (.return_, 1) := by decide +kernel
theorem dX10_fact_0 : decode cX10_fact 0 = .ok (.aload_n 0, 1) := by decide +kernel
theorem dX10_fact_1 : decode cX10_fact 1 = .ok (.getfield 31, 3) := by decide +kernel
theorem dX10_fact_4 : decode cX10_fact 4 = .ok (.iload_n 1, 1) := by decide +kernel
theorem dX10_fact_5 : decode cX10_fact 5 = .ok (.invokevirtual 108, 3) := by decide +kernel
theorem dX10_fact_8 : decode cX10_fact 8 = .ok (.ifCond .ne 13, 3) := by decide +kernel
theorem dX10_fact_11 : decode cX10_fact 11 = .ok (.new 92, 3) := by decide +kernel
theorem dX10_fact_14 : decode cX10_fact 14 = .ok (.dup, 1) := by decide +kernel
theorem dX10_fact_15 : decode cX10_fact 15 = .ok (.ldc 121, 2) := by decide +kernel
theorem dX10_fact_17 : decode cX10_fact 17 = .ok (.invokespecial 96, 3) := by decide +kernel
theorem dX10_fact_20 : decode cX10_fact 20 = .ok (.athrow, 1) := by decide +kernel
theorem dX10_fact_21 : decode cX10_fact 21 = .ok (.aload_n 0, 1) := by decide +kernel
theorem dX10_fact_22 : decode cX10_fact 22 = .ok (.getfield 31, 3) := by decide +kernel
theorem dX10_fact_25 : decode cX10_fact 25 = .ok (.iload_n 1, 1) := by decide +kernel
theorem dX10_fact_26 : decode cX10_fact 26 = .ok (.iconst 0, 1) := by decide +kernel
theorem dX10_fact_27 : decode cX10_fact 27 = .ok (.iload_n 2, 1) := by decide +kernel
theorem dX10_fact_28 : decode cX10_fact 28 = .ok (.iload_n 3, 1) := by decide +kernel
theorem dX10_fact_29 : decode cX10_fact 29 = .ok (.iload 4, 2) := by decide +kernel
theorem dX10_fact_31 : decode cX10_fact 31 = .ok (.invokevirtual 123, 3) := by decide +kernel
theorem dX10_fact_34 : decode cX10_fact 34 = .ok (.ifCond .eq 40, 3) := by decide +kernel
theorem dX10_fact_37 : decode cX10_fact 37 = .ok (.iload 5, 2) := by decide +kernel
theorem dX10_fact_39 : decode cX10_fact 39 = .ok (.iconst 1, 1) := by decide +kernel
theorem dX10_fact_40 : decode cX10_fact 40 = .ok (.if_icmp .lt 34, 3) := by decide +kernel
theorem dX10_fact_43 : decode cX10_fact 43 = .ok (.iload 5, 2) := by decide +kernel
theorem dX10_fact_45 : decode cX10_fact 45 = .ok (.bipush 100, 2) := by decide +kernel
theorem dX10_fact_47 : decode cX10_fact 47 = .ok (.if_icmp .gt 27, 3) := by decide +kernel
theorem dX10_fact_50 : decode cX10_fact 50 = .ok (.iload 6, 2) := by decide +kernel
theorem dX10_fact_52 : decode cX10_fact 52 = .ok (.ifCond .lt 22, 3) := by decide +kernel
theorem dX10_fact_55 : decode cX10_fact 55 = .ok (.iload 6, 2) := by decide +kernel
theorem dX10_fact_57 : decode cX10_fact 57 = .ok (.iconst 4, 1) := by decide +kernel
theorem dX10_fact_58 : decode cX10_fact 58 = .ok (.if_icmp .ge 16, 3) := by decide +kernel
theorem dX10_fact_61 : decode cX10_fact 61 = .ok (.iload 7, 2) := by decide +kernel
theorem dX10_fact_63 : decode cX10_fact 63 = .ok (.iload 6, 2) := by decide +kernel
theorem dX10_fact_65 : decode cX10_fact 65 = .ok (.if_icmp .lt 9, 3) := by decide +kernel
theorem dX10_fact_68 : decode cX10_fact 68 = .ok (.iload 7, 2) := by decide +kernel
theorem dX10_fact_70 : decode cX10_fact 70 = .ok (.iconst 4, 1) := by decide +kernel
theorem dX10_fact_71 : decode cX10_fact 71 = .ok (.if_icmp .lt 13, 3) := by decide +kernel
theorem dX10_fact_74 : decode cX10_fact 74 = .ok (.new 103, 3) := by decide +kernel
theorem dX10_fact_77 : decode cX10_fact 77 = .ok (.dup, 1) := by decide +kernel
theorem dX10_fact_78 : decode cX10_fact 78 = .ok (.ldc 127, 2) := by decide +kernel
theorem dX10_fact_80 : decode cX10_fact 80 = .ok (.invokespecial 107, 3) := by decide +kernel
theorem dX10_fact_83 : decode cX10_fact 83 = .ok (.athrow, 1) := by decide +kernel
theorem dX10_fact_84 : decode cX10_fact 84 = .ok (.aload_n 0, 1) := by decide +kernel
theorem dX10_fact_85 : decode cX10_fact 85 = .ok (.getfield 35, 3) := by decide +kernel
theorem dX10_fact_88 : decode cX10_fact 88 = .ok (.getfield 129, 3) := by decide +kernel
theorem dX10_fact_91 : decode cX10_fact 91 = .ok (.bipush 24, 2) := by decide +kernel
theorem dX10_fact_93 : decode cX10_fact 93 = .ok (.if_icmp .lt 13, 3) := by decide +kernel
theorem dX10_fact_96 : decode cX10_fact 96 = .ok (.new 112, 3) := by decide +kernel
theorem dX10_fact_99 : decode cX10_fact 99 = .ok (.dup, 1) := by decide +kernel
theorem dX10_fact_100 : decode cX10_fact 100 = .ok (.ldc 133, 2) := by decide +kernel
theorem dX10_fact_102 : decode cX10_fact 102 = .ok (.invokespecial 116, 3) := by decide +kernel
theorem dX10_fact_105 : decode cX10_fact 105 = .ok (.athrow, 1) := by decide +kernel
theorem dX10_fact_106 : decode cX10_fact 106 = .ok (.aload_n 0, 1) := by decide +kernel
theorem dX10_fact_107 : decode cX10_fact 107 = .ok (.getfield 35, 3) := by decide +kernel
theorem dX10_fact_110 : decode cX10_fact 110 = .ok (.iload_n 1, 1) := by decide +kernel
theorem dX10_fact_111 : decode cX10_fact 111 = .ok (.iload_n 2, 1) := by decide +kernel
theorem dX10_fact_112 : decode cX10_fact 112 = .ok (.iload_n 3, 1) := by decide +kernel
theorem dX10_fact_113 : decode cX10_fact 113 = .ok (.iload 4, 2) := by decide +kernel
theorem dX10_fact_115 : decode cX10_fact 115 = .ok (.invokestatic 135, 3) := by decide +kernel
theorem dX10_fact_118 : decode cX10_fact 118 = .ok (.iload 5, 2) := by decide +kernel
theorem dX10_fact_120 : decode cX10_fact 120 = .ok (.iload 6, 2) := by decide +kernel
theorem dX10_fact_122 : decode cX10_fact 122 = .ok (.iload 7, 2) := by decide +kernel
theorem dX10_fact_124 : decode cX10_fact 124 = .ok (.invokevirtual 139, 3) := by decide +kernel
theorem dX10_fact_127 : decode cX10_fact 127 = .ok (.aload_n 0, 1) := by decide +kernel
theorem dX10_fact_128 : decode cX10_fact 128 = .ok (.iload 6, 2) := by decide +kernel
theorem dX10_fact_130 : decode cX10_fact 130 = .ok (.iload 7, 2) := by decide +kernel
theorem dX10_fact_132 : decode cX10_fact 132 = .ok (.invokevirtual 143, 3) := by decide +kernel
theorem dX10_fact_135 : decode cX10_fact 135 = .ok (.ifCond .ne 20, 3) := by decide +kernel
theorem dX10_fact_138 : decode cX10_fact 138 = .ok (.aload_n 0, 1) := by decide +kernel
theorem dX10_fact_139 : decode cX10_fact 139 = .ok (.getfield 35, 3) := by decide +kernel
theorem dX10_fact_142 : decode cX10_fact 142 = .ok (.invokevirtual 147, 3) := by decide +kernel
theorem dX10_fact_145 : decode cX10_fact 145 = .ok (.new 112, 3) := by decide +kernel
theorem dX10_fact_148 : decode cX10_fact 148 = .ok (.dup, 1) := by decide +kernel
theorem dX10_fact_149 : decode cX10_fact 149 = .ok (.ldc 150, 2) := by decide +kernel
theorem dX10_fact_151 : decode cX10_fact 151 = .ok (.invokespecial 116, 3) := by decide +kernel
theorem dX10_fact_154 : decode cX10_fact 154 = .ok (.athrow, 1) := by decide +kernel
theorem dX10_fact_155 : decode cX10_fact 155 = .ok (.aload_n 0, 1) := by decide +kernel
theorem dX10_fact_156 : decode cX10_fact 156 = .ok (.getfield 35, 3) := by decide +kernel
theorem dX10_fact_159 : decode cX10_fact 159 = .ok (.getfield 129, 3) := by decide +kernel
theorem dX10_fact_162 : decode cX10_fact 162 = .ok (.iconst 1, 1) := by decide +kernel
theorem dX10_fact_163 : decode cX10_fact 163 = .ok (.isub, 1) := by decide +kernel
theorem dX10_fact_164 : decode cX10_fact 164 = .ok (.ireturn, 1) := by decide +kernel
theorem dX10_drop_0 : decode cX10_drop 0 = .ok (.iload_n 1, 1) := by decide +kernel
theorem dX10_drop_1 : decode cX10_drop 1 = .ok (.ifCond .lt 14, 3) := by decide +kernel
theorem dX10_drop_4 : decode cX10_drop 4 = .ok (.iload_n 1, 1) := by decide +kernel
theorem dX10_drop_5 : decode cX10_drop 5 = .ok (.aload_n 0, 1) := by decide +kernel
theorem dX10_drop_6 : decode cX10_drop 6 = .ok (.getfield 35, 3) := by decide +kernel
theorem dX10_drop_9 : decode cX10_drop 9 = .ok (.getfield 129, 3) := by decide +kernel
theorem dX10_drop_12 : decode cX10_drop 12 = .ok (.if_icmp .lt 13, 3) := by decide +kernel
theorem dX10_drop_15 : decode cX10_drop 15 = .ok (.new 92, 3) := by decide +kernel
theorem dX10_drop_18 : decode cX10_drop 18 = .ok (.dup, 1) := by decide +kernel
theorem dX10_drop_19 : decode cX10_drop 19 = .ok (.ldc 152, 2) := by decide +kernel
theorem dX10_drop_21 : decode cX10_drop 21 = .ok (.invokespecial 96, 3) := by decide +kernel
theorem dX10_drop_24 : decode cX10_drop 24 = .ok (.athrow, 1) := by decide +kernel
theorem dX10_drop_25 : decode cX10_drop 25 = .ok (.aload_n 0, 1) := by decide +kernel
theorem dX10_drop_26 : decode cX10_drop 26 = .ok (.getfield 35, 3) := by decide +kernel
theorem dX10_drop_29 : decode cX10_drop 29 = .ok (.iload_n 1, 1) := by decide +kernel
theorem dX10_drop_30 : decode cX10_drop 30 = .ok (.invokevirtual 154, 3) := by decide +kernel
theorem dX10_drop_33 : decode cX10_drop 33 = .ok (.ifCond .eq 13, 3) := by decide +kernel
theorem dX10_drop_36 : decode cX10_drop 36 = .ok (.new 112, 3) := by decide +kernel
theorem dX10_drop_39 : decode cX10_drop 39 = .ok (.dup, 1) := by decide +kernel
theorem dX10_drop_40 : decode cX10_drop 40 = .ok (.ldc 157, 2) := by decide +kernel
theorem dX10_drop_42 : decode cX10_drop 42 = .ok (.invokespecial 116, 3) := by decide +kernel
theorem dX10_drop_45 : decode cX10_drop 45 = .ok (.athrow, 1) := by decide +kernel
theorem dX10_drop_46 : decode cX10_drop 46 = .ok (.aload_n 0, 1) := by decide +kernel
theorem dX10_drop_47 : decode cX10_drop 47 = .ok (.getfield 35, 3) := by decide +kernel
theorem dX10_drop_50 : decode cX10_drop 50 = .ok (.iload_n 1, 1) := by decide +kernel
theorem dX10_drop_51 : decode cX10_drop 51 = .ok (.iconst 1, 1) := by decide +kernel
theorem dX10_drop_52 : decode cX10_drop 52 = .ok (.invokevirtual 159, 3) := by decide +kernel
theorem dX10_drop_55 : decode cX10_drop 55 = .ok (.aload_n 0, 1) := by decide +kernel
theorem dX10_drop_56 : decode cX10_drop 56 = .ok (.aload_n 0, 1) := by decide +kernel
theorem dX10_drop_57 : decode cX10_drop 57 = .ok (.getfield 35, 3) := by decide +kernel
theorem dX10_drop_60 : decode cX10_drop 60 = .ok (.iload_n 1, 1) := by decide +kernel
theorem dX10_drop_61 : decode cX10_drop 61 = .ok (.invokevirtual 163, 3) := by decide +kernel
theorem dX10_drop_64 : decode cX10_drop 64 = .ok (.aload_n 0, 1) := by decide +kernel
theorem dX10_drop_65 : decode cX10_drop 65 = .ok (.getfield 35, 3) := by decide +kernel
theorem dX10_drop_68 : decode cX10_drop 68 = .ok (.iload_n 1, 1) := by decide +kernel
theorem dX10_drop_69 : decode cX10_drop 69 = .ok (.invokevirtual 167, 3) := by decide +kernel
theorem dX10_drop_72 : decode cX10_drop 72 = .ok (.invokevirtual 143, 3) := by decide +kernel
theorem dX10_drop_75 : decode cX10_drop 75 = .ok (.ifCond .ne 22, 3) := by decide +kernel
theorem dX10_drop_78 : decode cX10_drop 78 = .ok (.aload_n 0, 1) := by decide +kernel
theorem dX10_drop_79 : decode cX10_drop 79 = .ok (.getfield 35, 3) := by decide +kernel
theorem dX10_drop_82 : decode cX10_drop 82 = .ok (.iload_n 1, 1) := by decide +kernel
theorem dX10_drop_83 : decode cX10_drop 83 = .ok (.iconst 0, 1) := by decide +kernel
theorem dX10_drop_84 : decode cX10_drop 84 = .ok (.invokevirtual 159, 3) := by decide +kernel
theorem dX10_drop_87 : decode cX10_drop 87 = .ok (.new 112, 3) := by decide +kernel
theorem dX10_drop_90 : decode cX10_drop 90 = .ok (.dup, 1) := by decide +kernel
theorem dX10_drop_91 : decode cX10_drop 91 = .ok (.ldc 150, 2) := by decide +kernel
theorem dX10_drop_93 : decode cX10_drop 93 = .ok (.invokespecial 116, 3) := by decide +kernel
theorem dX10_drop_96 : decode cX10_drop 96 = .ok (.athrow, 1) := by decide +kernel
theorem dX10_drop_97 : decode cX10_drop 97 = .ok (.aload_n 0, 1) := by decide +kernel
theorem dX10_drop_98 : decode cX10_drop 98 = .ok (.getfield 35, 3) := by decide +kernel
theorem dX10_drop_101 : decode cX10_drop 101 = .ok (.getfield 170, 3) := by decide +kernel
theorem dX10_drop_104 : decode cX10_drop 104 = .ok (.ireturn, 1) := by decide +kernel
theorem dX10_pass_0 : decode cX10_pass 0 = .ok (.aload_n 0, 1) := by decide +kernel
theorem dX10_pass_1 : decode cX10_pass 1 = .ok (.getfield 173, 3) := by decide +kernel
theorem dX10_pass_4 : decode cX10_pass 4 = .ok (.iconst 3, 1) := by decide +kernel
theorem dX10_pass_5 : decode cX10_pass 5 = .ok (.if_icmp .lt 13, 3) := by decide +kernel
theorem dX10_pass_8 : decode cX10_pass 8 = .ok (.new 112, 3) := by decide +kernel
theorem dX10_pass_11 : decode cX10_pass 11 = .ok (.dup, 1) := by decide +kernel
theorem dX10_pass_12 : decode cX10_pass 12 = .ok (.ldc 176, 2) := by decide +kernel
theorem dX10_pass_14 : decode cX10_pass 14 = .ok (.invokespecial 116, 3) := by decide +kernel
theorem dX10_pass_17 : decode cX10_pass 17 = .ok (.athrow, 1) := by decide +kernel
theorem dX10_pass_18 : decode cX10_pass 18 = .ok (.aload_n 0, 1) := by decide +kernel
theorem dX10_pass_19 : decode cX10_pass 19 = .ok (.dup, 1) := by decide +kernel
theorem dX10_pass_20 : decode cX10_pass 20 = .ok (.getfield 173, 3) := by decide +kernel
theorem dX10_pass_23 : decode cX10_pass 23 = .ok (.iconst 1, 1) := by decide +kernel
theorem dX10_pass_24 : decode cX10_pass 24 = .ok (.iadd, 1) := by decide +kernel
theorem dX10_pass_25 : decode cX10_pass 25 = .ok (.putfield 173, 3) := by decide +kernel
theorem dX10_pass_28 : decode cX10_pass 28 = .ok (.aload_n 0, 1) := by decide +kernel
theorem dX10_pass_29 : decode cX10_pass 29 = .ok (.getfield 74, 3) := by decide +kernel
theorem dX10_pass_32 : decode cX10_pass 32 = .ok (.iconst 0, 1) := by decide +kernel
theorem dX10_pass_33 : decode cX10_pass 33 = .ok (.putfield 178, 3) := by decide +kernel
theorem dX10_pass_36 : decode cX10_pass 36 = .ok (.aload_n 0, 1) := by decide +kernel
theorem dX10_pass_37 : decode cX10_pass 37 = .ok (.getfield 173, 3) := by decide +kernel
theorem dX10_pass_40 : decode cX10_pass 40 = .ok (.ireturn, 1) := by decide +kernel
theorem dX10_head_0 : decode cX10_head 0 = .ok (.aload_n 0, 1) := by decide +kernel
theorem dX10_head_1 : decode cX10_head 1 = .ok (.getfield 31, 3) := by decide +kernel
theorem dX10_head_4 : decode cX10_head 4 = .ok (.iload_n 1, 1) := by decide +kernel
theorem dX10_head_5 : decode cX10_head 5 = .ok (.invokevirtual 108, 3) := by decide +kernel
theorem dX10_head_8 : decode cX10_head 8 = .ok (.ifCond .ne 13, 3) := by decide +kernel
theorem dX10_head_11 : decode cX10_head 11 = .ok (.new 92, 3) := by decide +kernel
theorem dX10_head_14 : decode cX10_head 14 = .ok (.dup, 1) := by decide +kernel
theorem dX10_head_15 : decode cX10_head 15 = .ok (.ldc 121, 2) := by decide +kernel
theorem dX10_head_17 : decode cX10_head 17 = .ok (.invokespecial 96, 3) := by decide +kernel
theorem dX10_head_20 : decode cX10_head 20 = .ok (.athrow, 1) := by decide +kernel
theorem dX10_head_21 : decode cX10_head 21 = .ok (.aload_n 0, 1) := by decide +kernel
theorem dX10_head_22 : decode cX10_head 22 = .ok (.getfield 31, 3) := by decide +kernel
theorem dX10_head_25 : decode cX10_head 25 = .ok (.iload_n 1, 1) := by decide +kernel
theorem dX10_head_26 : decode cX10_head 26 = .ok (.iconst 1, 1) := by decide +kernel
theorem dX10_head_27 : decode cX10_head 27 = .ok (.iload_n 2, 1) := by decide +kernel
theorem dX10_head_28 : decode cX10_head 28 = .ok (.iload_n 3, 1) := by decide +kernel
theorem dX10_head_29 : decode cX10_head 29 = .ok (.iload 4, 2) := by decide +kernel
theorem dX10_head_31 : decode cX10_head 31 = .ok (.invokevirtual 123, 3) := by decide +kernel
theorem dX10_head_34 : decode cX10_head 34 = .ok (.ifCond .ne 13, 3) := by decide +kernel
theorem dX10_head_37 : decode cX10_head 37 = .ok (.new 103, 3) := by decide +kernel
theorem dX10_head_40 : decode cX10_head 40 = .ok (.dup, 1) := by decide +kernel
theorem dX10_head_41 : decode cX10_head 41 = .ok (.ldc 182, 2) := by decide +kernel
theorem dX10_head_43 : decode cX10_head 43 = .ok (.invokespecial 107, 3) := by decide +kernel
theorem dX10_head_46 : decode cX10_head 46 = .ok (.athrow, 1) := by decide +kernel
theorem dX10_head_47 : decode cX10_head 47 = .ok (.aload_n 0, 1) := by decide +kernel
theorem dX10_head_48 : decode cX10_head 48 = .ok (.getfield 43, 3) := by decide +kernel
theorem dX10_head_51 : decode cX10_head 51 = .ok (.iload_n 1, 1) := by decide +kernel
theorem dX10_head_52 : decode cX10_head 52 = .ok (.iload_n 2, 1) := by decide +kernel
theorem dX10_head_53 : decode cX10_head 53 = .ok (.iload_n 3, 1) := by decide +kernel
theorem dX10_head_54 : decode cX10_head 54 = .ok (.iload 4, 2) := by decide +kernel
theorem dX10_head_56 : decode cX10_head 56 = .ok (.invokevirtual 184, 3) := by decide +kernel
theorem dX10_head_59 : decode cX10_head 59 = .ok (.return_, 1) := by decide +kernel
theorem dX10_atom_0 : decode cX10_atom 0 = .ok (.aload_n 0, 1) := by decide +kernel
theorem dX10_atom_1 : decode cX10_atom 1 = .ok (.getfield 31, 3) := by decide +kernel
theorem dX10_atom_4 : decode cX10_atom 4 = .ok (.iload_n 1, 1) := by decide +kernel
theorem dX10_atom_5 : decode cX10_atom 5 = .ok (.invokevirtual 108, 3) := by decide +kernel
theorem dX10_atom_8 : decode cX10_atom 8 = .ok (.ifCond .ne 13, 3) := by decide +kernel
theorem dX10_atom_11 : decode cX10_atom 11 = .ok (.new 92, 3) := by decide +kernel
theorem dX10_atom_14 : decode cX10_atom 14 = .ok (.dup, 1) := by decide +kernel
theorem dX10_atom_15 : decode cX10_atom 15 = .ok (.ldc 121, 2) := by decide +kernel
theorem dX10_atom_17 : decode cX10_atom 17 = .ok (.invokespecial 96, 3) := by decide +kernel
theorem dX10_atom_20 : decode cX10_atom 20 = .ok (.athrow, 1) := by decide +kernel
theorem dX10_atom_21 : decode cX10_atom 21 = .ok (.aload_n 0, 1) := by decide +kernel
theorem dX10_atom_22 : decode cX10_atom 22 = .ok (.getfield 31, 3) := by decide +kernel
theorem dX10_atom_25 : decode cX10_atom 25 = .ok (.iload_n 1, 1) := by decide +kernel
theorem dX10_atom_26 : decode cX10_atom 26 = .ok (.iconst 1, 1) := by decide +kernel
theorem dX10_atom_27 : decode cX10_atom 27 = .ok (.iload_n 3, 1) := by decide +kernel
theorem dX10_atom_28 : decode cX10_atom 28 = .ok (.iload 4, 2) := by decide +kernel
theorem dX10_atom_30 : decode cX10_atom 30 = .ok (.iload 5, 2) := by decide +kernel
theorem dX10_atom_32 : decode cX10_atom 32 = .ok (.invokevirtual 123, 3) := by decide +kernel
theorem dX10_atom_35 : decode cX10_atom 35 = .ok (.ifCond .ne 13, 3) := by decide +kernel
theorem dX10_atom_38 : decode cX10_atom 38 = .ok (.new 103, 3) := by decide +kernel
theorem dX10_atom_41 : decode cX10_atom 41 = .ok (.dup, 1) := by decide +kernel
theorem dX10_atom_42 : decode cX10_atom 42 = .ok (.ldc 182, 2) := by decide +kernel
theorem dX10_atom_44 : decode cX10_atom 44 = .ok (.invokespecial 107, 3) := by decide +kernel
theorem dX10_atom_47 : decode cX10_atom 47 = .ok (.athrow, 1) := by decide +kernel
theorem dX10_atom_48 : decode cX10_atom 48 = .ok (.aload_n 0, 1) := by decide +kernel
theorem dX10_atom_49 : decode cX10_atom 49 = .ok (.getfield 43, 3) := by decide +kernel
theorem dX10_atom_52 : decode cX10_atom 52 = .ok (.getfield 187, 3) := by decide +kernel
theorem dX10_atom_55 : decode cX10_atom 55 = .ok (.iconst 5, 1) := by decide +kernel
theorem dX10_atom_56 : decode cX10_atom 56 = .ok (.if_icmp .ge 18, 3) := by decide +kernel
theorem dX10_atom_59 : decode cX10_atom 59 = .ok (.iload_n 2, 1) := by decide +kernel
theorem dX10_atom_60 : decode cX10_atom 60 = .ok (.ifCond .eq 24, 3) := by decide +kernel
theorem dX10_atom_63 : decode cX10_atom 63 = .ok (.aload_n 0, 1) := by decide +kernel
theorem dX10_atom_64 : decode cX10_atom 64 = .ok (.getfield 43, 3) := by decide +kernel
theorem dX10_atom_67 : decode cX10_atom 67 = .ok (.invokevirtual 188, 3) := by decide +kernel
theorem dX10_atom_70 : decode cX10_atom 70 = .ok (.iconst 3, 1) := by decide +kernel
theorem dX10_atom_71 : decode cX10_atom 71 = .ok (.if_icmp .lt 13, 3) := by decide +kernel
theorem dX10_atom_74 : decode cX10_atom 74 = .ok (.new 112, 3) := by decide +kernel
theorem dX10_atom_77 : decode cX10_atom 77 = .ok (.dup, 1) := by decide +kernel
theorem dX10_atom_78 : decode cX10_atom 78 = .ok (.ldc 192, 2) := by decide +kernel
theorem dX10_atom_80 : decode cX10_atom 80 = .ok (.invokespecial 116, 3) := by decide +kernel
theorem dX10_atom_83 : decode cX10_atom 83 = .ok (.athrow, 1) := by decide +kernel
theorem dX10_atom_84 : decode cX10_atom 84 = .ok (.aload_n 0, 1) := by decide +kernel
theorem dX10_atom_85 : decode cX10_atom 85 = .ok (.getfield 43, 3) := by decide +kernel
theorem dX10_atom_88 : decode cX10_atom 88 = .ok (.iload_n 2, 1) := by decide +kernel
theorem dX10_atom_89 : decode cX10_atom 89 = .ok (.ifCond .eq 7, 3) := by decide +kernel
theorem dX10_atom_92 : decode cX10_atom 92 = .ok (.iconst 0, 1) := by decide +kernel
theorem dX10_atom_93 : decode cX10_atom 93 = .ok (.goto 4, 3) := by decide +kernel
theorem dX10_atom_96 : decode cX10_atom 96 = .ok (.iconst 1, 1) := by decide +kernel
theorem dX10_atom_97 : decode cX10_atom 97 = .ok (.iload_n 1, 1) := by decide +kernel
theorem dX10_atom_98 : decode cX10_atom 98 = .ok (.iload_n 3, 1) := by decide +kernel
theorem dX10_atom_99 : decode cX10_atom 99 = .ok (.iload 4, 2) := by decide +kernel
theorem dX10_atom_101 : decode cX10_atom 101 = .ok (.iload 5, 2) := by decide +kernel
theorem dX10_atom_103 : decode cX10_atom 103 = .ok (.invokevirtual 194, 3) := by decide +kernel
theorem dX10_atom_106 : decode cX10_atom 106 = .ok (.ireturn, 1) := by decide +kernel
theorem dX10_compare_0 : decode cX10_compare 0 = .ok (.iload_n 1, 1) := by decide +kernel
theorem dX10_compare_1 : decode cX10_compare 1 = .ok (.ifCond .lt 8, 3) := by decide +kernel
theorem dX10_compare_4 : decode cX10_compare 4 = .ok (.iload_n 1, 1) := by decide +kernel
theorem dX10_compare_5 : decode cX10_compare 5 = .ok (.iconst 3, 1) := by decide +kernel
theorem dX10_compare_6 : decode cX10_compare 6 = .ok (.if_icmp .le 13, 3) := by decide +kernel
theorem dX10_compare_9 : decode cX10_compare 9 = .ok (.new 92, 3) := by decide +kernel
theorem dX10_compare_12 : decode cX10_compare 12 = .ok (.dup, 1) := by decide +kernel
theorem dX10_compare_13 : decode cX10_compare 13 = .ok (.ldc 198, 2) := by decide +kernel
theorem dX10_compare_15 : decode cX10_compare 15 = .ok (.invokespecial 96, 3) := by decide +kernel
theorem dX10_compare_18 : decode cX10_compare 18 = .ok (.athrow, 1) := by decide +kernel
theorem dX10_compare_19 : decode cX10_compare 19 = .ok (.iload_n 2, 1) := by decide +kernel
theorem dX10_compare_20 : decode cX10_compare 20 = .ok (.invokestatic 200, 3) := by decide +kernel
theorem dX10_compare_23 : decode cX10_compare 23 = .ok (.ifCond .eq 10, 3) := by decide +kernel
theorem dX10_compare_26 : decode cX10_compare 26 = .ok (.iload_n 3, 1) := by decide +kernel
theorem dX10_compare_27 : decode cX10_compare 27 = .ok (.invokestatic 200, 3) := by decide +kernel
theorem dX10_compare_30 : decode cX10_compare 30 = .ok (.ifCond .ne 13, 3) := by decide +kernel
theorem dX10_compare_33 : decode cX10_compare 33 = .ok (.new 103, 3) := by decide +kernel
theorem dX10_compare_36 : decode cX10_compare 36 = .ok (.dup, 1) := by decide +kernel
theorem dX10_compare_37 : decode cX10_compare 37 = .ok (.ldc 182, 2) := by decide +kernel
theorem dX10_compare_39 : decode cX10_compare 39 = .ok (.invokespecial 107, 3) := by decide +kernel
theorem dX10_compare_42 : decode cX10_compare 42 = .ok (.athrow, 1) := by decide +kernel
theorem dX10_compare_43 : decode cX10_compare 43 = .ok (.aload_n 0, 1) := by decide +kernel
theorem dX10_compare_44 : decode cX10_compare 44 = .ok (.getfield 43, 3) := by decide +kernel
theorem dX10_compare_47 : decode cX10_compare 47 = .ok (.getfield 187, 3) := by decide +kernel
theorem dX10_compare_50 : decode cX10_compare 50 = .ok (.iconst 5, 1) := by decide +kernel
theorem dX10_compare_51 : decode cX10_compare 51 = .ok (.if_icmp .lt 13, 3) := by decide +kernel
theorem dX10_compare_54 : decode cX10_compare 54 = .ok (.new 112, 3) := by decide +kernel
theorem dX10_compare_57 : decode cX10_compare 57 = .ok (.dup, 1) := by decide +kernel
theorem dX10_compare_58 : decode cX10_compare 58 = .ok (.ldc 203, 2) := by decide +kernel
theorem dX10_compare_60 : decode cX10_compare 60 = .ok (.invokespecial 116, 3) := by decide +kernel
theorem dX10_compare_63 : decode cX10_compare 63 = .ok (.athrow, 1) := by decide +kernel
theorem dX10_compare_64 : decode cX10_compare 64 = .ok (.aload_n 0, 1) := by decide +kernel
theorem dX10_compare_65 : decode cX10_compare 65 = .ok (.getfield 43, 3) := by decide +kernel
theorem dX10_compare_68 : decode cX10_compare 68 = .ok (.iconst 2, 1) := by decide +kernel
theorem dX10_compare_69 : decode cX10_compare 69 = .ok (.iload_n 1, 1) := by decide +kernel
theorem dX10_compare_70 : decode cX10_compare 70 = .ok (.iload_n 2, 1) := by decide +kernel
theorem dX10_compare_71 : decode cX10_compare 71 = .ok (.iload_n 3, 1) := by decide +kernel
theorem dX10_compare_72 : decode cX10_compare 72 = .ok (.iconst 0, 1) := by decide +kernel
theorem dX10_compare_73 : decode cX10_compare 73 = .ok (.invokevirtual 194, 3) := by decide +kernel
theorem dX10_compare_76 : decode cX10_compare 76 = .ok (.ireturn, 1) := by decide +kernel
theorem dX10_add_0 : decode cX10_add 0 = .ok (.iload_n 1, 1) := by decide +kernel
theorem dX10_add_1 : decode cX10_add 1 = .ok (.invokestatic 200, 3) := by decide +kernel
theorem dX10_add_4 : decode cX10_add 4 = .ok (.ifCond .eq 17, 3) := by decide +kernel
theorem dX10_add_7 : decode cX10_add 7 = .ok (.iload_n 2, 1) := by decide +kernel
theorem dX10_add_8 : decode cX10_add 8 = .ok (.invokestatic 200, 3) := by decide +kernel
theorem dX10_add_11 : decode cX10_add 11 = .ok (.ifCond .eq 10, 3) := by decide +kernel
theorem dX10_add_14 : decode cX10_add 14 = .ok (.iload_n 3, 1) := by decide +kernel
theorem dX10_add_15 : decode cX10_add 15 = .ok (.invokestatic 200, 3) := by decide +kernel
theorem dX10_add_18 : decode cX10_add 18 = .ok (.ifCond .ne 13, 3) := by decide +kernel
theorem dX10_add_21 : decode cX10_add 21 = .ok (.new 103, 3) := by decide +kernel
theorem dX10_add_24 : decode cX10_add 24 = .ok (.dup, 1) := by decide +kernel
theorem dX10_add_25 : decode cX10_add 25 = .ok (.ldc 182, 2) := by decide +kernel
theorem dX10_add_27 : decode cX10_add 27 = .ok (.invokespecial 107, 3) := by decide +kernel
theorem dX10_add_30 : decode cX10_add 30 = .ok (.athrow, 1) := by decide +kernel
theorem dX10_add_31 : decode cX10_add 31 = .ok (.aload_n 0, 1) := by decide +kernel
theorem dX10_add_32 : decode cX10_add 32 = .ok (.getfield 43, 3) := by decide +kernel
theorem dX10_add_35 : decode cX10_add 35 = .ok (.getfield 187, 3) := by decide +kernel
theorem dX10_add_38 : decode cX10_add 38 = .ok (.iconst 5, 1) := by decide +kernel
theorem dX10_add_39 : decode cX10_add 39 = .ok (.if_icmp .lt 13, 3) := by decide +kernel
theorem dX10_add_42 : decode cX10_add 42 = .ok (.new 112, 3) := by decide +kernel
theorem dX10_add_45 : decode cX10_add 45 = .ok (.dup, 1) := by decide +kernel
theorem dX10_add_46 : decode cX10_add 46 = .ok (.ldc 203, 2) := by decide +kernel
theorem dX10_add_48 : decode cX10_add 48 = .ok (.invokespecial 116, 3) := by decide +kernel
theorem dX10_add_51 : decode cX10_add 51 = .ok (.athrow, 1) := by decide +kernel
theorem dX10_add_52 : decode cX10_add 52 = .ok (.aload_n 0, 1) := by decide +kernel
theorem dX10_add_53 : decode cX10_add 53 = .ok (.getfield 43, 3) := by decide +kernel
theorem dX10_add_56 : decode cX10_add 56 = .ok (.iconst 3, 1) := by decide +kernel
theorem dX10_add_57 : decode cX10_add 57 = .ok (.iconst 0, 1) := by decide +kernel
theorem dX10_add_58 : decode cX10_add 58 = .ok (.iload_n 1, 1) := by decide +kernel
theorem dX10_add_59 : decode cX10_add 59 = .ok (.iload_n 2, 1) := by decide +kernel
theorem dX10_add_60 : decode cX10_add 60 = .ok (.iload_n 3, 1) := by decide +kernel
theorem dX10_add_61 : decode cX10_add 61 = .ok (.invokevirtual 194, 3) := by decide +kernel
theorem dX10_add_64 : decode cX10_add 64 = .ok (.ireturn, 1) := by decide +kernel
theorem dX10_clear_0 : decode cX10_clear 0 = .ok (.aload_n 0, 1) := by decide +kernel
theorem dX10_clear_1 : decode cX10_clear 1 = .ok (.getfield 43, 3) := by decide +kernel
theorem dX10_clear_4 : decode cX10_clear 4 = .ok (.getfield 187, 3) := by decide +kernel
theorem dX10_clear_7 : decode cX10_clear 7 = .ok (.istore_n 1, 1) := by decide +kernel
theorem dX10_clear_8 : decode cX10_clear 8 = .ok (.aload_n 0, 1) := by decide +kernel
theorem dX10_clear_9 : decode cX10_clear 9 = .ok (.getfield 43, 3) := by decide +kernel
theorem dX10_clear_12 : decode cX10_clear 12 = .ok (.invokevirtual 205, 3) := by decide +kernel
theorem dX10_clear_15 : decode cX10_clear 15 = .ok (.iload_n 1, 1) := by decide +kernel
theorem dX10_clear_16 : decode cX10_clear 16 = .ok (.ireturn, 1) := by decide +kernel
theorem dX10_enter_0 : decode cX10_enter 0 = .ok (.aload_n 0, 1) := by decide +kernel
theorem dX10_enter_1 : decode cX10_enter 1 = .ok (.getfield 43, 3) := by decide +kernel
theorem dX10_enter_4 : decode cX10_enter 4 = .ok (.getfield 208, 3) := by decide +kernel
theorem dX10_enter_7 : decode cX10_enter 7 = .ok (.iconst (-1), 1) := by decide +kernel
theorem dX10_enter_8 : decode cX10_enter 8 = .ok (.if_icmp .eq 13, 3) := by decide +kernel
theorem dX10_enter_11 : decode cX10_enter 11 = .ok (.aload_n 0, 1) := by decide +kernel
theorem dX10_enter_12 : decode cX10_enter 12 = .ok (.getfield 43, 3) := by decide +kernel
theorem dX10_enter_15 : decode cX10_enter 15 = .ok (.invokevirtual 211, 3) := by decide +kernel
theorem dX10_enter_18 : decode cX10_enter 18 = .ok (.ifCond .ne 13, 3) := by decide +kernel
theorem dX10_enter_21 : decode cX10_enter 21 = .ok (.new 103, 3) := by decide +kernel
theorem dX10_enter_24 : decode cX10_enter 24 = .ok (.dup, 1) := by decide +kernel
theorem dX10_enter_25 : decode cX10_enter 25 = .ok (.ldc 215, 2) := by decide +kernel
theorem dX10_enter_27 : decode cX10_enter 27 = .ok (.invokespecial 107, 3) := by decide +kernel
theorem dX10_enter_30 : decode cX10_enter 30 = .ok (.athrow, 1) := by decide +kernel
theorem dX10_enter_31 : decode cX10_enter 31 = .ok (.aload_n 0, 1) := by decide +kernel
theorem dX10_enter_32 : decode cX10_enter 32 = .ok (.getfield 39, 3) := by decide +kernel
theorem dX10_enter_35 : decode cX10_enter 35 = .ok (.getfield 217, 3) := by decide +kernel
theorem dX10_enter_38 : decode cX10_enter 38 = .ok (.bipush 12, 2) := by decide +kernel
theorem dX10_enter_40 : decode cX10_enter 40 = .ok (.if_icmp .lt 13, 3) := by decide +kernel
theorem dX10_enter_43 : decode cX10_enter 43 = .ok (.new 112, 3) := by decide +kernel
theorem dX10_enter_46 : decode cX10_enter 46 = .ok (.dup, 1) := by decide +kernel
theorem dX10_enter_47 : decode cX10_enter 47 = .ok (.ldc 220, 2) := by decide +kernel
theorem dX10_enter_49 : decode cX10_enter 49 = .ok (.invokespecial 116, 3) := by decide +kernel
theorem dX10_enter_52 : decode cX10_enter 52 = .ok (.athrow, 1) := by decide +kernel
theorem dX10_enter_53 : decode cX10_enter 53 = .ok (.aload_n 0, 1) := by decide +kernel
theorem dX10_enter_54 : decode cX10_enter 54 = .ok (.getfield 39, 3) := by decide +kernel
theorem dX10_enter_57 : decode cX10_enter 57 = .ok (.aload_n 0, 1) := by decide +kernel
theorem dX10_enter_58 : decode cX10_enter 58 = .ok (.getfield 43, 3) := by decide +kernel
theorem dX10_enter_61 : decode cX10_enter 61 = .ok (.invokevirtual 222, 3) := by decide +kernel
theorem dX10_enter_64 : decode cX10_enter 64 = .ok (.aload_n 0, 1) := by decide +kernel
theorem dX10_enter_65 : decode cX10_enter 65 = .ok (.getfield 39, 3) := by decide +kernel
theorem dX10_enter_68 : decode cX10_enter 68 = .ok (.invokevirtual 225, 3) := by decide +kernel
theorem dX10_enter_71 : decode cX10_enter 71 = .ok (.ifCond .eq 12, 3) := by decide +kernel
theorem dX10_enter_74 : decode cX10_enter 74 = .ok (.aload_n 0, 1) := by decide +kernel
theorem dX10_enter_75 : decode cX10_enter 75 = .ok (.iconst 0, 1) := by decide +kernel
theorem dX10_enter_76 : decode cX10_enter 76 = .ok (.iconst 3, 1) := by decide +kernel
theorem dX10_enter_77 : decode cX10_enter 77 = .ok (.invokevirtual 143, 3) := by decide +kernel
theorem dX10_enter_80 : decode cX10_enter 80 = .ok (.ifCond .ne 20, 3) := by decide +kernel
theorem dX10_enter_83 : decode cX10_enter 83 = .ok (.aload_n 0, 1) := by decide +kernel
theorem dX10_enter_84 : decode cX10_enter 84 = .ok (.getfield 39, 3) := by decide +kernel
theorem dX10_enter_87 : decode cX10_enter 87 = .ok (.invokevirtual 228, 3) := by decide +kernel
theorem dX10_enter_90 : decode cX10_enter 90 = .ok (.new 112, 3) := by decide +kernel
theorem dX10_enter_93 : decode cX10_enter 93 = .ok (.dup, 1) := by decide +kernel
theorem dX10_enter_94 : decode cX10_enter 94 = .ok (.ldc 229, 2) := by decide +kernel
theorem dX10_enter_96 : decode cX10_enter 96 = .ok (.invokespecial 116, 3) := by decide +kernel
theorem dX10_enter_99 : decode cX10_enter 99 = .ok (.athrow, 1) := by decide +kernel
theorem dX10_enter_100 : decode cX10_enter 100 = .ok (.aload_n 0, 1) := by decide +kernel
theorem dX10_enter_101 : decode cX10_enter 101 = .ok (.getfield 43, 3) := by decide +kernel
theorem dX10_enter_104 : decode cX10_enter 104 = .ok (.invokevirtual 205, 3) := by decide +kernel
theorem dX10_enter_107 : decode cX10_enter 107 = .ok (.aload_n 0, 1) := by decide +kernel
theorem dX10_enter_108 : decode cX10_enter 108 = .ok (.getfield 39, 3) := by decide +kernel
theorem dX10_enter_111 : decode cX10_enter 111 = .ok (.getfield 217, 3) := by decide +kernel
theorem dX10_enter_114 : decode cX10_enter 114 = .ok (.iconst 1, 1) := by decide +kernel
theorem dX10_enter_115 : decode cX10_enter 115 = .ok (.isub, 1) := by decide +kernel
theorem dX10_enter_116 : decode cX10_enter 116 = .ok (.ireturn, 1) := by decide +kernel
theorem dX10_deny_0 : decode cX10_deny 0 = .ok (.aload_n 0, 1) := by decide +kernel
theorem dX10_deny_1 : decode cX10_deny 1 = .ok (.getfield 43, 3) := by decide +kernel
theorem dX10_deny_4 : decode cX10_deny 4 = .ok (.getfield 187, 3) := by decide +kernel
theorem dX10_deny_7 : decode cX10_deny 7 = .ok (.ifCond .eq 14, 3) := by decide +kernel
theorem dX10_deny_10 : decode cX10_deny 10 = .ok (.aload_n 0, 1) := by decide +kernel
theorem dX10_deny_11 : decode cX10_deny 11 = .ok (.getfield 43, 3) := by decide +kernel
theorem dX10_deny_14 : decode cX10_deny 14 = .ok (.invokevirtual 231, 3) := by decide +kernel
theorem dX10_deny_17 : decode cX10_deny 17 = .ok (.iconst (-1), 1) := by decide +kernel
theorem dX10_deny_18 : decode cX10_deny 18 = .ok (.if_icmp .ne 13, 3) := by decide +kernel
theorem dX10_deny_21 : decode cX10_deny 21 = .ok (.new 103, 3) := by decide +kernel
theorem dX10_deny_24 : decode cX10_deny 24 = .ok (.dup, 1) := by decide +kernel
theorem dX10_deny_25 : decode cX10_deny 25 = .ok (.ldc 234, 2) := by decide +kernel
theorem dX10_deny_27 : decode cX10_deny 27 = .ok (.invokespecial 107, 3) := by decide +kernel
theorem dX10_deny_30 : decode cX10_deny 30 = .ok (.athrow, 1) := by decide +kernel
theorem dX10_deny_31 : decode cX10_deny 31 = .ok (.aload_n 0, 1) := by decide +kernel
theorem dX10_deny_32 : decode cX10_deny 32 = .ok (.getfield 39, 3) := by decide +kernel
theorem dX10_deny_35 : decode cX10_deny 35 = .ok (.getfield 236, 3) := by decide +kernel
theorem dX10_deny_38 : decode cX10_deny 38 = .ok (.bipush 6, 2) := by decide +kernel
theorem dX10_deny_40 : decode cX10_deny 40 = .ok (.if_icmp .lt 13, 3) := by decide +kernel
theorem dX10_deny_43 : decode cX10_deny 43 = .ok (.new 112, 3) := by decide +kernel
theorem dX10_deny_46 : decode cX10_deny 46 = .ok (.dup, 1) := by decide +kernel
theorem dX10_deny_47 : decode cX10_deny 47 = .ok (.ldc 239, 2) := by decide +kernel
theorem dX10_deny_49 : decode cX10_deny 49 = .ok (.invokespecial 116, 3) := by decide +kernel
theorem dX10_deny_52 : decode cX10_deny 52 = .ok (.athrow, 1) := by decide +kernel
theorem dX10_deny_53 : decode cX10_deny 53 = .ok (.aload_n 0, 1) := by decide +kernel
theorem dX10_deny_54 : decode cX10_deny 54 = .ok (.getfield 39, 3) := by decide +kernel
theorem dX10_deny_57 : decode cX10_deny 57 = .ok (.aload_n 0, 1) := by decide +kernel
theorem dX10_deny_58 : decode cX10_deny 58 = .ok (.getfield 43, 3) := by decide +kernel
theorem dX10_deny_61 : decode cX10_deny 61 = .ok (.invokevirtual 241, 3) := by decide +kernel
theorem dX10_deny_64 : decode cX10_deny 64 = .ok (.aload_n 0, 1) := by decide +kernel
theorem dX10_deny_65 : decode cX10_deny 65 = .ok (.getfield 43, 3) := by decide +kernel
theorem dX10_deny_68 : decode cX10_deny 68 = .ok (.invokevirtual 205, 3) := by decide +kernel
theorem dX10_deny_71 : decode cX10_deny 71 = .ok (.aload_n 0, 1) := by decide +kernel
theorem dX10_deny_72 : decode cX10_deny 72 = .ok (.getfield 39, 3) := by decide +kernel
theorem dX10_deny_75 : decode cX10_deny 75 = .ok (.getfield 236, 3) := by decide +kernel
theorem dX10_deny_78 : decode cX10_deny 78 = .ok (.iconst 1, 1) := by decide +kernel
theorem dX10_deny_79 : decode cX10_deny 79 = .ok (.isub, 1) := by decide +kernel
theorem dX10_deny_80 : decode cX10_deny 80 = .ok (.ireturn, 1) := by decide +kernel
theorem dX10_remove_0 : decode cX10_remove 0 = .ok (.aload_n 0, 1) := by decide +kernel
theorem dX10_remove_1 : decode cX10_remove 1 = .ok (.getfield 39, 3) := by decide +kernel
theorem dX10_remove_4 : decode cX10_remove 4 = .ok (.iload_n 1, 1) := by decide +kernel
theorem dX10_remove_5 : decode cX10_remove 5 = .ok (.invokevirtual 244, 3) := by decide +kernel
theorem dX10_remove_8 : decode cX10_remove 8 = .ok (.ifCond .ne 13, 3) := by decide +kernel
theorem dX10_remove_11 : decode cX10_remove 11 = .ok (.new 92, 3) := by decide +kernel
theorem dX10_remove_14 : decode cX10_remove 14 = .ok (.dup, 1) := by decide +kernel
theorem dX10_remove_15 : decode cX10_remove 15 = .ok (.ldc 247, 2) := by decide +kernel
theorem dX10_remove_17 : decode cX10_remove 17 = .ok (.invokespecial 96, 3) := by decide +kernel
theorem dX10_remove_20 : decode cX10_remove 20 = .ok (.athrow, 1) := by decide +kernel
theorem dX10_remove_21 : decode cX10_remove 21 = .ok (.aload_n 0, 1) := by decide +kernel
theorem dX10_remove_22 : decode cX10_remove 22 = .ok (.getfield 39, 3) := by decide +kernel
theorem dX10_remove_25 : decode cX10_remove 25 = .ok (.iload_n 1, 1) := by decide +kernel
theorem dX10_remove_26 : decode cX10_remove 26 = .ok (.invokevirtual 249, 3) := by decide +kernel
theorem dX10_remove_29 : decode cX10_remove 29 = .ok (.astore_n 2, 1) := by decide +kernel
theorem dX10_remove_30 : decode cX10_remove 30 = .ok (.aload_n 2, 1) := by decide +kernel
theorem dX10_remove_31 : decode cX10_remove 31 = .ok (.getfield 253, 3) := by decide +kernel
theorem dX10_remove_34 : decode cX10_remove 34 = .ok (.ifCond .eq 14, 3) := by decide +kernel
theorem dX10_remove_37 : decode cX10_remove 37 = .ok (.new 112, 3) := by decide +kernel
theorem dX10_remove_40 : decode cX10_remove 40 = .ok (.dup, 1) := by decide +kernel
theorem dX10_remove_41 : decode cX10_remove 41 = .ok (.ldc_w 256, 3) := by decide +kernel
theorem dX10_remove_44 : decode cX10_remove 44 = .ok (.invokespecial 116, 3) := by decide +kernel
theorem dX10_remove_47 : decode cX10_remove 47 = .ok (.athrow, 1) := by decide +kernel
theorem dX10_remove_48 : decode cX10_remove 48 = .ok (.aload_n 2, 1) := by decide +kernel
theorem dX10_remove_49 : decode cX10_remove 49 = .ok (.iconst 1, 1) := by decide +kernel
theorem dX10_remove_50 : decode cX10_remove 50 = .ok (.putfield 253, 3) := by decide +kernel
theorem dX10_remove_53 : decode cX10_remove 53 = .ok (.aload_n 0, 1) := by decide +kernel
theorem dX10_remove_54 : decode cX10_remove 54 = .ok (.getfield 39, 3) := by decide +kernel
theorem dX10_remove_57 : decode cX10_remove 57 = .ok (.invokevirtual 225, 3) := by decide +kernel
theorem dX10_remove_60 : decode cX10_remove 60 = .ok (.ifCond .eq 12, 3) := by decide +kernel
theorem dX10_remove_63 : decode cX10_remove 63 = .ok (.aload_n 0, 1) := by decide +kernel
theorem dX10_remove_64 : decode cX10_remove 64 = .ok (.iconst 0, 1) := by decide +kernel
theorem dX10_remove_65 : decode cX10_remove 65 = .ok (.iconst 3, 1) := by decide +kernel
theorem dX10_remove_66 : decode cX10_remove 66 = .ok (.invokevirtual 143, 3) := by decide +kernel
theorem dX10_remove_69 : decode cX10_remove 69 = .ok (.ifCond .ne 26, 3) := by decide +kernel
theorem dX10_remove_72 : decode cX10_remove 72 = .ok (.aload_n 2, 1) := by decide +kernel
theorem dX10_remove_73 : decode cX10_remove 73 = .ok (.iconst 0, 1) := by decide +kernel
theorem dX10_remove_74 : decode cX10_remove 74 = .ok (.putfield 253, 3) := by decide +kernel
theorem dX10_remove_77 : decode cX10_remove 77 = .ok (.aload_n 0, 1) := by decide +kernel
theorem dX10_remove_78 : decode cX10_remove 78 = .ok (.getfield 39, 3) := by decide +kernel
theorem dX10_remove_81 : decode cX10_remove 81 = .ok (.invokevirtual 225, 3) := by decide +kernel
theorem dX10_remove_84 : decode cX10_remove 84 = .ok (.pop, 1) := by decide +kernel
theorem dX10_remove_85 : decode cX10_remove 85 = .ok (.new 112, 3) := by decide +kernel
theorem dX10_remove_88 : decode cX10_remove 88 = .ok (.dup, 1) := by decide +kernel
theorem dX10_remove_89 : decode cX10_remove 89 = .ok (.ldc 150, 2) := by decide +kernel
theorem dX10_remove_91 : decode cX10_remove 91 = .ok (.invokespecial 116, 3) := by decide +kernel
theorem dX10_remove_94 : decode cX10_remove 94 = .ok (.athrow, 1) := by decide +kernel
theorem dX10_remove_95 : decode cX10_remove 95 = .ok (.aload_n 0, 1) := by decide +kernel
theorem dX10_remove_96 : decode cX10_remove 96 = .ok (.getfield 39, 3) := by decide +kernel
theorem dX10_remove_99 : decode cX10_remove 99 = .ok (.invokevirtual 258, 3) := by decide +kernel
theorem dX10_remove_102 : decode cX10_remove 102 = .ok (.ireturn, 1) := by decide +kernel
theorem dX10_holds_0 : decode cX10_holds 0 = .ok (.aload_n 0, 1) := by decide +kernel
theorem dX10_holds_1 : decode cX10_holds 1 = .ok (.getfield 31, 3) := by decide +kernel
theorem dX10_holds_4 : decode cX10_holds 4 = .ok (.iload_n 1, 1) := by decide +kernel
theorem dX10_holds_5 : decode cX10_holds 5 = .ok (.invokevirtual 108, 3) := by decide +kernel
theorem dX10_holds_8 : decode cX10_holds 8 = .ok (.ifCond .ne 13, 3) := by decide +kernel
theorem dX10_holds_11 : decode cX10_holds 11 = .ok (.new 92, 3) := by decide +kernel
theorem dX10_holds_14 : decode cX10_holds 14 = .ok (.dup, 1) := by decide +kernel
theorem dX10_holds_15 : decode cX10_holds 15 = .ok (.ldc 121, 2) := by decide +kernel
theorem dX10_holds_17 : decode cX10_holds 17 = .ok (.invokespecial 96, 3) := by decide +kernel
theorem dX10_holds_20 : decode cX10_holds 20 = .ok (.athrow, 1) := by decide +kernel
theorem dX10_holds_21 : decode cX10_holds 21 = .ok (.aload_n 0, 1) := by decide +kernel
theorem dX10_holds_22 : decode cX10_holds 22 = .ok (.aload_n 0, 1) := by decide +kernel
theorem dX10_holds_23 : decode cX10_holds 23 = .ok (.invokevirtual 261, 3) := by decide +kernel
theorem dX10_holds_26 : decode cX10_holds 26 = .ok (.iload_n 1, 1) := by decide +kernel
theorem dX10_holds_27 : decode cX10_holds 27 = .ok (.iload_n 2, 1) := by decide +kernel
theorem dX10_holds_28 : decode cX10_holds 28 = .ok (.iload_n 3, 1) := by decide +kernel
theorem dX10_holds_29 : decode cX10_holds 29 = .ok (.iload 4, 2) := by decide +kernel
theorem dX10_holds_31 : decode cX10_holds 31 = .ok (.invokevirtual 265, 3) := by decide +kernel
theorem dX10_holds_34 : decode cX10_holds 34 = .ok (.ireturn, 1) := by decide +kernel
theorem dX10_holdsAt_0 : decode cX10_holdsAt 0 = .ok (.aload_n 0, 1) := by decide +kernel
theorem dX10_holdsAt_1 : decode cX10_holdsAt 1 = .ok (.getfield 31, 3) := by decide +kernel
theorem dX10_holdsAt_4 : decode cX10_holdsAt 4 = .ok (.iload_n 1, 1) := by decide +kernel
theorem dX10_holdsAt_5 : decode cX10_holdsAt 5 = .ok (.invokevirtual 108, 3) := by decide +kernel
theorem dX10_holdsAt_8 : decode cX10_holdsAt 8 = .ok (.ifCond .ne 13, 3) := by decide +kernel
theorem dX10_holdsAt_11 : decode cX10_holdsAt 11 = .ok (.new 92, 3) := by decide +kernel
theorem dX10_holdsAt_14 : decode cX10_holdsAt 14 = .ok (.dup, 1) := by decide +kernel
theorem dX10_holdsAt_15 : decode cX10_holdsAt 15 = .ok (.ldc 121, 2) := by decide +kernel
theorem dX10_holdsAt_17 : decode cX10_holdsAt 17 = .ok (.invokespecial 96, 3) := by decide +kernel
theorem dX10_holdsAt_20 : decode cX10_holdsAt 20 = .ok (.athrow, 1) := by decide +kernel
theorem dX10_holdsAt_21 : decode cX10_holdsAt 21 = .ok (.iload 5, 2) := by decide +kernel
theorem dX10_holdsAt_23 : decode cX10_holdsAt 23 = .ok (.ifCond .lt 9, 3) := by decide +kernel
theorem dX10_holdsAt_26 : decode cX10_holdsAt 26 = .ok (.iload 5, 2) := by decide +kernel
theorem dX10_holdsAt_28 : decode cX10_holdsAt 28 = .ok (.iconst 4, 1) := by decide +kernel
theorem dX10_holdsAt_29 : decode cX10_holdsAt 29 = .ok (.if_icmp .lt 14, 3) := by decide +kernel
theorem dX10_holdsAt_32 : decode cX10_holdsAt 32 = .ok (.new 103, 3) := by decide +kernel
theorem dX10_holdsAt_35 : decode cX10_holdsAt 35 = .ok (.dup, 1) := by decide +kernel
theorem dX10_holdsAt_36 : decode cX10_holdsAt 36 = .ok (.ldc_w 269, 3) := by decide +kernel
theorem dX10_holdsAt_39 : decode cX10_holdsAt 39 = .ok (.invokespecial 107, 3) := by decide +kernel
theorem dX10_holdsAt_42 : decode cX10_holdsAt 42 = .ok (.athrow, 1) := by decide +kernel
theorem dX10_holdsAt_43 : decode cX10_holdsAt 43 = .ok (.aload_n 0, 1) := by decide +kernel
theorem dX10_holdsAt_44 : decode cX10_holdsAt 44 = .ok (.aload_n 0, 1) := by decide +kernel
theorem dX10_holdsAt_45 : decode cX10_holdsAt 45 = .ok (.iload 5, 2) := by decide +kernel
theorem dX10_holdsAt_47 : decode cX10_holdsAt 47 = .ok (.invokevirtual 271, 3) := by decide +kernel
theorem dX10_holdsAt_50 : decode cX10_holdsAt 50 = .ok (.iload_n 1, 1) := by decide +kernel
theorem dX10_holdsAt_51 : decode cX10_holdsAt 51 = .ok (.iload_n 2, 1) := by decide +kernel
theorem dX10_holdsAt_52 : decode cX10_holdsAt 52 = .ok (.iload_n 3, 1) := by decide +kernel
theorem dX10_holdsAt_53 : decode cX10_holdsAt 53 = .ok (.iload 4, 2) := by decide +kernel
theorem dX10_holdsAt_55 : decode cX10_holdsAt 55 = .ok (.invokevirtual 265, 3) := by decide +kernel
theorem dX10_holdsAt_58 : decode cX10_holdsAt 58 = .ok (.ireturn, 1) := by decide +kernel
theorem dX10_holdsAnew_0 : decode cX10_holdsAnew 0 = .ok (.aload_n 0, 1) := by decide +kernel
theorem dX10_holdsAnew_1 : decode cX10_holdsAnew 1 = .ok (.getfield 31, 3) := by decide +kernel
theorem dX10_holdsAnew_4 : decode cX10_holdsAnew 4 = .ok (.iload_n 1, 1) := by decide +kernel
theorem dX10_holdsAnew_5 : decode cX10_holdsAnew 5 = .ok (.invokevirtual 108, 3) := by decide +kernel
theorem dX10_holdsAnew_8 : decode cX10_holdsAnew 8 = .ok (.ifCond .ne 13, 3) := by decide +kernel
theorem dX10_holdsAnew_11 : decode cX10_holdsAnew 11 = .ok (.new 92, 3) := by decide +kernel
theorem dX10_holdsAnew_14 : decode cX10_holdsAnew 14 = .ok (.dup, 1) := by decide +kernel
theorem dX10_holdsAnew_15 : decode cX10_holdsAnew 15 = .ok (.ldc 121, 2) := by decide +kernel
theorem dX10_holdsAnew_17 : decode cX10_holdsAnew 17 = .ok (.invokespecial 96, 3) := by decide +kernel
theorem dX10_holdsAnew_20 : decode cX10_holdsAnew 20 = .ok (.athrow, 1) := by decide +kernel
theorem dX10_holdsAnew_21 : decode cX10_holdsAnew 21 = .ok (.iload 5, 2) := by decide +kernel
theorem dX10_holdsAnew_23 : decode cX10_holdsAnew 23 = .ok (.ifCond .lt 9, 3) := by decide +kernel
theorem dX10_holdsAnew_26 : decode cX10_holdsAnew 26 = .ok (.iload 5, 2) := by decide +kernel
theorem dX10_holdsAnew_28 : decode cX10_holdsAnew 28 = .ok (.iconst 4, 1) := by decide +kernel
theorem dX10_holdsAnew_29 : decode cX10_holdsAnew 29 = .ok (.if_icmp .lt 14, 3) := by decide +kernel
theorem dX10_holdsAnew_32 : decode cX10_holdsAnew 32 = .ok (.new 103, 3) := by decide +kernel
theorem dX10_holdsAnew_35 : decode cX10_holdsAnew 35 = .ok (.dup, 1) := by decide +kernel
theorem dX10_holdsAnew_36 : decode cX10_holdsAnew 36 = .ok (.ldc_w 269, 3) := by decide +kernel
theorem dX10_holdsAnew_39 : decode cX10_holdsAnew 39 = .ok (.invokespecial 107, 3) := by decide +kernel
theorem dX10_holdsAnew_42 : decode cX10_holdsAnew 42 = .ok (.athrow, 1) := by decide +kernel
theorem dX10_holdsAnew_43 : decode cX10_holdsAnew 43 = .ok (.aload_n 0, 1) := by decide +kernel
theorem dX10_holdsAnew_44 : decode cX10_holdsAnew 44 = .ok (.getfield 60, 3) := by decide +kernel
theorem dX10_holdsAnew_47 : decode cX10_holdsAnew 47 = .ok (.aload_n 0, 1) := by decide +kernel
theorem dX10_holdsAnew_48 : decode cX10_holdsAnew 48 = .ok (.getfield 47, 3) := by decide +kernel
theorem dX10_holdsAnew_51 : decode cX10_holdsAnew 51 = .ok (.iload 5, 2) := by decide +kernel
theorem dX10_holdsAnew_53 : decode cX10_holdsAnew 53 = .ok (.iconst 0, 1) := by decide +kernel
theorem dX10_holdsAnew_54 : decode cX10_holdsAnew 54 = .ok (.iconst 1, 1) := by decide +kernel
theorem dX10_holdsAnew_55 : decode cX10_holdsAnew 55 = .ok (.invokevirtual 275, 3) := by decide +kernel
theorem dX10_holdsAnew_58 : decode cX10_holdsAnew 58 = .ok (.aload_n 0, 1) := by decide +kernel
theorem dX10_holdsAnew_59 : decode cX10_holdsAnew 59 = .ok (.aload_n 0, 1) := by decide +kernel
theorem dX10_holdsAnew_60 : decode cX10_holdsAnew 60 = .ok (.getfield 47, 3) := by decide +kernel
theorem dX10_holdsAnew_63 : decode cX10_holdsAnew 63 = .ok (.iload_n 1, 1) := by decide +kernel
theorem dX10_holdsAnew_64 : decode cX10_holdsAnew 64 = .ok (.iload_n 2, 1) := by decide +kernel
theorem dX10_holdsAnew_65 : decode cX10_holdsAnew 65 = .ok (.iload_n 3, 1) := by decide +kernel
theorem dX10_holdsAnew_66 : decode cX10_holdsAnew 66 = .ok (.iload 4, 2) := by decide +kernel
theorem dX10_holdsAnew_68 : decode cX10_holdsAnew 68 = .ok (.invokevirtual 265, 3) := by decide +kernel
theorem dX10_holdsAnew_71 : decode cX10_holdsAnew 71 = .ok (.ireturn, 1) := by decide +kernel
theorem dX10_size_0 : decode cX10_size 0 = .ok (.aload_n 0, 1) := by decide +kernel
theorem dX10_size_1 : decode cX10_size 1 = .ok (.getfield 31, 3) := by decide +kernel
theorem dX10_size_4 : decode cX10_size 4 = .ok (.iload_n 1, 1) := by decide +kernel
theorem dX10_size_5 : decode cX10_size 5 = .ok (.invokevirtual 108, 3) := by decide +kernel
theorem dX10_size_8 : decode cX10_size 8 = .ok (.ifCond .ne 13, 3) := by decide +kernel
theorem dX10_size_11 : decode cX10_size 11 = .ok (.new 92, 3) := by decide +kernel
theorem dX10_size_14 : decode cX10_size 14 = .ok (.dup, 1) := by decide +kernel
theorem dX10_size_15 : decode cX10_size 15 = .ok (.ldc 121, 2) := by decide +kernel
theorem dX10_size_17 : decode cX10_size 17 = .ok (.invokespecial 96, 3) := by decide +kernel
theorem dX10_size_20 : decode cX10_size 20 = .ok (.athrow, 1) := by decide +kernel
theorem dX10_size_21 : decode cX10_size 21 = .ok (.aload_n 0, 1) := by decide +kernel
theorem dX10_size_22 : decode cX10_size 22 = .ok (.invokevirtual 261, 3) := by decide +kernel
theorem dX10_size_25 : decode cX10_size 25 = .ok (.iload_n 1, 1) := by decide +kernel
theorem dX10_size_26 : decode cX10_size 26 = .ok (.invokevirtual 279, 3) := by decide +kernel
theorem dX10_size_29 : decode cX10_size 29 = .ok (.ireturn, 1) := by decide +kernel
theorem dX10_at_0 : decode cX10_at 0 = .ok (.aload_n 0, 1) := by decide +kernel
theorem dX10_at_1 : decode cX10_at 1 = .ok (.getfield 31, 3) := by decide +kernel
theorem dX10_at_4 : decode cX10_at 4 = .ok (.iload_n 1, 1) := by decide +kernel
theorem dX10_at_5 : decode cX10_at 5 = .ok (.invokevirtual 108, 3) := by decide +kernel
theorem dX10_at_8 : decode cX10_at 8 = .ok (.ifCond .eq 15, 3) := by decide +kernel
theorem dX10_at_11 : decode cX10_at 11 = .ok (.aload_n 0, 1) := by decide +kernel
theorem dX10_at_12 : decode cX10_at 12 = .ok (.invokevirtual 261, 3) := by decide +kernel
theorem dX10_at_15 : decode cX10_at 15 = .ok (.iload_n 1, 1) := by decide +kernel
theorem dX10_at_16 : decode cX10_at 16 = .ok (.iload_n 2, 1) := by decide +kernel
theorem dX10_at_17 : decode cX10_at 17 = .ok (.invokevirtual 282, 3) := by decide +kernel
theorem dX10_at_20 : decode cX10_at 20 = .ok (.goto 4, 3) := by decide +kernel
theorem dX10_at_23 : decode cX10_at 23 = .ok (.iconst (-1), 1) := by decide +kernel
theorem dX10_at_24 : decode cX10_at 24 = .ok (.istore_n 3, 1) := by decide +kernel
theorem dX10_at_25 : decode cX10_at 25 = .ok (.iload_n 3, 1) := by decide +kernel
theorem dX10_at_26 : decode cX10_at 26 = .ok (.iconst (-1), 1) := by decide +kernel
theorem dX10_at_27 : decode cX10_at 27 = .ok (.if_icmp .ne 14, 3) := by decide +kernel
theorem dX10_at_30 : decode cX10_at 30 = .ok (.new 92, 3) := by decide +kernel
theorem dX10_at_33 : decode cX10_at 33 = .ok (.dup, 1) := by decide +kernel
theorem dX10_at_34 : decode cX10_at 34 = .ok (.ldc_w 286, 3) := by decide +kernel
theorem dX10_at_37 : decode cX10_at 37 = .ok (.invokespecial 96, 3) := by decide +kernel
theorem dX10_at_40 : decode cX10_at 40 = .ok (.athrow, 1) := by decide +kernel
theorem dX10_at_41 : decode cX10_at 41 = .ok (.aload_n 0, 1) := by decide +kernel
theorem dX10_at_42 : decode cX10_at 42 = .ok (.invokevirtual 261, 3) := by decide +kernel
theorem dX10_at_45 : decode cX10_at 45 = .ok (.iload_n 3, 1) := by decide +kernel
theorem dX10_at_46 : decode cX10_at 46 = .ok (.invokevirtual 288, 3) := by decide +kernel
theorem dX10_at_49 : decode cX10_at 49 = .ok (.ireturn, 1) := by decide +kernel
theorem dX10_stratum_0 : decode cX10_stratum 0 = .ok (.aload_n 0, 1) := by decide +kernel
theorem dX10_stratum_1 : decode cX10_stratum 1 = .ok (.getfield 31, 3) := by decide +kernel
theorem dX10_stratum_4 : decode cX10_stratum 4 = .ok (.iload_n 1, 1) := by decide +kernel
theorem dX10_stratum_5 : decode cX10_stratum 5 = .ok (.invokevirtual 108, 3) := by decide +kernel
theorem dX10_stratum_8 : decode cX10_stratum 8 = .ok (.ifCond .ne 13, 3) := by decide +kernel
theorem dX10_stratum_11 : decode cX10_stratum 11 = .ok (.new 92, 3) := by decide +kernel
theorem dX10_stratum_14 : decode cX10_stratum 14 = .ok (.dup, 1) := by decide +kernel
theorem dX10_stratum_15 : decode cX10_stratum 15 = .ok (.ldc 121, 2) := by decide +kernel
theorem dX10_stratum_17 : decode cX10_stratum 17 = .ok (.invokespecial 96, 3) := by decide +kernel
theorem dX10_stratum_20 : decode cX10_stratum 20 = .ok (.athrow, 1) := by decide +kernel
theorem dX10_stratum_21 : decode cX10_stratum 21 = .ok (.aload_n 0, 1) := by decide +kernel
theorem dX10_stratum_22 : decode cX10_stratum 22 = .ok (.getfield 39, 3) := by decide +kernel
theorem dX10_stratum_25 : decode cX10_stratum 25 = .ok (.iload_n 1, 1) := by decide +kernel
theorem dX10_stratum_26 : decode cX10_stratum 26 = .ok (.invokevirtual 291, 3) := by decide +kernel
theorem dX10_stratum_29 : decode cX10_stratum 29 = .ok (.ireturn, 1) := by decide +kernel
theorem dX10_ways_0 : decode cX10_ways 0 = .ok (.aload_n 0, 1) := by decide +kernel
theorem dX10_ways_1 : decode cX10_ways 1 = .ok (.getfield 31, 3) := by decide +kernel
theorem dX10_ways_4 : decode cX10_ways 4 = .ok (.iload_n 1, 1) := by decide +kernel
theorem dX10_ways_5 : decode cX10_ways 5 = .ok (.invokevirtual 108, 3) := by decide +kernel
theorem dX10_ways_8 : decode cX10_ways 8 = .ok (.ifCond .ne 13, 3) := by decide +kernel
theorem dX10_ways_11 : decode cX10_ways 11 = .ok (.new 92, 3) := by decide +kernel
theorem dX10_ways_14 : decode cX10_ways 14 = .ok (.dup, 1) := by decide +kernel
theorem dX10_ways_15 : decode cX10_ways 15 = .ok (.ldc 121, 2) := by decide +kernel
theorem dX10_ways_17 : decode cX10_ways 17 = .ok (.invokespecial 96, 3) := by decide +kernel
theorem dX10_ways_20 : decode cX10_ways 20 = .ok (.athrow, 1) := by decide +kernel
theorem dX10_ways_21 : decode cX10_ways 21 = .ok (.aload_n 0, 1) := by decide +kernel
theorem dX10_ways_22 : decode cX10_ways 22 = .ok (.aload_n 0, 1) := by decide +kernel
theorem dX10_ways_23 : decode cX10_ways 23 = .ok (.invokevirtual 261, 3) := by decide +kernel
theorem dX10_ways_26 : decode cX10_ways 26 = .ok (.iload_n 1, 1) := by decide +kernel
theorem dX10_ways_27 : decode cX10_ways 27 = .ok (.iload_n 2, 1) := by decide +kernel
theorem dX10_ways_28 : decode cX10_ways 28 = .ok (.iload_n 3, 1) := by decide +kernel
theorem dX10_ways_29 : decode cX10_ways 29 = .ok (.iload 4, 2) := by decide +kernel
theorem dX10_ways_31 : decode cX10_ways 31 = .ok (.invokevirtual 265, 3) := by decide +kernel
theorem dX10_ways_34 : decode cX10_ways 34 = .ok (.ifCond .ne 5, 3) := by decide +kernel
theorem dX10_ways_37 : decode cX10_ways 37 = .ok (.iconst 0, 1) := by decide +kernel
theorem dX10_ways_38 : decode cX10_ways 38 = .ok (.ireturn, 1) := by decide +kernel
theorem dX10_ways_39 : decode cX10_ways 39 = .ok (.iload_n 2, 1) := by decide +kernel
theorem dX10_ways_40 : decode cX10_ways 40 = .ok (.iload_n 3, 1) := by decide +kernel
theorem dX10_ways_41 : decode cX10_ways 41 = .ok (.iload 4, 2) := by decide +kernel
theorem dX10_ways_43 : decode cX10_ways 43 = .ok (.invokestatic 135, 3) := by decide +kernel
theorem dX10_ways_46 : decode cX10_ways 46 = .ok (.istore 5, 2) := by decide +kernel
theorem dX10_ways_48 : decode cX10_ways 48 = .ok (.aload_n 0, 1) := by decide +kernel
theorem dX10_ways_49 : decode cX10_ways 49 = .ok (.iload_n 1, 1) := by decide +kernel
theorem dX10_ways_50 : decode cX10_ways 50 = .ok (.iload 5, 2) := by decide +kernel
theorem dX10_ways_52 : decode cX10_ways 52 = .ok (.invokevirtual 294, 3) := by decide +kernel
theorem dX10_ways_55 : decode cX10_ways 55 = .ok (.aload_n 0, 1) := by decide +kernel
theorem dX10_ways_56 : decode cX10_ways 56 = .ok (.iload_n 1, 1) := by decide +kernel
theorem dX10_ways_57 : decode cX10_ways 57 = .ok (.iload 5, 2) := by decide +kernel
theorem dX10_ways_59 : decode cX10_ways 59 = .ok (.invokevirtual 297, 3) := by decide +kernel
theorem dX10_ways_62 : decode cX10_ways 62 = .ok (.iadd, 1) := by decide +kernel
theorem dX10_ways_63 : decode cX10_ways 63 = .ok (.ireturn, 1) := by decide +kernel
theorem dX10_cheapest_0 : decode cX10_cheapest 0 = .ok (.aload_n 0, 1) := by decide +kernel
theorem dX10_cheapest_1 : decode cX10_cheapest 1 = .ok (.getfield 31, 3) := by decide +kernel
theorem dX10_cheapest_4 : decode cX10_cheapest 4 = .ok (.iload_n 1, 1) := by decide +kernel
theorem dX10_cheapest_5 : decode cX10_cheapest 5 = .ok (.invokevirtual 108, 3) := by decide +kernel
theorem dX10_cheapest_8 : decode cX10_cheapest 8 = .ok (.ifCond .ne 13, 3) := by decide +kernel
theorem dX10_cheapest_11 : decode cX10_cheapest 11 = .ok (.new 92, 3) := by decide +kernel
theorem dX10_cheapest_14 : decode cX10_cheapest 14 = .ok (.dup, 1) := by decide +kernel
theorem dX10_cheapest_15 : decode cX10_cheapest 15 = .ok (.ldc 121, 2) := by decide +kernel
theorem dX10_cheapest_17 : decode cX10_cheapest 17 = .ok (.invokespecial 96, 3) := by decide +kernel
theorem dX10_cheapest_20 : decode cX10_cheapest 20 = .ok (.athrow, 1) := by decide +kernel
theorem dX10_cheapest_21 : decode cX10_cheapest 21 = .ok (.aload_n 0, 1) := by decide +kernel
theorem dX10_cheapest_22 : decode cX10_cheapest 22 = .ok (.aload_n 0, 1) := by decide +kernel
theorem dX10_cheapest_23 : decode cX10_cheapest 23 = .ok (.invokevirtual 261, 3) := by decide +kernel
theorem dX10_cheapest_26 : decode cX10_cheapest 26 = .ok (.iload_n 1, 1) := by decide +kernel
theorem dX10_cheapest_27 : decode cX10_cheapest 27 = .ok (.iload_n 2, 1) := by decide +kernel
theorem dX10_cheapest_28 : decode cX10_cheapest 28 = .ok (.iload_n 3, 1) := by decide +kernel
theorem dX10_cheapest_29 : decode cX10_cheapest 29 = .ok (.iload 4, 2) := by decide +kernel
theorem dX10_cheapest_31 : decode cX10_cheapest 31 = .ok (.invokevirtual 265, 3) := by decide +kernel
theorem dX10_cheapest_34 : decode cX10_cheapest 34 = .ok (.ifCond .ne 5, 3) := by decide +kernel
theorem dX10_cheapest_37 : decode cX10_cheapest 37 = .ok (.iconst (-1), 1) := by decide +kernel
theorem dX10_cheapest_38 : decode cX10_cheapest 38 = .ok (.ireturn, 1) := by decide +kernel
theorem dX10_cheapest_39 : decode cX10_cheapest 39 = .ok (.aload_n 0, 1) := by decide +kernel
theorem dX10_cheapest_40 : decode cX10_cheapest 40 = .ok (.invokevirtual 300, 3) := by decide +kernel
theorem dX10_cheapest_43 : decode cX10_cheapest 43 = .ok (.aload_n 0, 1) := by decide +kernel
theorem dX10_cheapest_44 : decode cX10_cheapest 44 = .ok (.getfield 74, 3) := by decide +kernel
theorem dX10_cheapest_47 : decode cX10_cheapest 47 = .ok (.aload_n 0, 1) := by decide +kernel
theorem dX10_cheapest_48 : decode cX10_cheapest 48 = .ok (.invokevirtual 261, 3) := by decide +kernel
theorem dX10_cheapest_51 : decode cX10_cheapest 51 = .ok (.iload_n 1, 1) := by decide +kernel
theorem dX10_cheapest_52 : decode cX10_cheapest 52 = .ok (.iload_n 2, 1) := by decide +kernel
theorem dX10_cheapest_53 : decode cX10_cheapest 53 = .ok (.iload_n 3, 1) := by decide +kernel
theorem dX10_cheapest_54 : decode cX10_cheapest 54 = .ok (.iload 4, 2) := by decide +kernel
theorem dX10_cheapest_56 : decode cX10_cheapest 56 = .ok (.invokestatic 135, 3) := by decide +kernel
theorem dX10_cheapest_59 : decode cX10_cheapest 59 = .ok (.invokevirtual 303, 3) := by decide +kernel
theorem dX10_cheapest_62 : decode cX10_cheapest 62 = .ok (.invokevirtual 306, 3) := by decide +kernel
theorem dX10_cheapest_65 : decode cX10_cheapest 65 = .ok (.ireturn, 1) := by decide +kernel
theorem dX10_needed_0 : decode cX10_needed 0 = .ok (.aload_n 0, 1) := by decide +kernel
theorem dX10_needed_1 : decode cX10_needed 1 = .ok (.getfield 31, 3) := by decide +kernel
theorem dX10_needed_4 : decode cX10_needed 4 = .ok (.iload_n 1, 1) := by decide +kernel
theorem dX10_needed_5 : decode cX10_needed 5 = .ok (.invokevirtual 108, 3) := by decide +kernel
theorem dX10_needed_8 : decode cX10_needed 8 = .ok (.ifCond .ne 13, 3) := by decide +kernel
theorem dX10_needed_11 : decode cX10_needed 11 = .ok (.new 92, 3) := by decide +kernel
theorem dX10_needed_14 : decode cX10_needed 14 = .ok (.dup, 1) := by decide +kernel
theorem dX10_needed_15 : decode cX10_needed 15 = .ok (.ldc 121, 2) := by decide +kernel
theorem dX10_needed_17 : decode cX10_needed 17 = .ok (.invokespecial 96, 3) := by decide +kernel
theorem dX10_needed_20 : decode cX10_needed 20 = .ok (.athrow, 1) := by decide +kernel
theorem dX10_needed_21 : decode cX10_needed 21 = .ok (.iconst 0, 1) := by decide +kernel
theorem dX10_needed_22 : decode cX10_needed 22 = .ok (.istore 5, 2) := by decide +kernel
theorem dX10_needed_24 : decode cX10_needed 24 = .ok (.aload_n 0, 1) := by decide +kernel
theorem dX10_needed_25 : decode cX10_needed 25 = .ok (.aload_n 0, 1) := by decide +kernel
theorem dX10_needed_26 : decode cX10_needed 26 = .ok (.invokevirtual 261, 3) := by decide +kernel
theorem dX10_needed_29 : decode cX10_needed 29 = .ok (.iload_n 1, 1) := by decide +kernel
theorem dX10_needed_30 : decode cX10_needed 30 = .ok (.iload_n 2, 1) := by decide +kernel
theorem dX10_needed_31 : decode cX10_needed 31 = .ok (.iload_n 3, 1) := by decide +kernel
theorem dX10_needed_32 : decode cX10_needed 32 = .ok (.iload 4, 2) := by decide +kernel
theorem dX10_needed_34 : decode cX10_needed 34 = .ok (.invokevirtual 265, 3) := by decide +kernel
theorem dX10_needed_37 : decode cX10_needed 37 = .ok (.istore 6, 2) := by decide +kernel
theorem dX10_needed_39 : decode cX10_needed 39 = .ok (.iconst 0, 1) := by decide +kernel
theorem dX10_needed_40 : decode cX10_needed 40 = .ok (.istore 7, 2) := by decide +kernel
theorem dX10_needed_42 : decode cX10_needed 42 = .ok (.iload 6, 2) := by decide +kernel
theorem dX10_needed_44 : decode cX10_needed 44 = .ok (.ifCond .eq 108, 3) := by decide +kernel
theorem dX10_needed_47 : decode cX10_needed 47 = .ok (.iload 7, 2) := by decide +kernel
theorem dX10_needed_49 : decode cX10_needed 49 = .ok (.aload_n 0, 1) := by decide +kernel
theorem dX10_needed_50 : decode cX10_needed 50 = .ok (.getfield 35, 3) := by decide +kernel
theorem dX10_needed_53 : decode cX10_needed 53 = .ok (.getfield 129, 3) := by decide +kernel
theorem dX10_needed_56 : decode cX10_needed 56 = .ok (.if_icmp .ge 96, 3) := by decide +kernel
theorem dX10_needed_59 : decode cX10_needed 59 = .ok (.aload_n 0, 1) := by decide +kernel
theorem dX10_needed_60 : decode cX10_needed 60 = .ok (.getfield 35, 3) := by decide +kernel
theorem dX10_needed_63 : decode cX10_needed 63 = .ok (.iload 7, 2) := by decide +kernel
theorem dX10_needed_65 : decode cX10_needed 65 = .ok (.aload_n 0, 1) := by decide +kernel
theorem dX10_needed_66 : decode cX10_needed 66 = .ok (.getfield 173, 3) := by decide +kernel
theorem dX10_needed_69 : decode cX10_needed 69 = .ok (.invokevirtual 309, 3) := by decide +kernel
theorem dX10_needed_72 : decode cX10_needed 72 = .ok (.ifCond .eq 74, 3) := by decide +kernel
theorem dX10_needed_75 : decode cX10_needed 75 = .ok (.aload_n 0, 1) := by decide +kernel
theorem dX10_needed_76 : decode cX10_needed 76 = .ok (.getfield 60, 3) := by decide +kernel
theorem dX10_needed_79 : decode cX10_needed 79 = .ok (.aload_n 0, 1) := by decide +kernel
theorem dX10_needed_80 : decode cX10_needed 80 = .ok (.getfield 47, 3) := by decide +kernel
theorem dX10_needed_83 : decode cX10_needed 83 = .ok (.aload_n 0, 1) := by decide +kernel
theorem dX10_needed_84 : decode cX10_needed 84 = .ok (.getfield 173, 3) := by decide +kernel
theorem dX10_needed_87 : decode cX10_needed 87 = .ok (.iconst 1, 1) := by decide +kernel
theorem dX10_needed_88 : decode cX10_needed 88 = .ok (.iload 7, 2) := by decide +kernel
theorem dX10_needed_90 : decode cX10_needed 90 = .ok (.ishl, 1) := by decide +kernel
theorem dX10_needed_91 : decode cX10_needed 91 = .ok (.iconst 0, 1) := by decide +kernel
theorem dX10_needed_92 : decode cX10_needed 92 = .ok (.invokevirtual 275, 3) := by decide +kernel
theorem dX10_needed_95 : decode cX10_needed 95 = .ok (.aload_n 0, 1) := by decide +kernel
theorem dX10_needed_96 : decode cX10_needed 96 = .ok (.getfield 47, 3) := by decide +kernel
theorem dX10_needed_99 : decode cX10_needed 99 = .ok (.getfield 312, 3) := by decide +kernel
theorem dX10_needed_102 : decode cX10_needed 102 = .ok (.ifCond .ne 19, 3) := by decide +kernel
theorem dX10_needed_105 : decode cX10_needed 105 = .ok (.aload_n 0, 1) := by decide +kernel
theorem dX10_needed_106 : decode cX10_needed 106 = .ok (.aload_n 0, 1) := by decide +kernel
theorem dX10_needed_107 : decode cX10_needed 107 = .ok (.getfield 47, 3) := by decide +kernel
theorem dX10_needed_110 : decode cX10_needed 110 = .ok (.iload_n 1, 1) := by decide +kernel
theorem dX10_needed_111 : decode cX10_needed 111 = .ok (.iload_n 2, 1) := by decide +kernel
theorem dX10_needed_112 : decode cX10_needed 112 = .ok (.iload_n 3, 1) := by decide +kernel
theorem dX10_needed_113 : decode cX10_needed 113 = .ok (.iload 4, 2) := by decide +kernel
theorem dX10_needed_115 : decode cX10_needed 115 = .ok (.invokevirtual 265, 3) := by decide +kernel
theorem dX10_needed_118 : decode cX10_needed 118 = .ok (.ifCond .eq 7, 3) := by decide +kernel
theorem dX10_needed_121 : decode cX10_needed 121 = .ok (.iconst 1, 1) := by decide +kernel
theorem dX10_needed_122 : decode cX10_needed 122 = .ok (.goto 4, 3) := by decide +kernel
theorem dX10_needed_125 : decode cX10_needed 125 = .ok (.iconst 0, 1) := by decide +kernel
theorem dX10_needed_126 : decode cX10_needed 126 = .ok (.istore 8, 2) := by decide +kernel
theorem dX10_needed_128 : decode cX10_needed 128 = .ok (.iload 5, 2) := by decide +kernel
theorem dX10_needed_130 : decode cX10_needed 130 = .ok (.iload 8, 2) := by decide +kernel
theorem dX10_needed_132 : decode cX10_needed 132 = .ok (.ifCond .eq 7, 3) := by decide +kernel
theorem dX10_needed_135 : decode cX10_needed 135 = .ok (.iconst 0, 1) := by decide +kernel
theorem dX10_needed_136 : decode cX10_needed 136 = .ok (.goto 7, 3) := by decide +kernel
theorem dX10_needed_139 : decode cX10_needed 139 = .ok (.iconst 1, 1) := by decide +kernel
theorem dX10_needed_140 : decode cX10_needed 140 = .ok (.iload 7, 2) := by decide +kernel
theorem dX10_needed_142 : decode cX10_needed 142 = .ok (.ishl, 1) := by decide +kernel
theorem dX10_needed_143 : decode cX10_needed 143 = .ok (.ior, 1) := by decide +kernel
theorem dX10_needed_144 : decode cX10_needed 144 = .ok (.istore 5, 2) := by decide +kernel
theorem dX10_needed_146 : decode cX10_needed 146 = .ok (.iinc 7 1, 3) := by decide +kernel
theorem dX10_needed_149 : decode cX10_needed 149 = .ok (.goto (-107), 3) := by decide +kernel
theorem dX10_needed_152 : decode cX10_needed 152 = .ok (.iload 5, 2) := by decide +kernel
theorem dX10_needed_154 : decode cX10_needed 154 = .ok (.ireturn, 1) := by decide +kernel
theorem dX10_whyNot_0 : decode cX10_whyNot 0 = .ok (.aload_n 0, 1) := by decide +kernel
theorem dX10_whyNot_1 : decode cX10_whyNot 1 = .ok (.getfield 31, 3) := by decide +kernel
theorem dX10_whyNot_4 : decode cX10_whyNot 4 = .ok (.iload_n 1, 1) := by decide +kernel
theorem dX10_whyNot_5 : decode cX10_whyNot 5 = .ok (.invokevirtual 108, 3) := by decide +kernel
theorem dX10_whyNot_8 : decode cX10_whyNot 8 = .ok (.ifCond .ne 13, 3) := by decide +kernel
theorem dX10_whyNot_11 : decode cX10_whyNot 11 = .ok (.new 92, 3) := by decide +kernel
theorem dX10_whyNot_14 : decode cX10_whyNot 14 = .ok (.dup, 1) := by decide +kernel
theorem dX10_whyNot_15 : decode cX10_whyNot 15 = .ok (.ldc 121, 2) := by decide +kernel
theorem dX10_whyNot_17 : decode cX10_whyNot 17 = .ok (.invokespecial 96, 3) := by decide +kernel
theorem dX10_whyNot_20 : decode cX10_whyNot 20 = .ok (.athrow, 1) := by decide +kernel
theorem dX10_whyNot_21 : decode cX10_whyNot 21 = .ok (.aload_n 0, 1) := by decide +kernel
theorem dX10_whyNot_22 : decode cX10_whyNot 22 = .ok (.getfield 31, 3) := by decide +kernel
theorem dX10_whyNot_25 : decode cX10_whyNot 25 = .ok (.iload_n 1, 1) := by decide +kernel
theorem dX10_whyNot_26 : decode cX10_whyNot 26 = .ok (.iconst 0, 1) := by decide +kernel
theorem dX10_whyNot_27 : decode cX10_whyNot 27 = .ok (.iload_n 2, 1) := by decide +kernel
theorem dX10_whyNot_28 : decode cX10_whyNot 28 = .ok (.iload_n 3, 1) := by decide +kernel
theorem dX10_whyNot_29 : decode cX10_whyNot 29 = .ok (.iload 4, 2) := by decide +kernel
theorem dX10_whyNot_31 : decode cX10_whyNot 31 = .ok (.invokevirtual 123, 3) := by decide +kernel
theorem dX10_whyNot_34 : decode cX10_whyNot 34 = .ok (.ifCond .ne 14, 3) := by decide +kernel
theorem dX10_whyNot_37 : decode cX10_whyNot 37 = .ok (.new 103, 3) := by decide +kernel
theorem dX10_whyNot_40 : decode cX10_whyNot 40 = .ok (.dup, 1) := by decide +kernel
theorem dX10_whyNot_41 : decode cX10_whyNot 41 = .ok (.ldc_w 315, 3) := by decide +kernel
theorem dX10_whyNot_44 : decode cX10_whyNot 44 = .ok (.invokespecial 107, 3) := by decide +kernel
theorem dX10_whyNot_47 : decode cX10_whyNot 47 = .ok (.athrow, 1) := by decide +kernel
theorem dX10_whyNot_48 : decode cX10_whyNot 48 = .ok (.aload_n 0, 1) := by decide +kernel
theorem dX10_whyNot_49 : decode cX10_whyNot 49 = .ok (.aload_n 0, 1) := by decide +kernel
theorem dX10_whyNot_50 : decode cX10_whyNot 50 = .ok (.invokevirtual 261, 3) := by decide +kernel
theorem dX10_whyNot_53 : decode cX10_whyNot 53 = .ok (.iload_n 1, 1) := by decide +kernel
theorem dX10_whyNot_54 : decode cX10_whyNot 54 = .ok (.iload_n 2, 1) := by decide +kernel
theorem dX10_whyNot_55 : decode cX10_whyNot 55 = .ok (.iload_n 3, 1) := by decide +kernel
theorem dX10_whyNot_56 : decode cX10_whyNot 56 = .ok (.iload 4, 2) := by decide +kernel
theorem dX10_whyNot_58 : decode cX10_whyNot 58 = .ok (.invokevirtual 265, 3) := by decide +kernel
theorem dX10_whyNot_61 : decode cX10_whyNot 61 = .ok (.ifCond .eq 14, 3) := by decide +kernel
theorem dX10_whyNot_64 : decode cX10_whyNot 64 = .ok (.new 112, 3) := by decide +kernel
theorem dX10_whyNot_67 : decode cX10_whyNot 67 = .ok (.dup, 1) := by decide +kernel
theorem dX10_whyNot_68 : decode cX10_whyNot 68 = .ok (.ldc_w 317, 3) := by decide +kernel
theorem dX10_whyNot_71 : decode cX10_whyNot 71 = .ok (.invokespecial 116, 3) := by decide +kernel
theorem dX10_whyNot_74 : decode cX10_whyNot 74 = .ok (.athrow, 1) := by decide +kernel
theorem dX10_whyNot_75 : decode cX10_whyNot 75 = .ok (.iconst (-1), 1) := by decide +kernel
theorem dX10_whyNot_76 : decode cX10_whyNot 76 = .ok (.istore 5, 2) := by decide +kernel
theorem dX10_whyNot_78 : decode cX10_whyNot 78 = .ok (.iconst (-1), 1) := by decide +kernel
theorem dX10_whyNot_79 : decode cX10_whyNot 79 = .ok (.istore 6, 2) := by decide +kernel
theorem dX10_whyNot_81 : decode cX10_whyNot 81 = .ok (.iconst 0, 1) := by decide +kernel
theorem dX10_whyNot_82 : decode cX10_whyNot 82 = .ok (.istore 7, 2) := by decide +kernel
theorem dX10_whyNot_84 : decode cX10_whyNot 84 = .ok (.iload 7, 2) := by decide +kernel
theorem dX10_whyNot_86 : decode cX10_whyNot 86 = .ok (.aload_n 0, 1) := by decide +kernel
theorem dX10_whyNot_87 : decode cX10_whyNot 87 = .ok (.getfield 39, 3) := by decide +kernel
theorem dX10_whyNot_90 : decode cX10_whyNot 90 = .ok (.getfield 217, 3) := by decide +kernel
theorem dX10_whyNot_93 : decode cX10_whyNot 93 = .ok (.if_icmp .ge 47, 3) := by decide +kernel
theorem dX10_whyNot_96 : decode cX10_whyNot 96 = .ok (.aload_n 0, 1) := by decide +kernel
theorem dX10_whyNot_97 : decode cX10_whyNot 97 = .ok (.aload_n 0, 1) := by decide +kernel
theorem dX10_whyNot_98 : decode cX10_whyNot 98 = .ok (.getfield 39, 3) := by decide +kernel
theorem dX10_whyNot_101 : decode cX10_whyNot 101 = .ok (.iload 7, 2) := by decide +kernel
theorem dX10_whyNot_103 : decode cX10_whyNot 103 = .ok (.invokevirtual 249, 3) := by decide +kernel
theorem dX10_whyNot_106 : decode cX10_whyNot 106 = .ok (.iload_n 1, 1) := by decide +kernel
theorem dX10_whyNot_107 : decode cX10_whyNot 107 = .ok (.iload_n 2, 1) := by decide +kernel
theorem dX10_whyNot_108 : decode cX10_whyNot 108 = .ok (.iload_n 3, 1) := by decide +kernel
theorem dX10_whyNot_109 : decode cX10_whyNot 109 = .ok (.iload 4, 2) := by decide +kernel
theorem dX10_whyNot_111 : decode cX10_whyNot 111 = .ok (.invokestatic 135, 3) := by decide +kernel
theorem dX10_whyNot_114 : decode cX10_whyNot 114 = .ok (.invokevirtual 319, 3) := by decide +kernel
theorem dX10_whyNot_117 : decode cX10_whyNot 117 = .ok (.istore 8, 2) := by decide +kernel
theorem dX10_whyNot_119 : decode cX10_whyNot 119 = .ok (.iload 8, 2) := by decide +kernel
theorem dX10_whyNot_121 : decode cX10_whyNot 121 = .ok (.iload 6, 2) := by decide +kernel
theorem dX10_whyNot_123 : decode cX10_whyNot 123 = .ok (.if_icmp .le 11, 3) := by decide +kernel
theorem dX10_whyNot_126 : decode cX10_whyNot 126 = .ok (.iload 8, 2) := by decide +kernel
theorem dX10_whyNot_128 : decode cX10_whyNot 128 = .ok (.istore 6, 2) := by decide +kernel
theorem dX10_whyNot_130 : decode cX10_whyNot 130 = .ok (.iload 7, 2) := by decide +kernel
theorem dX10_whyNot_132 : decode cX10_whyNot 132 = .ok (.istore 5, 2) := by decide +kernel
theorem dX10_whyNot_134 : decode cX10_whyNot 134 = .ok (.iinc 7 1, 3) := by decide +kernel
theorem dX10_whyNot_137 : decode cX10_whyNot 137 = .ok (.goto (-53), 3) := by decide +kernel
theorem dX10_whyNot_140 : decode cX10_whyNot 140 = .ok (.iload 5, 2) := by decide +kernel
theorem dX10_whyNot_142 : decode cX10_whyNot 142 = .ok (.iconst (-1), 1) := by decide +kernel
theorem dX10_whyNot_143 : decode cX10_whyNot 143 = .ok (.if_icmp .ne 7, 3) := by decide +kernel
theorem dX10_whyNot_146 : decode cX10_whyNot 146 = .ok (.iconst (-1), 1) := by decide +kernel
theorem dX10_whyNot_147 : decode cX10_whyNot 147 = .ok (.goto 11, 3) := by decide +kernel
theorem dX10_whyNot_150 : decode cX10_whyNot 150 = .ok (.bipush 10, 2) := by decide +kernel
theorem dX10_whyNot_152 : decode cX10_whyNot 152 = .ok (.iload 5, 2) := by decide +kernel
theorem dX10_whyNot_154 : decode cX10_whyNot 154 = .ok (.imul, 1) := by decide +kernel
theorem dX10_whyNot_155 : decode cX10_whyNot 155 = .ok (.iload 6, 2) := by decide +kernel
theorem dX10_whyNot_157 : decode cX10_whyNot 157 = .ok (.iadd, 1) := by decide +kernel
theorem dX10_whyNot_158 : decode cX10_whyNot 158 = .ok (.ireturn, 1) := by decide +kernel
theorem dX10_broken_0 : decode cX10_broken 0 = .ok (.aload_n 0, 1) := by decide +kernel
theorem dX10_broken_1 : decode cX10_broken 1 = .ok (.aload_n 0, 1) := by decide +kernel
theorem dX10_broken_2 : decode cX10_broken 2 = .ok (.invokevirtual 261, 3) := by decide +kernel
theorem dX10_broken_5 : decode cX10_broken 5 = .ok (.invokevirtual 323, 3) := by decide +kernel
theorem dX10_broken_8 : decode cX10_broken 8 = .ok (.ireturn, 1) := by decide +kernel
theorem dX10_repair_0 : decode cX10_repair 0 = .ok (.aload_n 0, 1) := by decide +kernel
theorem dX10_repair_1 : decode cX10_repair 1 = .ok (.aload_n 0, 1) := by decide +kernel
theorem dX10_repair_2 : decode cX10_repair 2 = .ok (.invokevirtual 261, 3) := by decide +kernel
theorem dX10_repair_5 : decode cX10_repair 5 = .ok (.invokevirtual 323, 3) := by decide +kernel
theorem dX10_repair_8 : decode cX10_repair 8 = .ok (.ifCond .ne 5, 3) := by decide +kernel
theorem dX10_repair_11 : decode cX10_repair 11 = .ok (.iconst 0, 1) := by decide +kernel
theorem dX10_repair_12 : decode cX10_repair 12 = .ok (.ireturn, 1) := by decide +kernel
theorem dX10_repair_13 : decode cX10_repair 13 = .ok (.iconst 0, 1) := by decide +kernel
theorem dX10_repair_14 : decode cX10_repair 14 = .ok (.istore_n 1, 1) := by decide +kernel
theorem dX10_repair_15 : decode cX10_repair 15 = .ok (.iload_n 1, 1) := by decide +kernel
theorem dX10_repair_16 : decode cX10_repair 16 = .ok (.aload_n 0, 1) := by decide +kernel
theorem dX10_repair_17 : decode cX10_repair 17 = .ok (.getfield 35, 3) := by decide +kernel
theorem dX10_repair_20 : decode cX10_repair 20 = .ok (.getfield 129, 3) := by decide +kernel
theorem dX10_repair_23 : decode cX10_repair 23 = .ok (.if_icmp .ge 38, 3) := by decide +kernel
theorem dX10_repair_26 : decode cX10_repair 26 = .ok (.aload_n 0, 1) := by decide +kernel
theorem dX10_repair_27 : decode cX10_repair 27 = .ok (.getfield 35, 3) := by decide +kernel
theorem dX10_repair_30 : decode cX10_repair 30 = .ok (.iload_n 1, 1) := by decide +kernel
theorem dX10_repair_31 : decode cX10_repair 31 = .ok (.aload_n 0, 1) := by decide +kernel
theorem dX10_repair_32 : decode cX10_repair 32 = .ok (.getfield 173, 3) := by decide +kernel
theorem dX10_repair_35 : decode cX10_repair 35 = .ok (.invokevirtual 309, 3) := by decide +kernel
theorem dX10_repair_38 : decode cX10_repair 38 = .ok (.ifCond .eq 17, 3) := by decide +kernel
theorem dX10_repair_41 : decode cX10_repair 41 = .ok (.aload_n 0, 1) := by decide +kernel
theorem dX10_repair_42 : decode cX10_repair 42 = .ok (.iconst 1, 1) := by decide +kernel
theorem dX10_repair_43 : decode cX10_repair 43 = .ok (.iload_n 1, 1) := by decide +kernel
theorem dX10_repair_44 : decode cX10_repair 44 = .ok (.ishl, 1) := by decide +kernel
theorem dX10_repair_45 : decode cX10_repair 45 = .ok (.invokevirtual 327, 3) := by decide +kernel
theorem dX10_repair_48 : decode cX10_repair 48 = .ok (.ifCond .eq 7, 3) := by decide +kernel
theorem dX10_repair_51 : decode cX10_repair 51 = .ok (.iconst 1, 1) := by decide +kernel
theorem dX10_repair_52 : decode cX10_repair 52 = .ok (.iload_n 1, 1) := by decide +kernel
theorem dX10_repair_53 : decode cX10_repair 53 = .ok (.ishl, 1) := by decide +kernel
theorem dX10_repair_54 : decode cX10_repair 54 = .ok (.ireturn, 1) := by decide +kernel
theorem dX10_repair_55 : decode cX10_repair 55 = .ok (.iinc 1 1, 3) := by decide +kernel
theorem dX10_repair_58 : decode cX10_repair 58 = .ok (.goto (-43), 3) := by decide +kernel
theorem dX10_repair_61 : decode cX10_repair 61 = .ok (.iconst 1, 1) := by decide +kernel
theorem dX10_repair_62 : decode cX10_repair 62 = .ok (.istore_n 1, 1) := by decide +kernel
theorem dX10_repair_63 : decode cX10_repair 63 = .ok (.iload_n 1, 1) := by decide +kernel
theorem dX10_repair_64 : decode cX10_repair 64 = .ok (.aload_n 0, 1) := by decide +kernel
theorem dX10_repair_65 : decode cX10_repair 65 = .ok (.getfield 35, 3) := by decide +kernel
theorem dX10_repair_68 : decode cX10_repair 68 = .ok (.getfield 129, 3) := by decide +kernel
theorem dX10_repair_71 : decode cX10_repair 71 = .ok (.if_icmp .ge 74, 3) := by decide +kernel
theorem dX10_repair_74 : decode cX10_repair 74 = .ok (.iconst 0, 1) := by decide +kernel
theorem dX10_repair_75 : decode cX10_repair 75 = .ok (.istore_n 2, 1) := by decide +kernel
theorem dX10_repair_76 : decode cX10_repair 76 = .ok (.iload_n 2, 1) := by decide +kernel
theorem dX10_repair_77 : decode cX10_repair 77 = .ok (.iload_n 1, 1) := by decide +kernel
theorem dX10_repair_78 : decode cX10_repair 78 = .ok (.if_icmp .ge 61, 3) := by decide +kernel
theorem dX10_repair_81 : decode cX10_repair 81 = .ok (.aload_n 0, 1) := by decide +kernel
theorem dX10_repair_82 : decode cX10_repair 82 = .ok (.getfield 35, 3) := by decide +kernel
theorem dX10_repair_85 : decode cX10_repair 85 = .ok (.iload_n 1, 1) := by decide +kernel
theorem dX10_repair_86 : decode cX10_repair 86 = .ok (.aload_n 0, 1) := by decide +kernel
theorem dX10_repair_87 : decode cX10_repair 87 = .ok (.getfield 173, 3) := by decide +kernel
theorem dX10_repair_90 : decode cX10_repair 90 = .ok (.invokevirtual 309, 3) := by decide +kernel
theorem dX10_repair_93 : decode cX10_repair 93 = .ok (.ifCond .eq 46, 3) := by decide +kernel
theorem dX10_repair_96 : decode cX10_repair 96 = .ok (.aload_n 0, 1) := by decide +kernel
theorem dX10_repair_97 : decode cX10_repair 97 = .ok (.getfield 35, 3) := by decide +kernel
theorem dX10_repair_100 : decode cX10_repair 100 = .ok (.iload_n 2, 1) := by decide +kernel
theorem dX10_repair_101 : decode cX10_repair 101 = .ok (.aload_n 0, 1) := by decide +kernel
theorem dX10_repair_102 : decode cX10_repair 102 = .ok (.getfield 173, 3) := by decide +kernel
theorem dX10_repair_105 : decode cX10_repair 105 = .ok (.invokevirtual 309, 3) := by decide +kernel
theorem dX10_repair_108 : decode cX10_repair 108 = .ok (.ifCond .eq 25, 3) := by decide +kernel
theorem dX10_repair_111 : decode cX10_repair 111 = .ok (.aload_n 0, 1) := by decide +kernel
theorem dX10_repair_112 : decode cX10_repair 112 = .ok (.iconst 1, 1) := by decide +kernel
theorem dX10_repair_113 : decode cX10_repair 113 = .ok (.iload_n 1, 1) := by decide +kernel
theorem dX10_repair_114 : decode cX10_repair 114 = .ok (.ishl, 1) := by decide +kernel
theorem dX10_repair_115 : decode cX10_repair 115 = .ok (.iconst 1, 1) := by decide +kernel
theorem dX10_repair_116 : decode cX10_repair 116 = .ok (.iload_n 2, 1) := by decide +kernel
theorem dX10_repair_117 : decode cX10_repair 117 = .ok (.ishl, 1) := by decide +kernel
theorem dX10_repair_118 : decode cX10_repair 118 = .ok (.ior, 1) := by decide +kernel
theorem dX10_repair_119 : decode cX10_repair 119 = .ok (.invokevirtual 327, 3) := by decide +kernel
theorem dX10_repair_122 : decode cX10_repair 122 = .ok (.ifCond .eq 11, 3) := by decide +kernel
theorem dX10_repair_125 : decode cX10_repair 125 = .ok (.iconst 1, 1) := by decide +kernel
theorem dX10_repair_126 : decode cX10_repair 126 = .ok (.iload_n 1, 1) := by decide +kernel
theorem dX10_repair_127 : decode cX10_repair 127 = .ok (.ishl, 1) := by decide +kernel
theorem dX10_repair_128 : decode cX10_repair 128 = .ok (.iconst 1, 1) := by decide +kernel
theorem dX10_repair_129 : decode cX10_repair 129 = .ok (.iload_n 2, 1) := by decide +kernel
theorem dX10_repair_130 : decode cX10_repair 130 = .ok (.ishl, 1) := by decide +kernel
theorem dX10_repair_131 : decode cX10_repair 131 = .ok (.ior, 1) := by decide +kernel
theorem dX10_repair_132 : decode cX10_repair 132 = .ok (.ireturn, 1) := by decide +kernel
theorem dX10_repair_133 : decode cX10_repair 133 = .ok (.iinc 2 1, 3) := by decide +kernel
theorem dX10_repair_136 : decode cX10_repair 136 = .ok (.goto (-60), 3) := by decide +kernel
theorem dX10_repair_139 : decode cX10_repair 139 = .ok (.iinc 1 1, 3) := by decide +kernel
theorem dX10_repair_142 : decode cX10_repair 142 = .ok (.goto (-79), 3) := by decide +kernel
theorem dX10_repair_145 : decode cX10_repair 145 = .ok (.iconst (-1), 1) := by decide +kernel
theorem dX10_repair_146 : decode cX10_repair 146 = .ok (.ireturn, 1) := by decide +kernel
theorem dX10_goals_0 : decode cX10_goals 0 = .ok (.aload_n 0, 1) := by decide +kernel
theorem dX10_goals_1 : decode cX10_goals 1 = .ok (.getfield 31, 3) := by decide +kernel
theorem dX10_goals_4 : decode cX10_goals 4 = .ok (.iload_n 1, 1) := by decide +kernel
theorem dX10_goals_5 : decode cX10_goals 5 = .ok (.invokevirtual 108, 3) := by decide +kernel
theorem dX10_goals_8 : decode cX10_goals 8 = .ok (.ifCond .ne 13, 3) := by decide +kernel
theorem dX10_goals_11 : decode cX10_goals 11 = .ok (.new 92, 3) := by decide +kernel
theorem dX10_goals_14 : decode cX10_goals 14 = .ok (.dup, 1) := by decide +kernel
theorem dX10_goals_15 : decode cX10_goals 15 = .ok (.ldc 121, 2) := by decide +kernel
theorem dX10_goals_17 : decode cX10_goals 17 = .ok (.invokespecial 96, 3) := by decide +kernel
theorem dX10_goals_20 : decode cX10_goals 20 = .ok (.athrow, 1) := by decide +kernel
theorem dX10_goals_21 : decode cX10_goals 21 = .ok (.aload_n 0, 1) := by decide +kernel
theorem dX10_goals_22 : decode cX10_goals 22 = .ok (.getfield 31, 3) := by decide +kernel
theorem dX10_goals_25 : decode cX10_goals 25 = .ok (.iload_n 1, 1) := by decide +kernel
theorem dX10_goals_26 : decode cX10_goals 26 = .ok (.iconst 2, 1) := by decide +kernel
theorem dX10_goals_27 : decode cX10_goals 27 = .ok (.iload_n 2, 1) := by decide +kernel
theorem dX10_goals_28 : decode cX10_goals 28 = .ok (.iload_n 3, 1) := by decide +kernel
theorem dX10_goals_29 : decode cX10_goals 29 = .ok (.iload 4, 2) := by decide +kernel
theorem dX10_goals_31 : decode cX10_goals 31 = .ok (.invokevirtual 123, 3) := by decide +kernel
theorem dX10_goals_34 : decode cX10_goals 34 = .ok (.ifCond .ne 14, 3) := by decide +kernel
theorem dX10_goals_37 : decode cX10_goals 37 = .ok (.new 103, 3) := by decide +kernel
theorem dX10_goals_40 : decode cX10_goals 40 = .ok (.dup, 1) := by decide +kernel
theorem dX10_goals_41 : decode cX10_goals 41 = .ok (.ldc_w 315, 3) := by decide +kernel
theorem dX10_goals_44 : decode cX10_goals 44 = .ok (.invokespecial 107, 3) := by decide +kernel
theorem dX10_goals_47 : decode cX10_goals 47 = .ok (.athrow, 1) := by decide +kernel
theorem dX10_goals_48 : decode cX10_goals 48 = .ok (.aload_n 0, 1) := by decide +kernel
theorem dX10_goals_49 : decode cX10_goals 49 = .ok (.getfield 81, 3) := by decide +kernel
theorem dX10_goals_52 : decode cX10_goals 52 = .ok (.invokevirtual 330, 3) := by decide +kernel
theorem dX10_goals_55 : decode cX10_goals 55 = .ok (.aload_n 0, 1) := by decide +kernel
theorem dX10_goals_56 : decode cX10_goals 56 = .ok (.getfield 81, 3) := by decide +kernel
theorem dX10_goals_59 : decode cX10_goals 59 = .ok (.aload_n 0, 1) := by decide +kernel
theorem dX10_goals_60 : decode cX10_goals 60 = .ok (.getfield 31, 3) := by decide +kernel
theorem dX10_goals_63 : decode cX10_goals 63 = .ok (.iload_n 1, 1) := by decide +kernel
theorem dX10_goals_64 : decode cX10_goals 64 = .ok (.iload_n 2, 1) := by decide +kernel
theorem dX10_goals_65 : decode cX10_goals 65 = .ok (.iload_n 3, 1) := by decide +kernel
theorem dX10_goals_66 : decode cX10_goals 66 = .ok (.iload 4, 2) := by decide +kernel
theorem dX10_goals_68 : decode cX10_goals 68 = .ok (.invokevirtual 331, 3) := by decide +kernel
theorem dX10_goals_71 : decode cX10_goals 71 = .ok (.invokevirtual 335, 3) := by decide +kernel
theorem dX10_goals_74 : decode cX10_goals 74 = .ok (.iconst 0, 1) := by decide +kernel
theorem dX10_goals_75 : decode cX10_goals 75 = .ok (.istore 5, 2) := by decide +kernel
theorem dX10_goals_77 : decode cX10_goals 77 = .ok (.iload 5, 2) := by decide +kernel
theorem dX10_goals_79 : decode cX10_goals 79 = .ok (.aload_n 0, 1) := by decide +kernel
theorem dX10_goals_80 : decode cX10_goals 80 = .ok (.getfield 81, 3) := by decide +kernel
theorem dX10_goals_83 : decode cX10_goals 83 = .ok (.getfield 339, 3) := by decide +kernel
theorem dX10_goals_86 : decode cX10_goals 86 = .ok (.if_icmp .ge 35, 3) := by decide +kernel
theorem dX10_goals_89 : decode cX10_goals 89 = .ok (.aload_n 0, 1) := by decide +kernel
theorem dX10_goals_90 : decode cX10_goals 90 = .ok (.getfield 81, 3) := by decide +kernel
theorem dX10_goals_93 : decode cX10_goals 93 = .ok (.getfield 339, 3) := by decide +kernel
theorem dX10_goals_96 : decode cX10_goals 96 = .ok (.sipush 400, 3) := by decide +kernel
theorem dX10_goals_99 : decode cX10_goals 99 = .ok (.if_icmp .ge 22, 3) := by decide +kernel
theorem dX10_goals_102 : decode cX10_goals 102 = .ok (.aload_n 0, 1) := by decide +kernel
theorem dX10_goals_103 : decode cX10_goals 103 = .ok (.aload_n 0, 1) := by decide +kernel
theorem dX10_goals_104 : decode cX10_goals 104 = .ok (.getfield 81, 3) := by decide +kernel
theorem dX10_goals_107 : decode cX10_goals 107 = .ok (.iload 5, 2) := by decide +kernel
theorem dX10_goals_109 : decode cX10_goals 109 = .ok (.invokevirtual 340, 3) := by decide +kernel
theorem dX10_goals_112 : decode cX10_goals 112 = .ok (.invokevirtual 343, 3) := by decide +kernel
theorem dX10_goals_115 : decode cX10_goals 115 = .ok (.iinc 5 1, 3) := by decide +kernel
theorem dX10_goals_118 : decode cX10_goals 118 = .ok (.goto (-41), 3) := by decide +kernel
theorem dX10_goals_121 : decode cX10_goals 121 = .ok (.aload_n 0, 1) := by decide +kernel
theorem dX10_goals_122 : decode cX10_goals 122 = .ok (.getfield 81, 3) := by decide +kernel
theorem dX10_goals_125 : decode cX10_goals 125 = .ok (.getfield 339, 3) := by decide +kernel
theorem dX10_goals_128 : decode cX10_goals 128 = .ok (.ireturn, 1) := by decide +kernel
theorem dX10_order_0 : decode cX10_order 0 = .ok (.aload_n 0, 1) := by decide +kernel
theorem dX10_order_1 : decode cX10_order 1 = .ok (.getfield 39, 3) := by decide +kernel
theorem dX10_order_4 : decode cX10_order 4 = .ok (.iload_n 1, 1) := by decide +kernel
theorem dX10_order_5 : decode cX10_order 5 = .ok (.invokevirtual 244, 3) := by decide +kernel
theorem dX10_order_8 : decode cX10_order 8 = .ok (.ifCond .eq 7, 3) := by decide +kernel
theorem dX10_order_11 : decode cX10_order 11 = .ok (.iload_n 2, 1) := by decide +kernel
theorem dX10_order_12 : decode cX10_order 12 = .ok (.ifCond .ge 14, 3) := by decide +kernel
theorem dX10_order_15 : decode cX10_order 15 = .ok (.new 92, 3) := by decide +kernel
theorem dX10_order_18 : decode cX10_order 18 = .ok (.dup, 1) := by decide +kernel
theorem dX10_order_19 : decode cX10_order 19 = .ok (.ldc_w 346, 3) := by decide +kernel
theorem dX10_order_22 : decode cX10_order 22 = .ok (.invokespecial 96, 3) := by decide +kernel
theorem dX10_order_25 : decode cX10_order 25 = .ok (.athrow, 1) := by decide +kernel
theorem dX10_order_26 : decode cX10_order 26 = .ok (.aload_n 0, 1) := by decide +kernel
theorem dX10_order_27 : decode cX10_order 27 = .ok (.getfield 88, 3) := by decide +kernel
theorem dX10_order_30 : decode cX10_order 30 = .ok (.aload_n 0, 1) := by decide +kernel
theorem dX10_order_31 : decode cX10_order 31 = .ok (.getfield 39, 3) := by decide +kernel
theorem dX10_order_34 : decode cX10_order 34 = .ok (.iload_n 1, 1) := by decide +kernel
theorem dX10_order_35 : decode cX10_order 35 = .ok (.invokevirtual 249, 3) := by decide +kernel
theorem dX10_order_38 : decode cX10_order 38 = .ok (.aload_n 0, 1) := by decide +kernel
theorem dX10_order_39 : decode cX10_order 39 = .ok (.getfield 31, 3) := by decide +kernel
theorem dX10_order_42 : decode cX10_order 42 = .ok (.invokevirtual 348, 3) := by decide +kernel
theorem dX10_order_45 : decode cX10_order 45 = .ok (.aload_n 0, 1) := by decide +kernel
theorem dX10_order_46 : decode cX10_order 46 = .ok (.getfield 88, 3) := by decide +kernel
theorem dX10_order_49 : decode cX10_order 49 = .ok (.iload_n 2, 1) := by decide +kernel
theorem dX10_order_50 : decode cX10_order 50 = .ok (.invokevirtual 352, 3) := by decide +kernel
theorem dX10_order_53 : decode cX10_order 53 = .ok (.ireturn, 1) := by decide +kernel
theorem dX10_joins_0 : decode cX10_joins 0 = .ok (.aload_n 0, 1) := by decide +kernel
theorem dX10_joins_1 : decode cX10_joins 1 = .ok (.getfield 39, 3) := by decide +kernel
theorem dX10_joins_4 : decode cX10_joins 4 = .ok (.iload_n 1, 1) := by decide +kernel
theorem dX10_joins_5 : decode cX10_joins 5 = .ok (.invokevirtual 244, 3) := by decide +kernel
theorem dX10_joins_8 : decode cX10_joins 8 = .ok (.ifCond .ne 13, 3) := by decide +kernel
theorem dX10_joins_11 : decode cX10_joins 11 = .ok (.new 92, 3) := by decide +kernel
theorem dX10_joins_14 : decode cX10_joins 14 = .ok (.dup, 1) := by decide +kernel
theorem dX10_joins_15 : decode cX10_joins 15 = .ok (.ldc 247, 2) := by decide +kernel
theorem dX10_joins_17 : decode cX10_joins 17 = .ok (.invokespecial 96, 3) := by decide +kernel
theorem dX10_joins_20 : decode cX10_joins 20 = .ok (.athrow, 1) := by decide +kernel
theorem dX10_joins_21 : decode cX10_joins 21 = .ok (.aload_n 0, 1) := by decide +kernel
theorem dX10_joins_22 : decode cX10_joins 22 = .ok (.getfield 39, 3) := by decide +kernel
theorem dX10_joins_25 : decode cX10_joins 25 = .ok (.iload_n 1, 1) := by decide +kernel
theorem dX10_joins_26 : decode cX10_joins 26 = .ok (.invokevirtual 249, 3) := by decide +kernel
theorem dX10_joins_29 : decode cX10_joins 29 = .ok (.astore_n 2, 1) := by decide +kernel
theorem dX10_joins_30 : decode cX10_joins 30 = .ok (.iconst 0, 1) := by decide +kernel
theorem dX10_joins_31 : decode cX10_joins 31 = .ok (.istore_n 3, 1) := by decide +kernel
theorem dX10_joins_32 : decode cX10_joins 32 = .ok (.iconst 0, 1) := by decide +kernel
theorem dX10_joins_33 : decode cX10_joins 33 = .ok (.istore 4, 2) := by decide +kernel
theorem dX10_joins_35 : decode cX10_joins 35 = .ok (.iload 4, 2) := by decide +kernel
theorem dX10_joins_37 : decode cX10_joins 37 = .ok (.aload_n 2, 1) := by decide +kernel
theorem dX10_joins_38 : decode cX10_joins 38 = .ok (.getfield 187, 3) := by decide +kernel
theorem dX10_joins_41 : decode cX10_joins 41 = .ok (.if_icmp .ge 31, 3) := by decide +kernel
theorem dX10_joins_44 : decode cX10_joins 44 = .ok (.aload_n 2, 1) := by decide +kernel
theorem dX10_joins_45 : decode cX10_joins 45 = .ok (.iload 4, 2) := by decide +kernel
theorem dX10_joins_47 : decode cX10_joins 47 = .ok (.invokevirtual 355, 3) := by decide +kernel
theorem dX10_joins_50 : decode cX10_joins 50 = .ok (.ifCond .ne 16, 3) := by decide +kernel
theorem dX10_joins_53 : decode cX10_joins 53 = .ok (.aload_n 0, 1) := by decide +kernel
theorem dX10_joins_54 : decode cX10_joins 54 = .ok (.aload_n 2, 1) := by decide +kernel
theorem dX10_joins_55 : decode cX10_joins 55 = .ok (.iload 4, 2) := by decide +kernel
theorem dX10_joins_57 : decode cX10_joins 57 = .ok (.invokevirtual 358, 3) := by decide +kernel
theorem dX10_joins_60 : decode cX10_joins 60 = .ok (.ifCond .ne 6, 3) := by decide +kernel
theorem dX10_joins_63 : decode cX10_joins 63 = .ok (.iinc 3 1, 3) := by decide +kernel
theorem dX10_joins_66 : decode cX10_joins 66 = .ok (.iinc 4 1, 3) := by decide +kernel
theorem dX10_joins_69 : decode cX10_joins 69 = .ok (.goto (-34), 3) := by decide +kernel
theorem dX10_joins_72 : decode cX10_joins 72 = .ok (.iload_n 3, 1) := by decide +kernel
theorem dX10_joins_73 : decode cX10_joins 73 = .ok (.ireturn, 1) := by decide +kernel
theorem dX10_indexes_0 : decode cX10_indexes 0 = .ok (.aload_n 0, 1) := by decide +kernel
theorem dX10_indexes_1 : decode cX10_indexes 1 = .ok (.getfield 31, 3) := by decide +kernel
theorem dX10_indexes_4 : decode cX10_indexes 4 = .ok (.iload_n 1, 1) := by decide +kernel
theorem dX10_indexes_5 : decode cX10_indexes 5 = .ok (.invokevirtual 108, 3) := by decide +kernel
theorem dX10_indexes_8 : decode cX10_indexes 8 = .ok (.ifCond .ne 13, 3) := by decide +kernel
theorem dX10_indexes_11 : decode cX10_indexes 11 = .ok (.new 92, 3) := by decide +kernel
theorem dX10_indexes_14 : decode cX10_indexes 14 = .ok (.dup, 1) := by decide +kernel
theorem dX10_indexes_15 : decode cX10_indexes 15 = .ok (.ldc 121, 2) := by decide +kernel
theorem dX10_indexes_17 : decode cX10_indexes 17 = .ok (.invokespecial 96, 3) := by decide +kernel
theorem dX10_indexes_20 : decode cX10_indexes 20 = .ok (.athrow, 1) := by decide +kernel
theorem dX10_indexes_21 : decode cX10_indexes 21 = .ok (.iconst 0, 1) := by decide +kernel
theorem dX10_indexes_22 : decode cX10_indexes 22 = .ok (.istore_n 2, 1) := by decide +kernel
theorem dX10_indexes_23 : decode cX10_indexes 23 = .ok (.iconst 0, 1) := by decide +kernel
theorem dX10_indexes_24 : decode cX10_indexes 24 = .ok (.istore_n 3, 1) := by decide +kernel
theorem dX10_indexes_25 : decode cX10_indexes 25 = .ok (.iload_n 3, 1) := by decide +kernel
theorem dX10_indexes_26 : decode cX10_indexes 26 = .ok (.aload_n 0, 1) := by decide +kernel
theorem dX10_indexes_27 : decode cX10_indexes 27 = .ok (.getfield 39, 3) := by decide +kernel
theorem dX10_indexes_30 : decode cX10_indexes 30 = .ok (.getfield 217, 3) := by decide +kernel
theorem dX10_indexes_33 : decode cX10_indexes 33 = .ok (.if_icmp .ge 53, 3) := by decide +kernel
theorem dX10_indexes_36 : decode cX10_indexes 36 = .ok (.aload_n 0, 1) := by decide +kernel
theorem dX10_indexes_37 : decode cX10_indexes 37 = .ok (.getfield 39, 3) := by decide +kernel
theorem dX10_indexes_40 : decode cX10_indexes 40 = .ok (.iload_n 3, 1) := by decide +kernel
theorem dX10_indexes_41 : decode cX10_indexes 41 = .ok (.invokevirtual 249, 3) := by decide +kernel
theorem dX10_indexes_44 : decode cX10_indexes 44 = .ok (.astore 4, 2) := by decide +kernel
theorem dX10_indexes_46 : decode cX10_indexes 46 = .ok (.aload 4, 2) := by decide +kernel
theorem dX10_indexes_48 : decode cX10_indexes 48 = .ok (.getfield 253, 3) := by decide +kernel
theorem dX10_indexes_51 : decode cX10_indexes 51 = .ok (.ifCond .ne 29, 3) := by decide +kernel
theorem dX10_indexes_54 : decode cX10_indexes 54 = .ok (.aload_n 0, 1) := by decide +kernel
theorem dX10_indexes_55 : decode cX10_indexes 55 = .ok (.getfield 88, 3) := by decide +kernel
theorem dX10_indexes_58 : decode cX10_indexes 58 = .ok (.aload 4, 2) := by decide +kernel
theorem dX10_indexes_60 : decode cX10_indexes 60 = .ok (.aload_n 0, 1) := by decide +kernel
theorem dX10_indexes_61 : decode cX10_indexes 61 = .ok (.getfield 31, 3) := by decide +kernel
theorem dX10_indexes_64 : decode cX10_indexes 64 = .ok (.invokevirtual 348, 3) := by decide +kernel
theorem dX10_indexes_67 : decode cX10_indexes 67 = .ok (.iload_n 2, 1) := by decide +kernel
theorem dX10_indexes_68 : decode cX10_indexes 68 = .ok (.aload_n 0, 1) := by decide +kernel
theorem dX10_indexes_69 : decode cX10_indexes 69 = .ok (.getfield 88, 3) := by decide +kernel
theorem dX10_indexes_72 : decode cX10_indexes 72 = .ok (.aload 4, 2) := by decide +kernel
theorem dX10_indexes_74 : decode cX10_indexes 74 = .ok (.iload_n 1, 1) := by decide +kernel
theorem dX10_indexes_75 : decode cX10_indexes 75 = .ok (.invokevirtual 362, 3) := by decide +kernel
theorem dX10_indexes_78 : decode cX10_indexes 78 = .ok (.ior, 1) := by decide +kernel
theorem dX10_indexes_79 : decode cX10_indexes 79 = .ok (.istore_n 2, 1) := by decide +kernel
theorem dX10_indexes_80 : decode cX10_indexes 80 = .ok (.iinc 3 1, 3) := by decide +kernel
theorem dX10_indexes_83 : decode cX10_indexes 83 = .ok (.goto (-58), 3) := by decide +kernel
theorem dX10_indexes_86 : decode cX10_indexes 86 = .ok (.iload_n 2, 1) := by decide +kernel
theorem dX10_indexes_87 : decode cX10_indexes 87 = .ok (.invokestatic 366, 3) := by decide +kernel
theorem dX10_indexes_90 : decode cX10_indexes 90 = .ok (.ireturn, 1) := by decide +kernel
theorem dX10_isKey_0 : decode cX10_isKey 0 = .ok (.iload_n 1, 1) := by decide +kernel
theorem dX10_isKey_1 : decode cX10_isKey 1 = .ok (.ifCond .ne 21, 3) := by decide +kernel
theorem dX10_isKey_4 : decode cX10_isKey 4 = .ok (.iload_n 2, 1) := by decide +kernel
theorem dX10_isKey_5 : decode cX10_isKey 5 = .ok (.iconst 1, 1) := by decide +kernel
theorem dX10_isKey_6 : decode cX10_isKey 6 = .ok (.if_icmp .lt 12, 3) := by decide +kernel
theorem dX10_isKey_9 : decode cX10_isKey 9 = .ok (.iload_n 2, 1) := by decide +kernel
theorem dX10_isKey_10 : decode cX10_isKey 10 = .ok (.iload_n 0, 1) := by decide +kernel
theorem dX10_isKey_11 : decode cX10_isKey 11 = .ok (.if_icmp .gt 7, 3) := by decide +kernel
theorem dX10_isKey_14 : decode cX10_isKey 14 = .ok (.iconst 1, 1) := by decide +kernel
theorem dX10_isKey_15 : decode cX10_isKey 15 = .ok (.goto 19, 3) := by decide +kernel
theorem dX10_isKey_18 : decode cX10_isKey 18 = .ok (.iconst 0, 1) := by decide +kernel
theorem dX10_isKey_19 : decode cX10_isKey 19 = .ok (.goto 15, 3) := by decide +kernel
theorem dX10_isKey_22 : decode cX10_isKey 22 = .ok (.iload_n 2, 1) := by decide +kernel
theorem dX10_isKey_23 : decode cX10_isKey 23 = .ok (.iload_n 0, 1) := by decide +kernel
theorem dX10_isKey_24 : decode cX10_isKey 24 = .ok (.iconst 1, 1) := by decide +kernel
theorem dX10_isKey_25 : decode cX10_isKey 25 = .ok (.isub, 1) := by decide +kernel
theorem dX10_isKey_26 : decode cX10_isKey 26 = .ok (.if_icmp .ne 7, 3) := by decide +kernel
theorem dX10_isKey_29 : decode cX10_isKey 29 = .ok (.iconst 1, 1) := by decide +kernel
theorem dX10_isKey_30 : decode cX10_isKey 30 = .ok (.goto 4, 3) := by decide +kernel
theorem dX10_isKey_33 : decode cX10_isKey 33 = .ok (.iconst 0, 1) := by decide +kernel
theorem dX10_isKey_34 : decode cX10_isKey 34 = .ok (.ireturn, 1) := by decide +kernel
theorem dX10_isValue_0 : decode cX10_isValue 0 = .ok (.iload_n 0, 1) := by decide +kernel
theorem dX10_isValue_1 : decode cX10_isValue 1 = .ok (.ifCond .lt 13, 3) := by decide +kernel
theorem dX10_isValue_4 : decode cX10_isValue 4 = .ok (.iload_n 0, 1) := by decide +kernel
theorem dX10_isValue_5 : decode cX10_isValue 5 = .ok (.bipush 127, 2) := by decide +kernel
theorem dX10_isValue_7 : decode cX10_isValue 7 = .ok (.if_icmp .gt 7, 3) := by decide +kernel
theorem dX10_isValue_10 : decode cX10_isValue 10 = .ok (.iconst 1, 1) := by decide +kernel
theorem dX10_isValue_11 : decode cX10_isValue 11 = .ok (.goto 4, 3) := by decide +kernel
theorem dX10_isValue_14 : decode cX10_isValue 14 = .ok (.iconst 0, 1) := by decide +kernel
theorem dX10_isValue_15 : decode cX10_isValue 15 = .ok (.ireturn, 1) := by decide +kernel
theorem dX10_isTerm_0 : decode cX10_isTerm 0 = .ok (.iload_n 0, 1) := by decide +kernel
theorem dX10_isTerm_1 : decode cX10_isTerm 1 = .ok (.bipush (-8), 2) := by decide +kernel
theorem dX10_isTerm_3 : decode cX10_isTerm 3 = .ok (.if_icmp .lt 13, 3) := by decide +kernel
theorem dX10_isTerm_6 : decode cX10_isTerm 6 = .ok (.iload_n 0, 1) := by decide +kernel
theorem dX10_isTerm_7 : decode cX10_isTerm 7 = .ok (.bipush 127, 2) := by decide +kernel
theorem dX10_isTerm_9 : decode cX10_isTerm 9 = .ok (.if_icmp .gt 7, 3) := by decide +kernel
theorem dX10_isTerm_12 : decode cX10_isTerm 12 = .ok (.iconst 1, 1) := by decide +kernel
theorem dX10_isTerm_13 : decode cX10_isTerm 13 = .ok (.goto 4, 3) := by decide +kernel
theorem dX10_isTerm_16 : decode cX10_isTerm 16 = .ok (.iconst 0, 1) := by decide +kernel
theorem dX10_isTerm_17 : decode cX10_isTerm 17 = .ok (.ireturn, 1) := by decide +kernel
theorem dX10_isPermitted_0 : decode cX10_isPermitted 0 = .ok (.iload_n 1, 1) := by decide +kernel
theorem dX10_isPermitted_1 : decode cX10_isPermitted 1 = .ok (.invokestatic 369, 3) := by decide +kernel
theorem dX10_isPermitted_4 : decode cX10_isPermitted 4 = .ok (.ifCond .ne 26, 3) := by decide +kernel
theorem dX10_isPermitted_7 : decode cX10_isPermitted 7 = .ok (.iload_n 0, 1) := by decide +kernel
theorem dX10_isPermitted_8 : decode cX10_isPermitted 8 = .ok (.iconst 1, 1) := by decide +kernel
theorem dX10_isPermitted_9 : decode cX10_isPermitted 9 = .ok (.if_icmp .ne 10, 3) := by decide +kernel
theorem dX10_isPermitted_12 : decode cX10_isPermitted 12 = .ok (.iload_n 1, 1) := by decide +kernel
theorem dX10_isPermitted_13 : decode cX10_isPermitted 13 = .ok (.invokestatic 200, 3) := by decide +kernel
theorem dX10_isPermitted_16 : decode cX10_isPermitted 16 = .ok (.ifCond .ne 14, 3) := by decide +kernel
theorem dX10_isPermitted_19 : decode cX10_isPermitted 19 = .ok (.iload_n 0, 1) := by decide +kernel
theorem dX10_isPermitted_20 : decode cX10_isPermitted 20 = .ok (.iconst 2, 1) := by decide +kernel
theorem dX10_isPermitted_21 : decode cX10_isPermitted 21 = .ok (.if_icmp .ne 13, 3) := by decide +kernel
theorem dX10_isPermitted_24 : decode cX10_isPermitted 24 = .ok (.iload_n 1, 1) := by decide +kernel
theorem dX10_isPermitted_25 : decode cX10_isPermitted 25 = .ok (.bipush (-9), 2) := by decide +kernel
theorem dX10_isPermitted_27 : decode cX10_isPermitted 27 = .ok (.if_icmp .ne 7, 3) := by decide +kernel
theorem dX10_isPermitted_30 : decode cX10_isPermitted 30 = .ok (.iconst 1, 1) := by decide +kernel
theorem dX10_isPermitted_31 : decode cX10_isPermitted 31 = .ok (.goto 4, 3) := by decide +kernel
theorem dX10_isPermitted_34 : decode cX10_isPermitted 34 = .ok (.iconst 0, 1) := by decide +kernel
theorem dX10_isPermitted_35 : decode cX10_isPermitted 35 = .ok (.ireturn, 1) := by decide +kernel
theorem dX10_packed_0 : decode cX10_packed 0 = .ok (.iload_n 0, 1) := by decide +kernel
theorem dX10_packed_1 : decode cX10_packed 1 = .ok (.bipush 14, 2) := by decide +kernel
theorem dX10_packed_3 : decode cX10_packed 3 = .ok (.ishl, 1) := by decide +kernel
theorem dX10_packed_4 : decode cX10_packed 4 = .ok (.iload_n 1, 1) := by decide +kernel
theorem dX10_packed_5 : decode cX10_packed 5 = .ok (.bipush 7, 2) := by decide +kernel
theorem dX10_packed_7 : decode cX10_packed 7 = .ok (.ishl, 1) := by decide +kernel
theorem dX10_packed_8 : decode cX10_packed 8 = .ok (.ior, 1) := by decide +kernel
theorem dX10_packed_9 : decode cX10_packed 9 = .ok (.iload_n 2, 1) := by decide +kernel
theorem dX10_packed_10 : decode cX10_packed 10 = .ok (.ior, 1) := by decide +kernel
theorem dX10_packed_11 : decode cX10_packed 11 = .ok (.ireturn, 1) := by decide +kernel
theorem dX10_shiftOf_0 : decode cX10_shiftOf 0 = .ok (.iconst 2, 1) := by decide +kernel
theorem dX10_shiftOf_1 : decode cX10_shiftOf 1 = .ok (.iload_n 0, 1) := by decide +kernel
theorem dX10_shiftOf_2 : decode cX10_shiftOf 2 = .ok (.isub, 1) := by decide +kernel
theorem dX10_shiftOf_3 : decode cX10_shiftOf 3 = .ok (.bipush 7, 2) := by decide +kernel
theorem dX10_shiftOf_5 : decode cX10_shiftOf 5 = .ok (.imul, 1) := by decide +kernel
theorem dX10_shiftOf_6 : decode cX10_shiftOf 6 = .ok (.ireturn, 1) := by decide +kernel
theorem dX10_columnOf_0 : decode cX10_columnOf 0 = .ok (.iload_n 0, 1) := by decide +kernel
theorem dX10_columnOf_1 : decode cX10_columnOf 1 = .ok (.iconst 2, 1) := by decide +kernel
theorem dX10_columnOf_2 : decode cX10_columnOf 2 = .ok (.iload_n 1, 1) := by decide +kernel
theorem dX10_columnOf_3 : decode cX10_columnOf 3 = .ok (.isub, 1) := by decide +kernel
theorem dX10_columnOf_4 : decode cX10_columnOf 4 = .ok (.bipush 7, 2) := by decide +kernel
theorem dX10_columnOf_6 : decode cX10_columnOf 6 = .ok (.imul, 1) := by decide +kernel
theorem dX10_columnOf_7 : decode cX10_columnOf 7 = .ok (.ishr, 1) := by decide +kernel
theorem dX10_columnOf_8 : decode cX10_columnOf 8 = .ok (.bipush 127, 2) := by decide +kernel
theorem dX10_columnOf_10 : decode cX10_columnOf 10 = .ok (.iand, 1) := by decide +kernel
theorem dX10_columnOf_11 : decode cX10_columnOf 11 = .ok (.ireturn, 1) := by decide +kernel
theorem dX10_picked_0 : decode cX10_picked 0 = .ok (.iload_n 0, 1) := by decide +kernel
theorem dX10_picked_1 : decode cX10_picked 1 = .ok (.ifCond .ne 7, 3) := by decide +kernel
theorem dX10_picked_4 : decode cX10_picked 4 = .ok (.iload_n 1, 1) := by decide +kernel
theorem dX10_picked_5 : decode cX10_picked 5 = .ok (.goto 13, 3) := by decide +kernel
theorem dX10_picked_8 : decode cX10_picked 8 = .ok (.iload_n 0, 1) := by decide +kernel
theorem dX10_picked_9 : decode cX10_picked 9 = .ok (.iconst 1, 1) := by decide +kernel
theorem dX10_picked_10 : decode cX10_picked 10 = .ok (.if_icmp .ne 7, 3) := by decide +kernel
theorem dX10_picked_13 : decode cX10_picked 13 = .ok (.iload_n 2, 1) := by decide +kernel
theorem dX10_picked_14 : decode cX10_picked 14 = .ok (.goto 4, 3) := by decide +kernel
theorem dX10_picked_17 : decode cX10_picked 17 = .ok (.iload_n 3, 1) := by decide +kernel
theorem dX10_picked_18 : decode cX10_picked 18 = .ok (.ireturn, 1) := by decide +kernel
theorem dX10_variableBit_0 : decode cX10_variableBit 0 = .ok (.iload_n 0, 1) := by decide +kernel
theorem dX10_variableBit_1 : decode cX10_variableBit 1 = .ok (.ifCond .ge 17, 3) := by decide +kernel
theorem dX10_variableBit_4 : decode cX10_variableBit 4 = .ok (.iload_n 0, 1) := by decide +kernel
theorem dX10_variableBit_5 : decode cX10_variableBit 5 = .ok (.bipush (-8), 2) := by decide +kernel
theorem dX10_variableBit_7 : decode cX10_variableBit 7 = .ok (.if_icmp .lt 11, 3) := by decide +kernel
theorem dX10_variableBit_10 : decode cX10_variableBit 10 = .ok (.iconst 1, 1) := by decide +kernel
theorem dX10_variableBit_11 : decode cX10_variableBit 11 = .ok (.iconst (-1), 1) := by decide +kernel
theorem dX10_variableBit_12 : decode cX10_variableBit 12 = .ok (.iload_n 0, 1) := by decide +kernel
theorem dX10_variableBit_13 : decode cX10_variableBit 13 = .ok (.isub, 1) := by decide +kernel
theorem dX10_variableBit_14 : decode cX10_variableBit 14 = .ok (.ishl, 1) := by decide +kernel
theorem dX10_variableBit_15 : decode cX10_variableBit 15 = .ok (.goto 4, 3) := by decide +kernel
theorem dX10_variableBit_18 : decode cX10_variableBit 18 = .ok (.iconst 0, 1) := by decide +kernel
theorem dX10_variableBit_19 : decode cX10_variableBit 19 = .ok (.ireturn, 1) := by decide +kernel
theorem dX10_modelOf_0 : decode cX10_modelOf 0 = .ok (.iload_n 1, 1) := by decide +kernel
theorem dX10_modelOf_1 : decode cX10_modelOf 1 = .ok (.ifCond .lt 21, 3) := by decide +kernel
theorem dX10_modelOf_4 : decode cX10_modelOf 4 = .ok (.iload_n 1, 1) := by decide +kernel
theorem dX10_modelOf_5 : decode cX10_modelOf 5 = .ok (.aload_n 0, 1) := by decide +kernel
theorem dX10_modelOf_6 : decode cX10_modelOf 6 = .ok (.getfield 64, 3) := by decide +kernel
theorem dX10_modelOf_9 : decode cX10_modelOf 9 = .ok (.arraylength, 1) := by decide +kernel
theorem dX10_modelOf_10 : decode cX10_modelOf 10 = .ok (.if_icmp .ge 12, 3) := by decide +kernel
theorem dX10_modelOf_13 : decode cX10_modelOf 13 = .ok (.aload_n 0, 1) := by decide +kernel
theorem dX10_modelOf_14 : decode cX10_modelOf 14 = .ok (.getfield 64, 3) := by decide +kernel
theorem dX10_modelOf_17 : decode cX10_modelOf 17 = .ok (.iload_n 1, 1) := by decide +kernel
theorem dX10_modelOf_18 : decode cX10_modelOf 18 = .ok (.aaload, 1) := by decide +kernel
theorem dX10_modelOf_19 : decode cX10_modelOf 19 = .ok (.goto 7, 3) := by decide +kernel
theorem dX10_modelOf_22 : decode cX10_modelOf 22 = .ok (.aload_n 0, 1) := by decide +kernel
theorem dX10_modelOf_23 : decode cX10_modelOf 23 = .ok (.getfield 47, 3) := by decide +kernel
theorem dX10_modelOf_26 : decode cX10_modelOf 26 = .ok (.astore_n 2, 1) := by decide +kernel
theorem dX10_modelOf_27 : decode cX10_modelOf 27 = .ok (.aload_n 2, 1) := by decide +kernel
theorem dX10_modelOf_28 : decode cX10_modelOf 28 = .ok (.ifnonnull 10, 3) := by decide +kernel
theorem dX10_modelOf_31 : decode cX10_modelOf 31 = .ok (.aload_n 0, 1) := by decide +kernel
theorem dX10_modelOf_32 : decode cX10_modelOf 32 = .ok (.getfield 47, 3) := by decide +kernel
theorem dX10_modelOf_35 : decode cX10_modelOf 35 = .ok (.goto 4, 3) := by decide +kernel
theorem dX10_modelOf_38 : decode cX10_modelOf 38 = .ok (.aload_n 2, 1) := by decide +kernel
theorem dX10_modelOf_39 : decode cX10_modelOf 39 = .ok (.areturn, 1) := by decide +kernel
theorem dX10_spareOf_0 : decode cX10_spareOf 0 = .ok (.iload_n 1, 1) := by decide +kernel
theorem dX10_spareOf_1 : decode cX10_spareOf 1 = .ok (.ifCond .lt 21, 3) := by decide +kernel
theorem dX10_spareOf_4 : decode cX10_spareOf 4 = .ok (.iload_n 1, 1) := by decide +kernel
theorem dX10_spareOf_5 : decode cX10_spareOf 5 = .ok (.aload_n 0, 1) := by decide +kernel
theorem dX10_spareOf_6 : decode cX10_spareOf 6 = .ok (.getfield 68, 3) := by decide +kernel
theorem dX10_spareOf_9 : decode cX10_spareOf 9 = .ok (.arraylength, 1) := by decide +kernel
theorem dX10_spareOf_10 : decode cX10_spareOf 10 = .ok (.if_icmp .ge 12, 3) := by decide +kernel
theorem dX10_spareOf_13 : decode cX10_spareOf 13 = .ok (.aload_n 0, 1) := by decide +kernel
theorem dX10_spareOf_14 : decode cX10_spareOf 14 = .ok (.getfield 68, 3) := by decide +kernel
theorem dX10_spareOf_17 : decode cX10_spareOf 17 = .ok (.iload_n 1, 1) := by decide +kernel
theorem dX10_spareOf_18 : decode cX10_spareOf 18 = .ok (.aaload, 1) := by decide +kernel
theorem dX10_spareOf_19 : decode cX10_spareOf 19 = .ok (.goto 7, 3) := by decide +kernel
theorem dX10_spareOf_22 : decode cX10_spareOf 22 = .ok (.aload_n 0, 1) := by decide +kernel
theorem dX10_spareOf_23 : decode cX10_spareOf 23 = .ok (.getfield 47, 3) := by decide +kernel
theorem dX10_spareOf_26 : decode cX10_spareOf 26 = .ok (.astore_n 2, 1) := by decide +kernel
theorem dX10_spareOf_27 : decode cX10_spareOf 27 = .ok (.aload_n 2, 1) := by decide +kernel
theorem dX10_spareOf_28 : decode cX10_spareOf 28 = .ok (.ifnonnull 10, 3) := by decide +kernel
theorem dX10_spareOf_31 : decode cX10_spareOf 31 = .ok (.aload_n 0, 1) := by decide +kernel
theorem dX10_spareOf_32 : decode cX10_spareOf 32 = .ok (.getfield 47, 3) := by decide +kernel
theorem dX10_spareOf_35 : decode cX10_spareOf 35 = .ok (.goto 4, 3) := by decide +kernel
theorem dX10_spareOf_38 : decode cX10_spareOf 38 = .ok (.aload_n 2, 1) := by decide +kernel
theorem dX10_spareOf_39 : decode cX10_spareOf 39 = .ok (.areturn, 1) := by decide +kernel
theorem dX10_present_0 : decode cX10_present 0 = .ok (.aload_n 0, 1) := by decide +kernel
theorem dX10_present_1 : decode cX10_present 1 = .ok (.aload_n 0, 1) := by decide +kernel
theorem dX10_present_2 : decode cX10_present 2 = .ok (.getfield 173, 3) := by decide +kernel
theorem dX10_present_5 : decode cX10_present 5 = .ok (.invokevirtual 271, 3) := by decide +kernel
theorem dX10_present_8 : decode cX10_present 8 = .ok (.areturn, 1) := by decide +kernel
theorem dX10_isIn_0 : decode cX10_isIn 0 = .ok (.aload_n 0, 1) := by decide +kernel
theorem dX10_isIn_1 : decode cX10_isIn 1 = .ok (.getfield 31, 3) := by decide +kernel
theorem dX10_isIn_4 : decode cX10_isIn 4 = .ok (.iload_n 2, 1) := by decide +kernel
theorem dX10_isIn_5 : decode cX10_isIn 5 = .ok (.iconst 0, 1) := by decide +kernel
theorem dX10_isIn_6 : decode cX10_isIn 6 = .ok (.iload_n 3, 1) := by decide +kernel
theorem dX10_isIn_7 : decode cX10_isIn 7 = .ok (.iload 4, 2) := by decide +kernel
theorem dX10_isIn_9 : decode cX10_isIn 9 = .ok (.iload 5, 2) := by decide +kernel
theorem dX10_isIn_11 : decode cX10_isIn 11 = .ok (.invokevirtual 123, 3) := by decide +kernel
theorem dX10_isIn_14 : decode cX10_isIn 14 = .ok (.ifCond .eq 23, 3) := by decide +kernel
theorem dX10_isIn_17 : decode cX10_isIn 17 = .ok (.aload_n 1, 1) := by decide +kernel
theorem dX10_isIn_18 : decode cX10_isIn 18 = .ok (.iload_n 2, 1) := by decide +kernel
theorem dX10_isIn_19 : decode cX10_isIn 19 = .ok (.iload_n 3, 1) := by decide +kernel
theorem dX10_isIn_20 : decode cX10_isIn 20 = .ok (.iload 4, 2) := by decide +kernel
theorem dX10_isIn_22 : decode cX10_isIn 22 = .ok (.iload 5, 2) := by decide +kernel
theorem dX10_isIn_24 : decode cX10_isIn 24 = .ok (.invokestatic 135, 3) := by decide +kernel
theorem dX10_isIn_27 : decode cX10_isIn 27 = .ok (.invokevirtual 372, 3) := by decide +kernel
theorem dX10_isIn_30 : decode cX10_isIn 30 = .ok (.ifCond .eq 7, 3) := by decide +kernel
theorem dX10_isIn_33 : decode cX10_isIn 33 = .ok (.iconst 1, 1) := by decide +kernel
theorem dX10_isIn_34 : decode cX10_isIn 34 = .ok (.goto 4, 3) := by decide +kernel
theorem dX10_isIn_37 : decode cX10_isIn 37 = .ok (.iconst 0, 1) := by decide +kernel
theorem dX10_isIn_38 : decode cX10_isIn 38 = .ok (.ireturn, 1) := by decide +kernel
theorem dX10_renew_0 : decode cX10_renew 0 = .ok (.iload_n 1, 1) := by decide +kernel
theorem dX10_renew_1 : decode cX10_renew 1 = .ok (.istore_n 3, 1) := by decide +kernel
theorem dX10_renew_2 : decode cX10_renew 2 = .ok (.iload_n 3, 1) := by decide +kernel
theorem dX10_renew_3 : decode cX10_renew 3 = .ok (.iload_n 2, 1) := by decide +kernel
theorem dX10_renew_4 : decode cX10_renew 4 = .ok (.if_icmp .gt 43, 3) := by decide +kernel
theorem dX10_renew_7 : decode cX10_renew 7 = .ok (.iload_n 3, 1) := by decide +kernel
theorem dX10_renew_8 : decode cX10_renew 8 = .ok (.iconst 4, 1) := by decide +kernel
theorem dX10_renew_9 : decode cX10_renew 9 = .ok (.if_icmp .ge 38, 3) := by decide +kernel
theorem dX10_renew_12 : decode cX10_renew 12 = .ok (.aload_n 0, 1) := by decide +kernel
theorem dX10_renew_13 : decode cX10_renew 13 = .ok (.iload_n 3, 1) := by decide +kernel
theorem dX10_renew_14 : decode cX10_renew 14 = .ok (.invokevirtual 375, 3) := by decide +kernel
theorem dX10_renew_17 : decode cX10_renew 17 = .ok (.astore 4, 2) := by decide +kernel
theorem dX10_renew_19 : decode cX10_renew 19 = .ok (.aload_n 0, 1) := by decide +kernel
theorem dX10_renew_20 : decode cX10_renew 20 = .ok (.getfield 60, 3) := by decide +kernel
theorem dX10_renew_23 : decode cX10_renew 23 = .ok (.aload 4, 2) := by decide +kernel
theorem dX10_renew_25 : decode cX10_renew 25 = .ok (.iload_n 3, 1) := by decide +kernel
theorem dX10_renew_26 : decode cX10_renew 26 = .ok (.iconst 0, 1) := by decide +kernel
theorem dX10_renew_27 : decode cX10_renew 27 = .ok (.iconst 0, 1) := by decide +kernel
theorem dX10_renew_28 : decode cX10_renew 28 = .ok (.invokevirtual 275, 3) := by decide +kernel
theorem dX10_renew_31 : decode cX10_renew 31 = .ok (.aload 4, 2) := by decide +kernel
theorem dX10_renew_33 : decode cX10_renew 33 = .ok (.getfield 312, 3) := by decide +kernel
theorem dX10_renew_36 : decode cX10_renew 36 = .ok (.ifCond .eq 5, 3) := by decide +kernel
theorem dX10_renew_39 : decode cX10_renew 39 = .ok (.iconst 0, 1) := by decide +kernel
theorem dX10_renew_40 : decode cX10_renew 40 = .ok (.ireturn, 1) := by decide +kernel
theorem dX10_renew_41 : decode cX10_renew 41 = .ok (.iinc 3 1, 3) := by decide +kernel
theorem dX10_renew_44 : decode cX10_renew 44 = .ok (.goto (-42), 3) := by decide +kernel
theorem dX10_renew_47 : decode cX10_renew 47 = .ok (.iload_n 1, 1) := by decide +kernel
theorem dX10_renew_48 : decode cX10_renew 48 = .ok (.iconst 0, 1) := by decide +kernel
theorem dX10_renew_49 : decode cX10_renew 49 = .ok (.invokestatic 378, 3) := by decide +kernel
theorem dX10_renew_52 : decode cX10_renew 52 = .ok (.istore_n 3, 1) := by decide +kernel
theorem dX10_renew_53 : decode cX10_renew 53 = .ok (.iload_n 3, 1) := by decide +kernel
theorem dX10_renew_54 : decode cX10_renew 54 = .ok (.iload_n 2, 1) := by decide +kernel
theorem dX10_renew_55 : decode cX10_renew 55 = .ok (.if_icmp .gt 40, 3) := by decide +kernel
theorem dX10_renew_58 : decode cX10_renew 58 = .ok (.iload_n 3, 1) := by decide +kernel
theorem dX10_renew_59 : decode cX10_renew 59 = .ok (.iconst 4, 1) := by decide +kernel
theorem dX10_renew_60 : decode cX10_renew 60 = .ok (.if_icmp .ge 35, 3) := by decide +kernel
theorem dX10_renew_63 : decode cX10_renew 63 = .ok (.aload_n 0, 1) := by decide +kernel
theorem dX10_renew_64 : decode cX10_renew 64 = .ok (.iload_n 3, 1) := by decide +kernel
theorem dX10_renew_65 : decode cX10_renew 65 = .ok (.invokevirtual 271, 3) := by decide +kernel
theorem dX10_renew_68 : decode cX10_renew 68 = .ok (.astore 4, 2) := by decide +kernel
theorem dX10_renew_70 : decode cX10_renew 70 = .ok (.aload_n 0, 1) := by decide +kernel
theorem dX10_renew_71 : decode cX10_renew 71 = .ok (.getfield 64, 3) := by decide +kernel
theorem dX10_renew_74 : decode cX10_renew 74 = .ok (.iload_n 3, 1) := by decide +kernel
theorem dX10_renew_75 : decode cX10_renew 75 = .ok (.aload_n 0, 1) := by decide +kernel
theorem dX10_renew_76 : decode cX10_renew 76 = .ok (.iload_n 3, 1) := by decide +kernel
theorem dX10_renew_77 : decode cX10_renew 77 = .ok (.invokevirtual 375, 3) := by decide +kernel
theorem dX10_renew_80 : decode cX10_renew 80 = .ok (.aastore, 1) := by decide +kernel
theorem dX10_renew_81 : decode cX10_renew 81 = .ok (.aload_n 0, 1) := by decide +kernel
theorem dX10_renew_82 : decode cX10_renew 82 = .ok (.getfield 68, 3) := by decide +kernel
theorem dX10_renew_85 : decode cX10_renew 85 = .ok (.iload_n 3, 1) := by decide +kernel
theorem dX10_renew_86 : decode cX10_renew 86 = .ok (.aload 4, 2) := by decide +kernel
theorem dX10_renew_88 : decode cX10_renew 88 = .ok (.aastore, 1) := by decide +kernel
theorem dX10_renew_89 : decode cX10_renew 89 = .ok (.iinc 3 1, 3) := by decide +kernel
theorem dX10_renew_92 : decode cX10_renew 92 = .ok (.goto (-39), 3) := by decide +kernel
theorem dX10_renew_95 : decode cX10_renew 95 = .ok (.aload_n 0, 1) := by decide +kernel
theorem dX10_renew_96 : decode cX10_renew 96 = .ok (.getfield 74, 3) := by decide +kernel
theorem dX10_renew_99 : decode cX10_renew 99 = .ok (.iconst 0, 1) := by decide +kernel
theorem dX10_renew_100 : decode cX10_renew 100 = .ok (.putfield 178, 3) := by decide +kernel
theorem dX10_renew_103 : decode cX10_renew 103 = .ok (.iconst 1, 1) := by decide +kernel
theorem dX10_renew_104 : decode cX10_renew 104 = .ok (.ireturn, 1) := by decide +kernel
theorem dX10_waysByFacts_0 : decode cX10_waysByFacts 0 = .ok (.aload_n 0, 1) := by decide +kernel
theorem dX10_waysByFacts_1 : decode cX10_waysByFacts 1 = .ok (.invokevirtual 261, 3) := by decide +kernel
theorem dX10_waysByFacts_4 : decode cX10_waysByFacts 4 = .ok (.iload_n 1, 1) := by decide +kernel
theorem dX10_waysByFacts_5 : decode cX10_waysByFacts 5 = .ok (.iload_n 2, 1) := by decide +kernel
theorem dX10_waysByFacts_6 : decode cX10_waysByFacts 6 = .ok (.invokevirtual 303, 3) := by decide +kernel
theorem dX10_waysByFacts_9 : decode cX10_waysByFacts 9 = .ok (.istore_n 3, 1) := by decide +kernel
theorem dX10_waysByFacts_10 : decode cX10_waysByFacts 10 = .ok (.iconst 0, 1) := by decide +kernel
theorem dX10_waysByFacts_11 : decode cX10_waysByFacts 11 = .ok (.istore 4, 2) := by decide +kernel
theorem dX10_waysByFacts_13 : decode cX10_waysByFacts 13 = .ok (.iconst 0, 1) := by decide +kernel
theorem dX10_waysByFacts_14 : decode cX10_waysByFacts 14 = .ok (.istore 5, 2) := by decide +kernel
theorem dX10_waysByFacts_16 : decode cX10_waysByFacts 16 = .ok (.iload 5, 2) := by decide +kernel
theorem dX10_waysByFacts_18 : decode cX10_waysByFacts 18 = .ok (.aload_n 0, 1) := by decide +kernel
theorem dX10_waysByFacts_19 : decode cX10_waysByFacts 19 = .ok (.getfield 35, 3) := by decide +kernel
theorem dX10_waysByFacts_22 : decode cX10_waysByFacts 22 = .ok (.getfield 129, 3) := by decide +kernel
theorem dX10_waysByFacts_25 : decode cX10_waysByFacts 25 = .ok (.if_icmp .ge 62, 3) := by decide +kernel
theorem dX10_waysByFacts_28 : decode cX10_waysByFacts 28 = .ok (.aload_n 0, 1) := by decide +kernel
theorem dX10_waysByFacts_29 : decode cX10_waysByFacts 29 = .ok (.getfield 35, 3) := by decide +kernel
theorem dX10_waysByFacts_32 : decode cX10_waysByFacts 32 = .ok (.iload 5, 2) := by decide +kernel
theorem dX10_waysByFacts_34 : decode cX10_waysByFacts 34 = .ok (.aload_n 0, 1) := by decide +kernel
theorem dX10_waysByFacts_35 : decode cX10_waysByFacts 35 = .ok (.getfield 173, 3) := by decide +kernel
theorem dX10_waysByFacts_38 : decode cX10_waysByFacts 38 = .ok (.invokevirtual 309, 3) := by decide +kernel
theorem dX10_waysByFacts_41 : decode cX10_waysByFacts 41 = .ok (.ifCond .eq 40, 3) := by decide +kernel
theorem dX10_waysByFacts_44 : decode cX10_waysByFacts 44 = .ok (.aload_n 0, 1) := by decide +kernel
theorem dX10_waysByFacts_45 : decode cX10_waysByFacts 45 = .ok (.getfield 35, 3) := by decide +kernel
theorem dX10_waysByFacts_48 : decode cX10_waysByFacts 48 = .ok (.iload 5, 2) := by decide +kernel
theorem dX10_waysByFacts_50 : decode cX10_waysByFacts 50 = .ok (.invokevirtual 383, 3) := by decide +kernel
theorem dX10_waysByFacts_53 : decode cX10_waysByFacts 53 = .ok (.iload_n 1, 1) := by decide +kernel
theorem dX10_waysByFacts_54 : decode cX10_waysByFacts 54 = .ok (.if_icmp .ne 27, 3) := by decide +kernel
theorem dX10_waysByFacts_57 : decode cX10_waysByFacts 57 = .ok (.aload_n 0, 1) := by decide +kernel
theorem dX10_waysByFacts_58 : decode cX10_waysByFacts 58 = .ok (.invokevirtual 261, 3) := by decide +kernel
theorem dX10_waysByFacts_61 : decode cX10_waysByFacts 61 = .ok (.iload_n 1, 1) := by decide +kernel
theorem dX10_waysByFacts_62 : decode cX10_waysByFacts 62 = .ok (.aload_n 0, 1) := by decide +kernel
theorem dX10_waysByFacts_63 : decode cX10_waysByFacts 63 = .ok (.getfield 35, 3) := by decide +kernel
theorem dX10_waysByFacts_66 : decode cX10_waysByFacts 66 = .ok (.iload 5, 2) := by decide +kernel
theorem dX10_waysByFacts_68 : decode cX10_waysByFacts 68 = .ok (.invokevirtual 386, 3) := by decide +kernel
theorem dX10_waysByFacts_71 : decode cX10_waysByFacts 71 = .ok (.invokevirtual 303, 3) := by decide +kernel
theorem dX10_waysByFacts_74 : decode cX10_waysByFacts 74 = .ok (.iload_n 3, 1) := by decide +kernel
theorem dX10_waysByFacts_75 : decode cX10_waysByFacts 75 = .ok (.if_icmp .ne 6, 3) := by decide +kernel
theorem dX10_waysByFacts_78 : decode cX10_waysByFacts 78 = .ok (.iinc 4 1, 3) := by decide +kernel
theorem dX10_waysByFacts_81 : decode cX10_waysByFacts 81 = .ok (.iinc 5 1, 3) := by decide +kernel
theorem dX10_waysByFacts_84 : decode cX10_waysByFacts 84 = .ok (.goto (-68), 3) := by decide +kernel
theorem dX10_waysByFacts_87 : decode cX10_waysByFacts 87 = .ok (.iload 4, 2) := by decide +kernel
theorem dX10_waysByFacts_89 : decode cX10_waysByFacts 89 = .ok (.ireturn, 1) := by decide +kernel
theorem dX10_waysByRules_0 : decode cX10_waysByRules 0 = .ok (.iconst 0, 1) := by decide +kernel
theorem dX10_waysByRules_1 : decode cX10_waysByRules 1 = .ok (.istore_n 3, 1) := by decide +kernel
theorem dX10_waysByRules_2 : decode cX10_waysByRules 2 = .ok (.iconst 0, 1) := by decide +kernel
theorem dX10_waysByRules_3 : decode cX10_waysByRules 3 = .ok (.istore 4, 2) := by decide +kernel
theorem dX10_waysByRules_5 : decode cX10_waysByRules 5 = .ok (.iload 4, 2) := by decide +kernel
theorem dX10_waysByRules_7 : decode cX10_waysByRules 7 = .ok (.aload_n 0, 1) := by decide +kernel
theorem dX10_waysByRules_8 : decode cX10_waysByRules 8 = .ok (.getfield 39, 3) := by decide +kernel
theorem dX10_waysByRules_11 : decode cX10_waysByRules 11 = .ok (.getfield 217, 3) := by decide +kernel
theorem dX10_waysByRules_14 : decode cX10_waysByRules 14 = .ok (.if_icmp .ge 66, 3) := by decide +kernel
theorem dX10_waysByRules_17 : decode cX10_waysByRules 17 = .ok (.aload_n 0, 1) := by decide +kernel
theorem dX10_waysByRules_18 : decode cX10_waysByRules 18 = .ok (.getfield 39, 3) := by decide +kernel
theorem dX10_waysByRules_21 : decode cX10_waysByRules 21 = .ok (.iload 4, 2) := by decide +kernel
theorem dX10_waysByRules_23 : decode cX10_waysByRules 23 = .ok (.invokevirtual 249, 3) := by decide +kernel
theorem dX10_waysByRules_26 : decode cX10_waysByRules 26 = .ok (.astore 5, 2) := by decide +kernel
theorem dX10_waysByRules_28 : decode cX10_waysByRules 28 = .ok (.aload_n 0, 1) := by decide +kernel
theorem dX10_waysByRules_29 : decode cX10_waysByRules 29 = .ok (.aload 5, 2) := by decide +kernel
theorem dX10_waysByRules_31 : decode cX10_waysByRules 31 = .ok (.iload_n 1, 1) := by decide +kernel
theorem dX10_waysByRules_32 : decode cX10_waysByRules 32 = .ok (.iload_n 2, 1) := by decide +kernel
theorem dX10_waysByRules_33 : decode cX10_waysByRules 33 = .ok (.aload 5, 2) := by decide +kernel
theorem dX10_waysByRules_35 : decode cX10_waysByRules 35 = .ok (.getfield 187, 3) := by decide +kernel
theorem dX10_waysByRules_38 : decode cX10_waysByRules 38 = .ok (.invokevirtual 387, 3) := by decide +kernel
theorem dX10_waysByRules_41 : decode cX10_waysByRules 41 = .ok (.ifCond .eq 33, 3) := by decide +kernel
theorem dX10_waysByRules_44 : decode cX10_waysByRules 44 = .ok (.iconst 0, 1) := by decide +kernel
theorem dX10_waysByRules_45 : decode cX10_waysByRules 45 = .ok (.istore 6, 2) := by decide +kernel
theorem dX10_waysByRules_47 : decode cX10_waysByRules 47 = .ok (.iload 6, 2) := by decide +kernel
theorem dX10_waysByRules_49 : decode cX10_waysByRules 49 = .ok (.ldc_w 391, 3) := by decide +kernel
theorem dX10_waysByRules_52 : decode cX10_waysByRules 52 = .ok (.if_icmp .ge 22, 3) := by decide +kernel
theorem dX10_waysByRules_55 : decode cX10_waysByRules 55 = .ok (.aload_n 0, 1) := by decide +kernel
theorem dX10_waysByRules_56 : decode cX10_waysByRules 56 = .ok (.getfield 51, 3) := by decide +kernel
theorem dX10_waysByRules_59 : decode cX10_waysByRules 59 = .ok (.invokevirtual 392, 3) := by decide +kernel
theorem dX10_waysByRules_62 : decode cX10_waysByRules 62 = .ok (.ifCond .eq 12, 3) := by decide +kernel
theorem dX10_waysByRules_65 : decode cX10_waysByRules 65 = .ok (.iinc 3 1, 3) := by decide +kernel
theorem dX10_waysByRules_68 : decode cX10_waysByRules 68 = .ok (.iinc 6 1, 3) := by decide +kernel
theorem dX10_waysByRules_71 : decode cX10_waysByRules 71 = .ok (.goto (-24), 3) := by decide +kernel
theorem dX10_waysByRules_74 : decode cX10_waysByRules 74 = .ok (.iinc 4 1, 3) := by decide +kernel
theorem dX10_waysByRules_77 : decode cX10_waysByRules 77 = .ok (.goto (-72), 3) := by decide +kernel
theorem dX10_waysByRules_80 : decode cX10_waysByRules 80 = .ok (.iload_n 3, 1) := by decide +kernel
theorem dX10_waysByRules_81 : decode cX10_waysByRules 81 = .ok (.ireturn, 1) := by decide +kernel
theorem dX10_canGive_0 : decode cX10_canGive 0 = .ok (.aload_n 1, 1) := by decide +kernel
theorem dX10_canGive_1 : decode cX10_canGive 1 = .ok (.getfield 253, 3) := by decide +kernel
theorem dX10_canGive_4 : decode cX10_canGive 4 = .ok (.ifCond .ne 11, 3) := by decide +kernel
theorem dX10_canGive_7 : decode cX10_canGive 7 = .ok (.aload_n 1, 1) := by decide +kernel
theorem dX10_canGive_8 : decode cX10_canGive 8 = .ok (.getfield 208, 3) := by decide +kernel
theorem dX10_canGive_11 : decode cX10_canGive 11 = .ok (.iload_n 2, 1) := by decide +kernel
theorem dX10_canGive_12 : decode cX10_canGive 12 = .ok (.if_icmp .eq 5, 3) := by decide +kernel
theorem dX10_canGive_15 : decode cX10_canGive 15 = .ok (.iconst 0, 1) := by decide +kernel
theorem dX10_canGive_16 : decode cX10_canGive 16 = .ok (.ireturn, 1) := by decide +kernel
theorem dX10_canGive_17 : decode cX10_canGive 17 = .ok (.aload_n 0, 1) := by decide +kernel
theorem dX10_canGive_18 : decode cX10_canGive 18 = .ok (.getfield 51, 3) := by decide +kernel
theorem dX10_canGive_21 : decode cX10_canGive 21 = .ok (.aload_n 1, 1) := by decide +kernel
theorem dX10_canGive_22 : decode cX10_canGive 22 = .ok (.aload_n 0, 1) := by decide +kernel
theorem dX10_canGive_23 : decode cX10_canGive 23 = .ok (.invokevirtual 261, 3) := by decide +kernel
theorem dX10_canGive_26 : decode cX10_canGive 26 = .ok (.iload 4, 2) := by decide +kernel
theorem dX10_canGive_28 : decode cX10_canGive 28 = .ok (.invokevirtual 395, 3) := by decide +kernel
theorem dX10_canGive_31 : decode cX10_canGive 31 = .ok (.aload_n 0, 1) := by decide +kernel
theorem dX10_canGive_32 : decode cX10_canGive 32 = .ok (.getfield 51, 3) := by decide +kernel
theorem dX10_canGive_35 : decode cX10_canGive 35 = .ok (.iload_n 3, 1) := by decide +kernel
theorem dX10_canGive_36 : decode cX10_canGive 36 = .ok (.aload_n 0, 1) := by decide +kernel
theorem dX10_canGive_37 : decode cX10_canGive 37 = .ok (.getfield 31, 3) := by decide +kernel
theorem dX10_canGive_40 : decode cX10_canGive 40 = .ok (.iload_n 2, 1) := by decide +kernel
theorem dX10_canGive_41 : decode cX10_canGive 41 = .ok (.invokevirtual 399, 3) := by decide +kernel
theorem dX10_canGive_44 : decode cX10_canGive 44 = .ok (.invokevirtual 402, 3) := by decide +kernel
theorem dX10_canGive_47 : decode cX10_canGive 47 = .ok (.ireturn, 1) := by decide +kernel
theorem dX10_literalsHeld_0 : decode cX10_literalsHeld 0 = .ok (.aload_n 1, 1) := by decide +kernel
theorem dX10_literalsHeld_1 : decode cX10_literalsHeld 1 = .ok (.getfield 187, 3) := by decide +kernel
theorem dX10_literalsHeld_4 : decode cX10_literalsHeld 4 = .ok (.istore 4, 2) := by decide +kernel
theorem dX10_literalsHeld_6 : decode cX10_literalsHeld 6 = .ok (.iload 4, 2) := by decide +kernel
theorem dX10_literalsHeld_8 : decode cX10_literalsHeld 8 = .ok (.ifCond .lt 34, 3) := by decide +kernel
theorem dX10_literalsHeld_11 : decode cX10_literalsHeld 11 = .ok (.aload_n 0, 1) := by decide +kernel
theorem dX10_literalsHeld_12 : decode cX10_literalsHeld 12 = .ok (.aload_n 1, 1) := by decide +kernel
theorem dX10_literalsHeld_13 : decode cX10_literalsHeld 13 = .ok (.iload_n 2, 1) := by decide +kernel
theorem dX10_literalsHeld_14 : decode cX10_literalsHeld 14 = .ok (.iload_n 3, 1) := by decide +kernel
theorem dX10_literalsHeld_15 : decode cX10_literalsHeld 15 = .ok (.iload 4, 2) := by decide +kernel
theorem dX10_literalsHeld_17 : decode cX10_literalsHeld 17 = .ok (.invokevirtual 387, 3) := by decide +kernel
theorem dX10_literalsHeld_20 : decode cX10_literalsHeld 20 = .ok (.ifCond .eq 16, 3) := by decide +kernel
theorem dX10_literalsHeld_23 : decode cX10_literalsHeld 23 = .ok (.aload_n 0, 1) := by decide +kernel
theorem dX10_literalsHeld_24 : decode cX10_literalsHeld 24 = .ok (.getfield 51, 3) := by decide +kernel
theorem dX10_literalsHeld_27 : decode cX10_literalsHeld 27 = .ok (.invokevirtual 392, 3) := by decide +kernel
theorem dX10_literalsHeld_30 : decode cX10_literalsHeld 30 = .ok (.ifCond .eq 6, 3) := by decide +kernel
theorem dX10_literalsHeld_33 : decode cX10_literalsHeld 33 = .ok (.iload 4, 2) := by decide +kernel
theorem dX10_literalsHeld_35 : decode cX10_literalsHeld 35 = .ok (.ireturn, 1) := by decide +kernel
theorem dX10_literalsHeld_36 : decode cX10_literalsHeld 36 = .ok (.iinc 4 (-1), 3) := by decide +kernel
theorem dX10_literalsHeld_39 : decode cX10_literalsHeld 39 = .ok (.goto (-33), 3) := by decide +kernel
theorem dX10_literalsHeld_42 : decode cX10_literalsHeld 42 = .ok (.iconst (-1), 1) := by decide +kernel
theorem dX10_literalsHeld_43 : decode cX10_literalsHeld 43 = .ok (.ireturn, 1) := by decide +kernel
theorem dX10_findCosts_0 : decode cX10_findCosts 0 = .ok (.aload_n 0, 1) := by decide +kernel
theorem dX10_findCosts_1 : decode cX10_findCosts 1 = .ok (.getfield 74, 3) := by decide +kernel
theorem dX10_findCosts_4 : decode cX10_findCosts 4 = .ok (.getfield 178, 3) := by decide +kernel
theorem dX10_findCosts_7 : decode cX10_findCosts 7 = .ok (.ifCond .eq 4, 3) := by decide +kernel
theorem dX10_findCosts_10 : decode cX10_findCosts 10 = .ok (.return_, 1) := by decide +kernel
theorem dX10_findCosts_11 : decode cX10_findCosts 11 = .ok (.aload_n 0, 1) := by decide +kernel
theorem dX10_findCosts_12 : decode cX10_findCosts 12 = .ok (.getfield 74, 3) := by decide +kernel
theorem dX10_findCosts_15 : decode cX10_findCosts 15 = .ok (.invokevirtual 405, 3) := by decide +kernel
theorem dX10_findCosts_18 : decode cX10_findCosts 18 = .ok (.iconst 0, 1) := by decide +kernel
theorem dX10_findCosts_19 : decode cX10_findCosts 19 = .ok (.istore_n 1, 1) := by decide +kernel
theorem dX10_findCosts_20 : decode cX10_findCosts 20 = .ok (.iload_n 1, 1) := by decide +kernel
theorem dX10_findCosts_21 : decode cX10_findCosts 21 = .ok (.aload_n 0, 1) := by decide +kernel
theorem dX10_findCosts_22 : decode cX10_findCosts 22 = .ok (.getfield 35, 3) := by decide +kernel
theorem dX10_findCosts_25 : decode cX10_findCosts 25 = .ok (.getfield 129, 3) := by decide +kernel
theorem dX10_findCosts_28 : decode cX10_findCosts 28 = .ok (.if_icmp .ge 65, 3) := by decide +kernel
theorem dX10_findCosts_31 : decode cX10_findCosts 31 = .ok (.aload_n 0, 1) := by decide +kernel
theorem dX10_findCosts_32 : decode cX10_findCosts 32 = .ok (.getfield 35, 3) := by decide +kernel
theorem dX10_findCosts_35 : decode cX10_findCosts 35 = .ok (.iload_n 1, 1) := by decide +kernel
theorem dX10_findCosts_36 : decode cX10_findCosts 36 = .ok (.aload_n 0, 1) := by decide +kernel
theorem dX10_findCosts_37 : decode cX10_findCosts 37 = .ok (.getfield 173, 3) := by decide +kernel
theorem dX10_findCosts_40 : decode cX10_findCosts 40 = .ok (.invokevirtual 309, 3) := by decide +kernel
theorem dX10_findCosts_43 : decode cX10_findCosts 43 = .ok (.ifCond .eq 44, 3) := by decide +kernel
theorem dX10_findCosts_46 : decode cX10_findCosts 46 = .ok (.aload_n 0, 1) := by decide +kernel
theorem dX10_findCosts_47 : decode cX10_findCosts 47 = .ok (.invokevirtual 261, 3) := by decide +kernel
theorem dX10_findCosts_50 : decode cX10_findCosts 50 = .ok (.aload_n 0, 1) := by decide +kernel
theorem dX10_findCosts_51 : decode cX10_findCosts 51 = .ok (.getfield 35, 3) := by decide +kernel
theorem dX10_findCosts_54 : decode cX10_findCosts 54 = .ok (.iload_n 1, 1) := by decide +kernel
theorem dX10_findCosts_55 : decode cX10_findCosts 55 = .ok (.invokevirtual 383, 3) := by decide +kernel
theorem dX10_findCosts_58 : decode cX10_findCosts 58 = .ok (.aload_n 0, 1) := by decide +kernel
theorem dX10_findCosts_59 : decode cX10_findCosts 59 = .ok (.getfield 35, 3) := by decide +kernel
theorem dX10_findCosts_62 : decode cX10_findCosts 62 = .ok (.iload_n 1, 1) := by decide +kernel
theorem dX10_findCosts_63 : decode cX10_findCosts 63 = .ok (.invokevirtual 386, 3) := by decide +kernel
theorem dX10_findCosts_66 : decode cX10_findCosts 66 = .ok (.invokevirtual 303, 3) := by decide +kernel
theorem dX10_findCosts_69 : decode cX10_findCosts 69 = .ok (.istore_n 2, 1) := by decide +kernel
theorem dX10_findCosts_70 : decode cX10_findCosts 70 = .ok (.aload_n 0, 1) := by decide +kernel
theorem dX10_findCosts_71 : decode cX10_findCosts 71 = .ok (.getfield 74, 3) := by decide +kernel
theorem dX10_findCosts_74 : decode cX10_findCosts 74 = .ok (.iload_n 2, 1) := by decide +kernel
theorem dX10_findCosts_75 : decode cX10_findCosts 75 = .ok (.aload_n 0, 1) := by decide +kernel
theorem dX10_findCosts_76 : decode cX10_findCosts 76 = .ok (.getfield 35, 3) := by decide +kernel
theorem dX10_findCosts_79 : decode cX10_findCosts 79 = .ok (.iload_n 1, 1) := by decide +kernel
theorem dX10_findCosts_80 : decode cX10_findCosts 80 = .ok (.invokevirtual 408, 3) := by decide +kernel
theorem dX10_findCosts_83 : decode cX10_findCosts 83 = .ok (.invokevirtual 409, 3) := by decide +kernel
theorem dX10_findCosts_86 : decode cX10_findCosts 86 = .ok (.pop, 1) := by decide +kernel
theorem dX10_findCosts_87 : decode cX10_findCosts 87 = .ok (.iinc 1 1, 3) := by decide +kernel
theorem dX10_findCosts_90 : decode cX10_findCosts 90 = .ok (.goto (-70), 3) := by decide +kernel
theorem dX10_findCosts_93 : decode cX10_findCosts 93 = .ok (.iconst 1, 1) := by decide +kernel
theorem dX10_findCosts_94 : decode cX10_findCosts 94 = .ok (.istore_n 1, 1) := by decide +kernel
theorem dX10_findCosts_95 : decode cX10_findCosts 95 = .ok (.iconst 0, 1) := by decide +kernel
theorem dX10_findCosts_96 : decode cX10_findCosts 96 = .ok (.istore_n 2, 1) := by decide +kernel
theorem dX10_findCosts_97 : decode cX10_findCosts 97 = .ok (.iload_n 2, 1) := by decide +kernel
theorem dX10_findCosts_98 : decode cX10_findCosts 98 = .ok (.sipush 10000, 3) := by decide +kernel
theorem dX10_findCosts_101 : decode cX10_findCosts 101 = .ok (.if_icmp .ge 18, 3) := by decide +kernel
theorem dX10_findCosts_104 : decode cX10_findCosts 104 = .ok (.iload_n 1, 1) := by decide +kernel
theorem dX10_findCosts_105 : decode cX10_findCosts 105 = .ok (.ifCond .eq 14, 3) := by decide +kernel
theorem dX10_findCosts_108 : decode cX10_findCosts 108 = .ok (.aload_n 0, 1) := by decide +kernel
theorem dX10_findCosts_109 : decode cX10_findCosts 109 = .ok (.invokevirtual 412, 3) := by decide +kernel
theorem dX10_findCosts_112 : decode cX10_findCosts 112 = .ok (.istore_n 1, 1) := by decide +kernel
theorem dX10_findCosts_113 : decode cX10_findCosts 113 = .ok (.iinc 2 1, 3) := by decide +kernel
theorem dX10_findCosts_116 : decode cX10_findCosts 116 = .ok (.goto (-19), 3) := by decide +kernel
theorem dX10_findCosts_119 : decode cX10_findCosts 119 = .ok (.aload_n 0, 1) := by decide +kernel
theorem dX10_findCosts_120 : decode cX10_findCosts 120 = .ok (.getfield 74, 3) := by decide +kernel
theorem dX10_findCosts_123 : decode cX10_findCosts 123 = .ok (.iconst 1, 1) := by decide +kernel
theorem dX10_findCosts_124 : decode cX10_findCosts 124 = .ok (.putfield 178, 3) := by decide +kernel
theorem dX10_findCosts_127 : decode cX10_findCosts 127 = .ok (.return_, 1) := by decide +kernel
theorem dX10_lowerByRules_0 : decode cX10_lowerByRules 0 = .ok (.iconst 0, 1) := by decide +kernel
theorem dX10_lowerByRules_1 : decode cX10_lowerByRules 1 = .ok (.istore_n 1, 1) := by decide +kernel
theorem dX10_lowerByRules_2 : decode cX10_lowerByRules 2 = .ok (.iconst 0, 1) := by decide +kernel
theorem dX10_lowerByRules_3 : decode cX10_lowerByRules 3 = .ok (.istore_n 2, 1) := by decide +kernel
theorem dX10_lowerByRules_4 : decode cX10_lowerByRules 4 = .ok (.iload_n 2, 1) := by decide +kernel
theorem dX10_lowerByRules_5 : decode cX10_lowerByRules 5 = .ok (.aload_n 0, 1) := by decide +kernel
theorem dX10_lowerByRules_6 : decode cX10_lowerByRules 6 = .ok (.getfield 39, 3) := by decide +kernel
theorem dX10_lowerByRules_9 : decode cX10_lowerByRules 9 = .ok (.getfield 217, 3) := by decide +kernel
theorem dX10_lowerByRules_12 : decode cX10_lowerByRules 12 = .ok (.if_icmp .ge 122, 3) := by decide +kernel
theorem dX10_lowerByRules_15 : decode cX10_lowerByRules 15 = .ok (.aload_n 0, 1) := by decide +kernel
theorem dX10_lowerByRules_16 : decode cX10_lowerByRules 16 = .ok (.getfield 39, 3) := by decide +kernel
theorem dX10_lowerByRules_19 : decode cX10_lowerByRules 19 = .ok (.iload_n 2, 1) := by decide +kernel
theorem dX10_lowerByRules_20 : decode cX10_lowerByRules 20 = .ok (.invokevirtual 249, 3) := by decide +kernel
theorem dX10_lowerByRules_23 : decode cX10_lowerByRules 23 = .ok (.astore_n 3, 1) := by decide +kernel
theorem dX10_lowerByRules_24 : decode cX10_lowerByRules 24 = .ok (.aload_n 0, 1) := by decide +kernel
theorem dX10_lowerByRules_25 : decode cX10_lowerByRules 25 = .ok (.getfield 51, 3) := by decide +kernel
theorem dX10_lowerByRules_28 : decode cX10_lowerByRules 28 = .ok (.aload_n 3, 1) := by decide +kernel
theorem dX10_lowerByRules_29 : decode cX10_lowerByRules 29 = .ok (.aload_n 0, 1) := by decide +kernel
theorem dX10_lowerByRules_30 : decode cX10_lowerByRules 30 = .ok (.invokevirtual 261, 3) := by decide +kernel
theorem dX10_lowerByRules_33 : decode cX10_lowerByRules 33 = .ok (.aload_n 3, 1) := by decide +kernel
theorem dX10_lowerByRules_34 : decode cX10_lowerByRules 34 = .ok (.getfield 187, 3) := by decide +kernel
theorem dX10_lowerByRules_37 : decode cX10_lowerByRules 37 = .ok (.invokevirtual 395, 3) := by decide +kernel
theorem dX10_lowerByRules_40 : decode cX10_lowerByRules 40 = .ok (.iconst 0, 1) := by decide +kernel
theorem dX10_lowerByRules_41 : decode cX10_lowerByRules 41 = .ok (.istore 4, 2) := by decide +kernel
theorem dX10_lowerByRules_43 : decode cX10_lowerByRules 43 = .ok (.iload 4, 2) := by decide +kernel
theorem dX10_lowerByRules_45 : decode cX10_lowerByRules 45 = .ok (.ldc_w 391, 3) := by decide +kernel
theorem dX10_lowerByRules_48 : decode cX10_lowerByRules 48 = .ok (.if_icmp .ge 80, 3) := by decide +kernel
theorem dX10_lowerByRules_51 : decode cX10_lowerByRules 51 = .ok (.aload_n 3, 1) := by decide +kernel
theorem dX10_lowerByRules_52 : decode cX10_lowerByRules 52 = .ok (.getfield 253, 3) := by decide +kernel
theorem dX10_lowerByRules_55 : decode cX10_lowerByRules 55 = .ok (.ifCond .ne 73, 3) := by decide +kernel
theorem dX10_lowerByRules_58 : decode cX10_lowerByRules 58 = .ok (.aload_n 0, 1) := by decide +kernel
theorem dX10_lowerByRules_59 : decode cX10_lowerByRules 59 = .ok (.getfield 51, 3) := by decide +kernel
theorem dX10_lowerByRules_62 : decode cX10_lowerByRules 62 = .ok (.invokevirtual 392, 3) := by decide +kernel
theorem dX10_lowerByRules_65 : decode cX10_lowerByRules 65 = .ok (.ifCond .eq 63, 3) := by decide +kernel
theorem dX10_lowerByRules_68 : decode cX10_lowerByRules 68 = .ok (.aload_n 0, 1) := by decide +kernel
theorem dX10_lowerByRules_69 : decode cX10_lowerByRules 69 = .ok (.invokevirtual 261, 3) := by decide +kernel
theorem dX10_lowerByRules_72 : decode cX10_lowerByRules 72 = .ok (.aload_n 3, 1) := by decide +kernel
theorem dX10_lowerByRules_73 : decode cX10_lowerByRules 73 = .ok (.getfield 208, 3) := by decide +kernel
theorem dX10_lowerByRules_76 : decode cX10_lowerByRules 76 = .ok (.aload_n 0, 1) := by decide +kernel
theorem dX10_lowerByRules_77 : decode cX10_lowerByRules 77 = .ok (.getfield 51, 3) := by decide +kernel
theorem dX10_lowerByRules_80 : decode cX10_lowerByRules 80 = .ok (.iconst 5, 1) := by decide +kernel
theorem dX10_lowerByRules_81 : decode cX10_lowerByRules 81 = .ok (.invokevirtual 415, 3) := by decide +kernel
theorem dX10_lowerByRules_84 : decode cX10_lowerByRules 84 = .ok (.invokevirtual 303, 3) := by decide +kernel
theorem dX10_lowerByRules_87 : decode cX10_lowerByRules 87 = .ok (.istore 5, 2) := by decide +kernel
theorem dX10_lowerByRules_89 : decode cX10_lowerByRules 89 = .ok (.aload_n 0, 1) := by decide +kernel
theorem dX10_lowerByRules_90 : decode cX10_lowerByRules 90 = .ok (.getfield 74, 3) := by decide +kernel
theorem dX10_lowerByRules_93 : decode cX10_lowerByRules 93 = .ok (.iload 5, 2) := by decide +kernel
theorem dX10_lowerByRules_95 : decode cX10_lowerByRules 95 = .ok (.aload_n 0, 1) := by decide +kernel
theorem dX10_lowerByRules_96 : decode cX10_lowerByRules 96 = .ok (.getfield 51, 3) := by decide +kernel
theorem dX10_lowerByRules_99 : decode cX10_lowerByRules 99 = .ok (.aload_n 0, 1) := by decide +kernel
theorem dX10_lowerByRules_100 : decode cX10_lowerByRules 100 = .ok (.getfield 74, 3) := by decide +kernel
theorem dX10_lowerByRules_103 : decode cX10_lowerByRules 103 = .ok (.invokevirtual 418, 3) := by decide +kernel
theorem dX10_lowerByRules_106 : decode cX10_lowerByRules 106 = .ok (.invokevirtual 409, 3) := by decide +kernel
theorem dX10_lowerByRules_109 : decode cX10_lowerByRules 109 = .ok (.ifCond .ne 7, 3) := by decide +kernel
theorem dX10_lowerByRules_112 : decode cX10_lowerByRules 112 = .ok (.iload_n 1, 1) := by decide +kernel
theorem dX10_lowerByRules_113 : decode cX10_lowerByRules 113 = .ok (.ifCond .eq 7, 3) := by decide +kernel
theorem dX10_lowerByRules_116 : decode cX10_lowerByRules 116 = .ok (.iconst 1, 1) := by decide +kernel
theorem dX10_lowerByRules_117 : decode cX10_lowerByRules 117 = .ok (.goto 4, 3) := by decide +kernel
theorem dX10_lowerByRules_120 : decode cX10_lowerByRules 120 = .ok (.iconst 0, 1) := by decide +kernel
theorem dX10_lowerByRules_121 : decode cX10_lowerByRules 121 = .ok (.istore_n 1, 1) := by decide +kernel
theorem dX10_lowerByRules_122 : decode cX10_lowerByRules 122 = .ok (.iinc 4 1, 3) := by decide +kernel
theorem dX10_lowerByRules_125 : decode cX10_lowerByRules 125 = .ok (.goto (-82), 3) := by decide +kernel
theorem dX10_lowerByRules_128 : decode cX10_lowerByRules 128 = .ok (.iinc 2 1, 3) := by decide +kernel
theorem dX10_lowerByRules_131 : decode cX10_lowerByRules 131 = .ok (.goto (-127), 3) := by decide +kernel
theorem dX10_lowerByRules_134 : decode cX10_lowerByRules 134 = .ok (.iload_n 1, 1) := by decide +kernel
theorem dX10_lowerByRules_135 : decode cX10_lowerByRules 135 = .ok (.ireturn, 1) := by decide +kernel
theorem dX10_brokenIn_0 : decode cX10_brokenIn 0 = .ok (.iconst 0, 1) := by decide +kernel
theorem dX10_brokenIn_1 : decode cX10_brokenIn 1 = .ok (.istore_n 2, 1) := by decide +kernel
theorem dX10_brokenIn_2 : decode cX10_brokenIn 2 = .ok (.iconst 0, 1) := by decide +kernel
theorem dX10_brokenIn_3 : decode cX10_brokenIn 3 = .ok (.istore_n 3, 1) := by decide +kernel
theorem dX10_brokenIn_4 : decode cX10_brokenIn 4 = .ok (.iload_n 3, 1) := by decide +kernel
theorem dX10_brokenIn_5 : decode cX10_brokenIn 5 = .ok (.aload_n 0, 1) := by decide +kernel
theorem dX10_brokenIn_6 : decode cX10_brokenIn 6 = .ok (.getfield 39, 3) := by decide +kernel
theorem dX10_brokenIn_9 : decode cX10_brokenIn 9 = .ok (.getfield 236, 3) := by decide +kernel
theorem dX10_brokenIn_12 : decode cX10_brokenIn 12 = .ok (.if_icmp .ge 47, 3) := by decide +kernel
theorem dX10_brokenIn_15 : decode cX10_brokenIn 15 = .ok (.aload_n 0, 1) := by decide +kernel
theorem dX10_brokenIn_16 : decode cX10_brokenIn 16 = .ok (.getfield 39, 3) := by decide +kernel
theorem dX10_brokenIn_19 : decode cX10_brokenIn 19 = .ok (.iload_n 3, 1) := by decide +kernel
theorem dX10_brokenIn_20 : decode cX10_brokenIn 20 = .ok (.invokevirtual 422, 3) := by decide +kernel
theorem dX10_brokenIn_23 : decode cX10_brokenIn 23 = .ok (.astore 4, 2) := by decide +kernel
theorem dX10_brokenIn_25 : decode cX10_brokenIn 25 = .ok (.aload_n 0, 1) := by decide +kernel
theorem dX10_brokenIn_26 : decode cX10_brokenIn 26 = .ok (.getfield 51, 3) := by decide +kernel
theorem dX10_brokenIn_29 : decode cX10_brokenIn 29 = .ok (.aload 4, 2) := by decide +kernel
theorem dX10_brokenIn_31 : decode cX10_brokenIn 31 = .ok (.aload_n 1, 1) := by decide +kernel
theorem dX10_brokenIn_32 : decode cX10_brokenIn 32 = .ok (.aload 4, 2) := by decide +kernel
theorem dX10_brokenIn_34 : decode cX10_brokenIn 34 = .ok (.getfield 187, 3) := by decide +kernel
theorem dX10_brokenIn_37 : decode cX10_brokenIn 37 = .ok (.invokevirtual 395, 3) := by decide +kernel
theorem dX10_brokenIn_40 : decode cX10_brokenIn 40 = .ok (.aload_n 0, 1) := by decide +kernel
theorem dX10_brokenIn_41 : decode cX10_brokenIn 41 = .ok (.getfield 51, 3) := by decide +kernel
theorem dX10_brokenIn_44 : decode cX10_brokenIn 44 = .ok (.invokevirtual 392, 3) := by decide +kernel
theorem dX10_brokenIn_47 : decode cX10_brokenIn 47 = .ok (.ifCond .eq 6, 3) := by decide +kernel
theorem dX10_brokenIn_50 : decode cX10_brokenIn 50 = .ok (.iinc 2 1, 3) := by decide +kernel
theorem dX10_brokenIn_53 : decode cX10_brokenIn 53 = .ok (.iinc 3 1, 3) := by decide +kernel
theorem dX10_brokenIn_56 : decode cX10_brokenIn 56 = .ok (.goto (-52), 3) := by decide +kernel
theorem dX10_brokenIn_59 : decode cX10_brokenIn 59 = .ok (.iconst 0, 1) := by decide +kernel
theorem dX10_brokenIn_60 : decode cX10_brokenIn 60 = .ok (.istore_n 3, 1) := by decide +kernel
theorem dX10_brokenIn_61 : decode cX10_brokenIn 61 = .ok (.iload_n 3, 1) := by decide +kernel
theorem dX10_brokenIn_62 : decode cX10_brokenIn 62 = .ok (.bipush 10, 2) := by decide +kernel
theorem dX10_brokenIn_64 : decode cX10_brokenIn 64 = .ok (.if_icmp .ge 31, 3) := by decide +kernel
theorem dX10_brokenIn_67 : decode cX10_brokenIn 67 = .ok (.aload_n 0, 1) := by decide +kernel
theorem dX10_brokenIn_68 : decode cX10_brokenIn 68 = .ok (.getfield 31, 3) := by decide +kernel
theorem dX10_brokenIn_71 : decode cX10_brokenIn 71 = .ok (.iload_n 3, 1) := by decide +kernel
theorem dX10_brokenIn_72 : decode cX10_brokenIn 72 = .ok (.invokevirtual 425, 3) := by decide +kernel
theorem dX10_brokenIn_75 : decode cX10_brokenIn 75 = .ok (.ifCond .eq 14, 3) := by decide +kernel
theorem dX10_brokenIn_78 : decode cX10_brokenIn 78 = .ok (.aload_n 1, 1) := by decide +kernel
theorem dX10_brokenIn_79 : decode cX10_brokenIn 79 = .ok (.iload_n 3, 1) := by decide +kernel
theorem dX10_brokenIn_80 : decode cX10_brokenIn 80 = .ok (.invokevirtual 428, 3) := by decide +kernel
theorem dX10_brokenIn_83 : decode cX10_brokenIn 83 = .ok (.ifCond .eq 6, 3) := by decide +kernel
theorem dX10_brokenIn_86 : decode cX10_brokenIn 86 = .ok (.iinc 2 1, 3) := by decide +kernel
theorem dX10_brokenIn_89 : decode cX10_brokenIn 89 = .ok (.iinc 3 1, 3) := by decide +kernel
theorem dX10_brokenIn_92 : decode cX10_brokenIn 92 = .ok (.goto (-31), 3) := by decide +kernel
theorem dX10_brokenIn_95 : decode cX10_brokenIn 95 = .ok (.iload_n 2, 1) := by decide +kernel
theorem dX10_brokenIn_96 : decode cX10_brokenIn 96 = .ok (.ireturn, 1) := by decide +kernel
theorem dX10_mends_0 : decode cX10_mends 0 = .ok (.aload_n 0, 1) := by decide +kernel
theorem dX10_mends_1 : decode cX10_mends 1 = .ok (.getfield 60, 3) := by decide +kernel
theorem dX10_mends_4 : decode cX10_mends 4 = .ok (.aload_n 0, 1) := by decide +kernel
theorem dX10_mends_5 : decode cX10_mends 5 = .ok (.getfield 47, 3) := by decide +kernel
theorem dX10_mends_8 : decode cX10_mends 8 = .ok (.aload_n 0, 1) := by decide +kernel
theorem dX10_mends_9 : decode cX10_mends 9 = .ok (.getfield 173, 3) := by decide +kernel
theorem dX10_mends_12 : decode cX10_mends 12 = .ok (.iload_n 1, 1) := by decide +kernel
theorem dX10_mends_13 : decode cX10_mends 13 = .ok (.iconst 0, 1) := by decide +kernel
theorem dX10_mends_14 : decode cX10_mends 14 = .ok (.invokevirtual 275, 3) := by decide +kernel
theorem dX10_mends_17 : decode cX10_mends 17 = .ok (.aload_n 0, 1) := by decide +kernel
theorem dX10_mends_18 : decode cX10_mends 18 = .ok (.getfield 47, 3) := by decide +kernel
theorem dX10_mends_21 : decode cX10_mends 21 = .ok (.getfield 312, 3) := by decide +kernel
theorem dX10_mends_24 : decode cX10_mends 24 = .ok (.ifCond .ne 18, 3) := by decide +kernel
theorem dX10_mends_27 : decode cX10_mends 27 = .ok (.aload_n 0, 1) := by decide +kernel
theorem dX10_mends_28 : decode cX10_mends 28 = .ok (.aload_n 0, 1) := by decide +kernel
theorem dX10_mends_29 : decode cX10_mends 29 = .ok (.getfield 47, 3) := by decide +kernel
theorem dX10_mends_32 : decode cX10_mends 32 = .ok (.invokevirtual 323, 3) := by decide +kernel
theorem dX10_mends_35 : decode cX10_mends 35 = .ok (.ifCond .ne 7, 3) := by decide +kernel
theorem dX10_mends_38 : decode cX10_mends 38 = .ok (.iconst 1, 1) := by decide +kernel
theorem dX10_mends_39 : decode cX10_mends 39 = .ok (.goto 4, 3) := by decide +kernel
theorem dX10_mends_42 : decode cX10_mends 42 = .ok (.iconst 0, 1) := by decide +kernel
theorem dX10_mends_43 : decode cX10_mends 43 = .ok (.ireturn, 1) := by decide +kernel
theorem dX10_askFor_0 : decode cX10_askFor 0 = .ok (.iload_n 1, 1) := by decide +kernel
theorem dX10_askFor_1 : decode cX10_askFor 1 = .ok (.bipush 24, 2) := by decide +kernel
theorem dX10_askFor_3 : decode cX10_askFor 3 = .ok (.ishr, 1) := by decide +kernel
theorem dX10_askFor_4 : decode cX10_askFor 4 = .ok (.istore_n 2, 1) := by decide +kernel
theorem dX10_askFor_5 : decode cX10_askFor 5 = .ok (.iload_n 1, 1) := by decide +kernel
theorem dX10_askFor_6 : decode cX10_askFor 6 = .ok (.bipush 21, 2) := by decide +kernel
theorem dX10_askFor_8 : decode cX10_askFor 8 = .ok (.ishr, 1) := by decide +kernel
theorem dX10_askFor_9 : decode cX10_askFor 9 = .ok (.bipush 7, 2) := by decide +kernel
theorem dX10_askFor_11 : decode cX10_askFor 11 = .ok (.iand, 1) := by decide +kernel
theorem dX10_askFor_12 : decode cX10_askFor 12 = .ok (.istore_n 3, 1) := by decide +kernel
theorem dX10_askFor_13 : decode cX10_askFor 13 = .ok (.iload_n 1, 1) := by decide +kernel
theorem dX10_askFor_14 : decode cX10_askFor 14 = .ok (.ldc_w 431, 3) := by decide +kernel
theorem dX10_askFor_17 : decode cX10_askFor 17 = .ok (.iand, 1) := by decide +kernel
theorem dX10_askFor_18 : decode cX10_askFor 18 = .ok (.istore 4, 2) := by decide +kernel
theorem dX10_askFor_20 : decode cX10_askFor 20 = .ok (.iconst 0, 1) := by decide +kernel
theorem dX10_askFor_21 : decode cX10_askFor 21 = .ok (.istore 5, 2) := by decide +kernel
theorem dX10_askFor_23 : decode cX10_askFor 23 = .ok (.iload 5, 2) := by decide +kernel
theorem dX10_askFor_25 : decode cX10_askFor 25 = .ok (.aload_n 0, 1) := by decide +kernel
theorem dX10_askFor_26 : decode cX10_askFor 26 = .ok (.getfield 39, 3) := by decide +kernel
theorem dX10_askFor_29 : decode cX10_askFor 29 = .ok (.getfield 217, 3) := by decide +kernel
theorem dX10_askFor_32 : decode cX10_askFor 32 = .ok (.if_icmp .ge 166, 3) := by decide +kernel
theorem dX10_askFor_35 : decode cX10_askFor 35 = .ok (.aload_n 0, 1) := by decide +kernel
theorem dX10_askFor_36 : decode cX10_askFor 36 = .ok (.getfield 39, 3) := by decide +kernel
theorem dX10_askFor_39 : decode cX10_askFor 39 = .ok (.iload 5, 2) := by decide +kernel
theorem dX10_askFor_41 : decode cX10_askFor 41 = .ok (.invokevirtual 249, 3) := by decide +kernel
theorem dX10_askFor_44 : decode cX10_askFor 44 = .ok (.astore 6, 2) := by decide +kernel
theorem dX10_askFor_46 : decode cX10_askFor 46 = .ok (.aload 6, 2) := by decide +kernel
theorem dX10_askFor_48 : decode cX10_askFor 48 = .ok (.getfield 253, 3) := by decide +kernel
theorem dX10_askFor_51 : decode cX10_askFor 51 = .ok (.ifCond .ne 16, 3) := by decide +kernel
theorem dX10_askFor_54 : decode cX10_askFor 54 = .ok (.aload 6, 2) := by decide +kernel
theorem dX10_askFor_56 : decode cX10_askFor 56 = .ok (.getfield 208, 3) := by decide +kernel
theorem dX10_askFor_59 : decode cX10_askFor 59 = .ok (.iload_n 2, 1) := by decide +kernel
theorem dX10_askFor_60 : decode cX10_askFor 60 = .ok (.if_icmp .ne 7, 3) := by decide +kernel
theorem dX10_askFor_63 : decode cX10_askFor 63 = .ok (.iconst 1, 1) := by decide +kernel
theorem dX10_askFor_64 : decode cX10_askFor 64 = .ok (.goto 4, 3) := by decide +kernel
theorem dX10_askFor_67 : decode cX10_askFor 67 = .ok (.iconst 0, 1) := by decide +kernel
theorem dX10_askFor_68 : decode cX10_askFor 68 = .ok (.istore 7, 2) := by decide +kernel
theorem dX10_askFor_70 : decode cX10_askFor 70 = .ok (.iconst 0, 1) := by decide +kernel
theorem dX10_askFor_71 : decode cX10_askFor 71 = .ok (.istore 8, 2) := by decide +kernel
theorem dX10_askFor_73 : decode cX10_askFor 73 = .ok (.iload 7, 2) := by decide +kernel
theorem dX10_askFor_75 : decode cX10_askFor 75 = .ok (.ifCond .eq 117, 3) := by decide +kernel
theorem dX10_askFor_78 : decode cX10_askFor 78 = .ok (.iload 8, 2) := by decide +kernel
theorem dX10_askFor_80 : decode cX10_askFor 80 = .ok (.aload 6, 2) := by decide +kernel
theorem dX10_askFor_82 : decode cX10_askFor 82 = .ok (.getfield 187, 3) := by decide +kernel
theorem dX10_askFor_85 : decode cX10_askFor 85 = .ok (.if_icmp .ge 107, 3) := by decide +kernel
theorem dX10_askFor_88 : decode cX10_askFor 88 = .ok (.aload 6, 2) := by decide +kernel
theorem dX10_askFor_90 : decode cX10_askFor 90 = .ok (.iload 8, 2) := by decide +kernel
theorem dX10_askFor_92 : decode cX10_askFor 92 = .ok (.invokevirtual 432, 3) := by decide +kernel
theorem dX10_askFor_95 : decode cX10_askFor 95 = .ok (.ifCond .eq 91, 3) := by decide +kernel
theorem dX10_askFor_98 : decode cX10_askFor 98 = .ok (.aload_n 0, 1) := by decide +kernel
theorem dX10_askFor_99 : decode cX10_askFor 99 = .ok (.getfield 51, 3) := by decide +kernel
theorem dX10_askFor_102 : decode cX10_askFor 102 = .ok (.aload 6, 2) := by decide +kernel
theorem dX10_askFor_104 : decode cX10_askFor 104 = .ok (.aload_n 0, 1) := by decide +kernel
theorem dX10_askFor_105 : decode cX10_askFor 105 = .ok (.invokevirtual 261, 3) := by decide +kernel
theorem dX10_askFor_108 : decode cX10_askFor 108 = .ok (.iload 8, 2) := by decide +kernel
theorem dX10_askFor_110 : decode cX10_askFor 110 = .ok (.invokevirtual 395, 3) := by decide +kernel
theorem dX10_askFor_113 : decode cX10_askFor 113 = .ok (.aload_n 0, 1) := by decide +kernel
theorem dX10_askFor_114 : decode cX10_askFor 114 = .ok (.getfield 51, 3) := by decide +kernel
theorem dX10_askFor_117 : decode cX10_askFor 117 = .ok (.iload 4, 2) := by decide +kernel
theorem dX10_askFor_119 : decode cX10_askFor 119 = .ok (.iload_n 3, 1) := by decide +kernel
theorem dX10_askFor_120 : decode cX10_askFor 120 = .ok (.invokevirtual 402, 3) := by decide +kernel
theorem dX10_askFor_123 : decode cX10_askFor 123 = .ok (.istore 7, 2) := by decide +kernel
theorem dX10_askFor_125 : decode cX10_askFor 125 = .ok (.iconst 0, 1) := by decide +kernel
theorem dX10_askFor_126 : decode cX10_askFor 126 = .ok (.istore 9, 2) := by decide +kernel
theorem dX10_askFor_128 : decode cX10_askFor 128 = .ok (.iload 9, 2) := by decide +kernel
theorem dX10_askFor_130 : decode cX10_askFor 130 = .ok (.ldc_w 391, 3) := by decide +kernel
theorem dX10_askFor_133 : decode cX10_askFor 133 = .ok (.if_icmp .ge 53, 3) := by decide +kernel
theorem dX10_askFor_136 : decode cX10_askFor 136 = .ok (.iload 7, 2) := by decide +kernel
theorem dX10_askFor_138 : decode cX10_askFor 138 = .ok (.ifCond .eq 48, 3) := by decide +kernel
theorem dX10_askFor_141 : decode cX10_askFor 141 = .ok (.aload_n 0, 1) := by decide +kernel
theorem dX10_askFor_142 : decode cX10_askFor 142 = .ok (.getfield 81, 3) := by decide +kernel
theorem dX10_askFor_145 : decode cX10_askFor 145 = .ok (.getfield 339, 3) := by decide +kernel
theorem dX10_askFor_148 : decode cX10_askFor 148 = .ok (.sipush 400, 3) := by decide +kernel
theorem dX10_askFor_151 : decode cX10_askFor 151 = .ok (.if_icmp .ge 35, 3) := by decide +kernel
theorem dX10_askFor_154 : decode cX10_askFor 154 = .ok (.aload_n 0, 1) := by decide +kernel
theorem dX10_askFor_155 : decode cX10_askFor 155 = .ok (.getfield 51, 3) := by decide +kernel
theorem dX10_askFor_158 : decode cX10_askFor 158 = .ok (.invokevirtual 392, 3) := by decide +kernel
theorem dX10_askFor_161 : decode cX10_askFor 161 = .ok (.ifCond .eq 25, 3) := by decide +kernel
theorem dX10_askFor_164 : decode cX10_askFor 164 = .ok (.aload_n 0, 1) := by decide +kernel
theorem dX10_askFor_165 : decode cX10_askFor 165 = .ok (.getfield 81, 3) := by decide +kernel
theorem dX10_askFor_168 : decode cX10_askFor 168 = .ok (.aload_n 0, 1) := by decide +kernel
theorem dX10_askFor_169 : decode cX10_askFor 169 = .ok (.getfield 51, 3) := by decide +kernel
theorem dX10_askFor_172 : decode cX10_askFor 172 = .ok (.iload 8, 2) := by decide +kernel
theorem dX10_askFor_174 : decode cX10_askFor 174 = .ok (.invokevirtual 435, 3) := by decide +kernel
theorem dX10_askFor_177 : decode cX10_askFor 177 = .ok (.invokevirtual 335, 3) := by decide +kernel
theorem dX10_askFor_180 : decode cX10_askFor 180 = .ok (.iinc 9 1, 3) := by decide +kernel
theorem dX10_askFor_183 : decode cX10_askFor 183 = .ok (.goto (-55), 3) := by decide +kernel
theorem dX10_askFor_186 : decode cX10_askFor 186 = .ok (.iinc 8 1, 3) := by decide +kernel
theorem dX10_askFor_189 : decode cX10_askFor 189 = .ok (.goto (-116), 3) := by decide +kernel
theorem dX10_askFor_192 : decode cX10_askFor 192 = .ok (.iinc 5 1, 3) := by decide +kernel
theorem dX10_askFor_195 : decode cX10_askFor 195 = .ok (.goto (-172), 3) := by decide +kernel
theorem dX10_askFor_198 : decode cX10_askFor 198 = .ok (.return_, 1) := by decide +kernel
theorem dX10_isNeedless_0 : decode cX10_isNeedless 0 = .ok (.aload_n 1, 1) := by decide +kernel
theorem dX10_isNeedless_1 : decode cX10_isNeedless 1 = .ok (.iload_n 2, 1) := by decide +kernel
theorem dX10_isNeedless_2 : decode cX10_isNeedless 2 = .ok (.invokevirtual 438, 3) := by decide +kernel
theorem dX10_isNeedless_5 : decode cX10_isNeedless 5 = .ok (.istore_n 3, 1) := by decide +kernel
theorem dX10_isNeedless_6 : decode cX10_isNeedless 6 = .ok (.iconst 0, 1) := by decide +kernel
theorem dX10_isNeedless_7 : decode cX10_isNeedless 7 = .ok (.istore 4, 2) := by decide +kernel
theorem dX10_isNeedless_9 : decode cX10_isNeedless 9 = .ok (.iconst 0, 1) := by decide +kernel
theorem dX10_isNeedless_10 : decode cX10_isNeedless 10 = .ok (.istore 5, 2) := by decide +kernel
theorem dX10_isNeedless_12 : decode cX10_isNeedless 12 = .ok (.iload 5, 2) := by decide +kernel
theorem dX10_isNeedless_14 : decode cX10_isNeedless 14 = .ok (.iload_n 2, 1) := by decide +kernel
theorem dX10_isNeedless_15 : decode cX10_isNeedless 15 = .ok (.if_icmp .ge 69, 3) := by decide +kernel
theorem dX10_isNeedless_18 : decode cX10_isNeedless 18 = .ok (.aload_n 0, 1) := by decide +kernel
theorem dX10_isNeedless_19 : decode cX10_isNeedless 19 = .ok (.getfield 31, 3) := by decide +kernel
theorem dX10_isNeedless_22 : decode cX10_isNeedless 22 = .ok (.iload_n 3, 1) := by decide +kernel
theorem dX10_isNeedless_23 : decode cX10_isNeedless 23 = .ok (.invokevirtual 425, 3) := by decide +kernel
theorem dX10_isNeedless_26 : decode cX10_isNeedless 26 = .ok (.ifCond .eq 58, 3) := by decide +kernel
theorem dX10_isNeedless_29 : decode cX10_isNeedless 29 = .ok (.iload 4, 2) := by decide +kernel
theorem dX10_isNeedless_31 : decode cX10_isNeedless 31 = .ok (.ifCond .ne 40, 3) := by decide +kernel
theorem dX10_isNeedless_34 : decode cX10_isNeedless 34 = .ok (.aload_n 1, 1) := by decide +kernel
theorem dX10_isNeedless_35 : decode cX10_isNeedless 35 = .ok (.iload 5, 2) := by decide +kernel
theorem dX10_isNeedless_37 : decode cX10_isNeedless 37 = .ok (.invokevirtual 355, 3) := by decide +kernel
theorem dX10_isNeedless_40 : decode cX10_isNeedless 40 = .ok (.ifCond .ne 35, 3) := by decide +kernel
theorem dX10_isNeedless_43 : decode cX10_isNeedless 43 = .ok (.aload_n 1, 1) := by decide +kernel
theorem dX10_isNeedless_44 : decode cX10_isNeedless 44 = .ok (.iload 5, 2) := by decide +kernel
theorem dX10_isNeedless_46 : decode cX10_isNeedless 46 = .ok (.invokevirtual 438, 3) := by decide +kernel
theorem dX10_isNeedless_49 : decode cX10_isNeedless 49 = .ok (.iload_n 3, 1) := by decide +kernel
theorem dX10_isNeedless_50 : decode cX10_isNeedless 50 = .ok (.if_icmp .ne 25, 3) := by decide +kernel
theorem dX10_isNeedless_53 : decode cX10_isNeedless 53 = .ok (.aload_n 1, 1) := by decide +kernel
theorem dX10_isNeedless_54 : decode cX10_isNeedless 54 = .ok (.iload 5, 2) := by decide +kernel
theorem dX10_isNeedless_56 : decode cX10_isNeedless 56 = .ok (.iload_n 2, 1) := by decide +kernel
theorem dX10_isNeedless_57 : decode cX10_isNeedless 57 = .ok (.aload_n 0, 1) := by decide +kernel
theorem dX10_isNeedless_58 : decode cX10_isNeedless 58 = .ok (.getfield 31, 3) := by decide +kernel
theorem dX10_isNeedless_61 : decode cX10_isNeedless 61 = .ok (.iload_n 3, 1) := by decide +kernel
theorem dX10_isNeedless_62 : decode cX10_isNeedless 62 = .ok (.invokevirtual 441, 3) := by decide +kernel
theorem dX10_isNeedless_65 : decode cX10_isNeedless 65 = .ok (.invokevirtual 444, 3) := by decide +kernel
theorem dX10_isNeedless_68 : decode cX10_isNeedless 68 = .ok (.ifCond .eq 7, 3) := by decide +kernel
theorem dX10_isNeedless_71 : decode cX10_isNeedless 71 = .ok (.iconst 1, 1) := by decide +kernel
theorem dX10_isNeedless_72 : decode cX10_isNeedless 72 = .ok (.goto 4, 3) := by decide +kernel
theorem dX10_isNeedless_75 : decode cX10_isNeedless 75 = .ok (.iconst 0, 1) := by decide +kernel
theorem dX10_isNeedless_76 : decode cX10_isNeedless 76 = .ok (.istore 4, 2) := by decide +kernel
theorem dX10_isNeedless_78 : decode cX10_isNeedless 78 = .ok (.iinc 5 1, 3) := by decide +kernel
theorem dX10_isNeedless_81 : decode cX10_isNeedless 81 = .ok (.goto (-69), 3) := by decide +kernel
theorem dX10_isNeedless_84 : decode cX10_isNeedless 84 = .ok (.iload 4, 2) := by decide +kernel
theorem dX10_isNeedless_86 : decode cX10_isNeedless 86 = .ok (.ireturn, 1) := by decide +kernel
theorem dX10_fewestOrders_0 : decode cX10_fewestOrders 0 = .ok (.getstatic 447, 3) := by decide +kernel
theorem dX10_fewestOrders_3 : decode cX10_fewestOrders 3 = .ok (.arraylength, 1) := by decide +kernel
theorem dX10_fewestOrders_4 : decode cX10_fewestOrders 4 = .ok (.istore_n 1, 1) := by decide +kernel
theorem dX10_fewestOrders_5 : decode cX10_fewestOrders 5 = .ok (.iconst 0, 1) := by decide +kernel
theorem dX10_fewestOrders_6 : decode cX10_fewestOrders 6 = .ok (.istore_n 2, 1) := by decide +kernel
theorem dX10_fewestOrders_7 : decode cX10_fewestOrders 7 = .ok (.iload_n 2, 1) := by decide +kernel
theorem dX10_fewestOrders_8 : decode cX10_fewestOrders 8 = .ok (.iconst 1, 1) := by decide +kernel
theorem dX10_fewestOrders_9 : decode cX10_fewestOrders 9 = .ok (.getstatic 447, 3) := by decide +kernel
theorem dX10_fewestOrders_12 : decode cX10_fewestOrders 12 = .ok (.arraylength, 1) := by decide +kernel
theorem dX10_fewestOrders_13 : decode cX10_fewestOrders 13 = .ok (.ishl, 1) := by decide +kernel
theorem dX10_fewestOrders_14 : decode cX10_fewestOrders 14 = .ok (.if_icmp .ge 68, 3) := by decide +kernel
theorem dX10_fewestOrders_17 : decode cX10_fewestOrders 17 = .ok (.iconst 0, 1) := by decide +kernel
theorem dX10_fewestOrders_18 : decode cX10_fewestOrders 18 = .ok (.istore_n 3, 1) := by decide +kernel
theorem dX10_fewestOrders_19 : decode cX10_fewestOrders 19 = .ok (.iconst 0, 1) := by decide +kernel
theorem dX10_fewestOrders_20 : decode cX10_fewestOrders 20 = .ok (.istore 4, 2) := by decide +kernel
theorem dX10_fewestOrders_22 : decode cX10_fewestOrders 22 = .ok (.iload 4, 2) := by decide +kernel
theorem dX10_fewestOrders_24 : decode cX10_fewestOrders 24 = .ok (.getstatic 447, 3) := by decide +kernel
theorem dX10_fewestOrders_27 : decode cX10_fewestOrders 27 = .ok (.arraylength, 1) := by decide +kernel
theorem dX10_fewestOrders_28 : decode cX10_fewestOrders 28 = .ok (.if_icmp .ge 31, 3) := by decide +kernel
theorem dX10_fewestOrders_31 : decode cX10_fewestOrders 31 = .ok (.iload_n 3, 1) := by decide +kernel
theorem dX10_fewestOrders_32 : decode cX10_fewestOrders 32 = .ok (.iload_n 2, 1) := by decide +kernel
theorem dX10_fewestOrders_33 : decode cX10_fewestOrders 33 = .ok (.iload 4, 2) := by decide +kernel
theorem dX10_fewestOrders_35 : decode cX10_fewestOrders 35 = .ok (.ishr, 1) := by decide +kernel
theorem dX10_fewestOrders_36 : decode cX10_fewestOrders 36 = .ok (.iconst 1, 1) := by decide +kernel
theorem dX10_fewestOrders_37 : decode cX10_fewestOrders 37 = .ok (.iand, 1) := by decide +kernel
theorem dX10_fewestOrders_38 : decode cX10_fewestOrders 38 = .ok (.ifCond .ne 7, 3) := by decide +kernel
theorem dX10_fewestOrders_41 : decode cX10_fewestOrders 41 = .ok (.iconst 0, 1) := by decide +kernel
theorem dX10_fewestOrders_42 : decode cX10_fewestOrders 42 = .ok (.goto 9, 3) := by decide +kernel
theorem dX10_fewestOrders_45 : decode cX10_fewestOrders 45 = .ok (.getstatic 447, 3) := by decide +kernel
theorem dX10_fewestOrders_48 : decode cX10_fewestOrders 48 = .ok (.iload 4, 2) := by decide +kernel
theorem dX10_fewestOrders_50 : decode cX10_fewestOrders 50 = .ok (.iaload, 1) := by decide +kernel
theorem dX10_fewestOrders_51 : decode cX10_fewestOrders 51 = .ok (.ior, 1) := by decide +kernel
theorem dX10_fewestOrders_52 : decode cX10_fewestOrders 52 = .ok (.istore_n 3, 1) := by decide +kernel
theorem dX10_fewestOrders_53 : decode cX10_fewestOrders 53 = .ok (.iinc 4 1, 3) := by decide +kernel
theorem dX10_fewestOrders_56 : decode cX10_fewestOrders 56 = .ok (.goto (-34), 3) := by decide +kernel
theorem dX10_fewestOrders_59 : decode cX10_fewestOrders 59 = .ok (.iload_n 0, 1) := by decide +kernel
theorem dX10_fewestOrders_60 : decode cX10_fewestOrders 60 = .ok (.iload_n 3, 1) := by decide +kernel
theorem dX10_fewestOrders_61 : decode cX10_fewestOrders 61 = .ok (.iconst (-1), 1) := by decide +kernel
theorem dX10_fewestOrders_62 : decode cX10_fewestOrders 62 = .ok (.ixor, 1) := by decide +kernel
theorem dX10_fewestOrders_63 : decode cX10_fewestOrders 63 = .ok (.iand, 1) := by decide +kernel
theorem dX10_fewestOrders_64 : decode cX10_fewestOrders 64 = .ok (.ifCond .ne 12, 3) := by decide +kernel
theorem dX10_fewestOrders_67 : decode cX10_fewestOrders 67 = .ok (.iload_n 1, 1) := by decide +kernel
theorem dX10_fewestOrders_68 : decode cX10_fewestOrders 68 = .ok (.iload_n 2, 1) := by decide +kernel
theorem dX10_fewestOrders_69 : decode cX10_fewestOrders 69 = .ok (.invokestatic 451, 3) := by decide +kernel
theorem dX10_fewestOrders_72 : decode cX10_fewestOrders 72 = .ok (.invokestatic 456, 3) := by decide +kernel
theorem dX10_fewestOrders_75 : decode cX10_fewestOrders 75 = .ok (.istore_n 1, 1) := by decide +kernel
theorem dX10_fewestOrders_76 : decode cX10_fewestOrders 76 = .ok (.iinc 2 1, 3) := by decide +kernel
theorem dX10_fewestOrders_79 : decode cX10_fewestOrders 79 = .ok (.goto (-72), 3) := by decide +kernel
theorem dX10_fewestOrders_82 : decode cX10_fewestOrders 82 = .ok (.iload_n 1, 1) := by decide +kernel
theorem dX10_fewestOrders_83 : decode cX10_fewestOrders 83 = .ok (.ireturn, 1) := by decide +kernel
