theorem dX11_init_0 : decode cX11_init 0 = .ok (.aload_n 0, 1) := by decide +kernel
theorem dX11_init_1 : decode cX11_init 1 = .ok (.invokespecial 1, 3) := by decide +kernel
theorem dX11_init_4 : decode cX11_init 4 = .ok (.aload_n 0, 1) := by decide +kernel
theorem dX11_init_5 : decode cX11_init 5 = .ok (.bipush 10, 2) := by decide +kernel
theorem dX11_init_7 : decode cX11_init 7 = .ok (.newarray .boolean, 2) := by decide +kernel
theorem dX11_init_9 : decode cX11_init 9 = .ok (.putfield 7, 3) := by decide +kernel
theorem dX11_init_12 : decode cX11_init 12 = .ok (.aload_n 0, 1) := by decide +kernel
theorem dX11_init_13 : decode cX11_init 13 = .ok (.bipush 10, 2) := by decide +kernel
theorem dX11_init_15 : decode cX11_init 15 = .ok (.newarray .int, 2) := by decide +kernel
theorem dX11_init_17 : decode cX11_init 17 = .ok (.putfield 13, 3) := by decide +kernel
theorem dX11_init_20 : decode cX11_init 20 = .ok (.aload_n 0, 1) := by decide +kernel
theorem dX11_init_21 : decode cX11_init 21 = .ok (.bipush 10, 2) := by decide +kernel
theorem dX11_init_23 : decode cX11_init 23 = .ok (.newarray .int, 2) := by decide +kernel
theorem dX11_init_25 : decode cX11_init 25 = .ok (.putfield 17, 3) := by decide +kernel
theorem dX11_init_28 : decode cX11_init 28 = .ok (.aload_n 0, 1) := by decide +kernel
theorem dX11_init_29 : decode cX11_init 29 = .ok (.bipush 10, 2) := by decide +kernel
theorem dX11_init_31 : decode cX11_init 31 = .ok (.newarray .int, 2) := by decide +kernel
theorem dX11_init_33 : decode cX11_init 33 = .ok (.putfield 20, 3) := by decide +kernel
theorem dX11_init_36 : decode cX11_init 36 = .ok (.aload_n 0, 1) := by decide +kernel
theorem dX11_init_37 : decode cX11_init 37 = .ok (.bipush 10, 2) := by decide +kernel
theorem dX11_init_39 : decode cX11_init 39 = .ok (.newarray .int, 2) := by decide +kernel
theorem dX11_init_41 : decode cX11_init 41 = .ok (.putfield 23, 3) := by decide +kernel
theorem dX11_init_44 : decode cX11_init 44 = .ok (.aload_n 0, 1) := by decide +kernel
theorem dX11_init_45 : decode cX11_init 45 = .ok (.bipush 24, 2) := by decide +kernel
theorem dX11_init_47 : decode cX11_init 47 = .ok (.newarray .int, 2) := by decide +kernel
theorem dX11_init_49 : decode cX11_init 49 = .ok (.putfield 26, 3) := by decide +kernel
theorem dX11_init_52 : decode cX11_init 52 = .ok (.aload_n 0, 1) := by decide +kernel
theorem dX11_init_53 : decode cX11_init 53 = .ok (.bipush 72, 2) := by decide +kernel
theorem dX11_init_55 : decode cX11_init 55 = .ok (.newarray .int, 2) := by decide +kernel
theorem dX11_init_57 : decode cX11_init 57 = .ok (.putfield 29, 3) := by decide +kernel
theorem dX11_init_60 : decode cX11_init 60 = .ok (.aload_n 0, 1) := by decide +kernel
theorem dX11_init_61 : decode cX11_init 61 = .ok (.bipush 24, 2) := by decide +kernel
theorem dX11_init_63 : decode cX11_init 63 = .ok (.newarray .int, 2) := by decide +kernel
theorem dX11_init_65 : decode cX11_init 65 = .ok (.putfield 32, 3) := by decide +kernel
theorem dX11_init_68 : decode cX11_init 68 = .ok (.aload_n 0, 1) := by decide +kernel
theorem dX11_init_69 : decode cX11_init 69 = .ok (.bipush 24, 2) := by decide +kernel
theorem dX11_init_71 : decode cX11_init 71 = .ok (.newarray .int, 2) := by decide +kernel
theorem dX11_init_73 : decode cX11_init 73 = .ok (.putfield 35, 3) := by decide +kernel
theorem dX11_init_76 : decode cX11_init 76 = .ok (.aload_n 0, 1) := by decide +kernel
theorem dX11_init_77 : decode cX11_init 77 = .ok (.bipush 24, 2) := by decide +kernel
theorem dX11_init_79 : decode cX11_init 79 = .ok (.newarray .int, 2) := by decide +kernel
theorem dX11_init_81 : decode cX11_init 81 = .ok (.putfield 38, 3) := by decide +kernel
theorem dX11_init_84 : decode cX11_init 84 = .ok (.aload_n 0, 1) := by decide +kernel
theorem dX11_init_85 : decode cX11_init 85 = .ok (.bipush 24, 2) := by decide +kernel
theorem dX11_init_87 : decode cX11_init 87 = .ok (.newarray .boolean, 2) := by decide +kernel
theorem dX11_init_89 : decode cX11_init 89 = .ok (.putfield 41, 3) := by decide +kernel
theorem dX11_init_92 : decode cX11_init 92 = .ok (.aload_n 0, 1) := by decide +kernel
theorem dX11_init_93 : decode cX11_init 93 = .ok (.bipush 12, 2) := by decide +kernel
theorem dX11_init_95 : decode cX11_init 95 = .ok (.newarray .boolean, 2) := by decide +kernel
theorem dX11_init_97 : decode cX11_init 97 = .ok (.putfield 44, 3) := by decide +kernel
theorem dX11_init_100 : decode cX11_init 100 = .ok (.aload_n 0, 1) := by decide +kernel
theorem dX11_init_101 : decode cX11_init 101 = .ok (.bipush 19, 2) := by decide +kernel
theorem dX11_init_103 : decode cX11_init 103 = .ok (.newarray .int, 2) := by decide +kernel
theorem dX11_init_105 : decode cX11_init 105 = .ok (.putfield 47, 3) := by decide +kernel
theorem dX11_init_108 : decode cX11_init 108 = .ok (.aload_n 0, 1) := by decide +kernel
theorem dX11_init_109 : decode cX11_init 109 = .ok (.bipush 57, 2) := by decide +kernel
theorem dX11_init_111 : decode cX11_init 111 = .ok (.newarray .int, 2) := by decide +kernel
theorem dX11_init_113 : decode cX11_init 113 = .ok (.putfield 50, 3) := by decide +kernel
theorem dX11_init_116 : decode cX11_init 116 = .ok (.aload_n 0, 1) := by decide +kernel
theorem dX11_init_117 : decode cX11_init 117 = .ok (.bipush 19, 2) := by decide +kernel
theorem dX11_init_119 : decode cX11_init 119 = .ok (.newarray .int, 2) := by decide +kernel
theorem dX11_init_121 : decode cX11_init 121 = .ok (.putfield 53, 3) := by decide +kernel
theorem dX11_init_124 : decode cX11_init 124 = .ok (.aload_n 0, 1) := by decide +kernel
theorem dX11_init_125 : decode cX11_init 125 = .ok (.bipush 95, 2) := by decide +kernel
theorem dX11_init_127 : decode cX11_init 127 = .ok (.newarray .int, 2) := by decide +kernel
theorem dX11_init_129 : decode cX11_init 129 = .ok (.putfield 56, 3) := by decide +kernel
theorem dX11_init_132 : decode cX11_init 132 = .ok (.aload_n 0, 1) := by decide +kernel
theorem dX11_init_133 : decode cX11_init 133 = .ok (.bipush 95, 2) := by decide +kernel
theorem dX11_init_135 : decode cX11_init 135 = .ok (.newarray .int, 2) := by decide +kernel
theorem dX11_init_137 : decode cX11_init 137 = .ok (.putfield 59, 3) := by decide +kernel
theorem dX11_init_140 : decode cX11_init 140 = .ok (.aload_n 0, 1) := by decide +kernel
theorem dX11_init_141 : decode cX11_init 141 = .ok (.sipush 285, 3) := by decide +kernel
theorem dX11_init_144 : decode cX11_init 144 = .ok (.newarray .int, 2) := by decide +kernel
theorem dX11_init_146 : decode cX11_init 146 = .ok (.putfield 62, 3) := by decide +kernel
theorem dX11_init_149 : decode cX11_init 149 = .ok (.aload_n 0, 1) := by decide +kernel
theorem dX11_init_150 : decode cX11_init 150 = .ok (.iconst 5, 1) := by decide +kernel
theorem dX11_init_151 : decode cX11_init 151 = .ok (.newarray .int, 2) := by decide +kernel
theorem dX11_init_153 : decode cX11_init 153 = .ok (.putfield 65, 3) := by decide +kernel
theorem dX11_init_156 : decode cX11_init 156 = .ok (.aload_n 0, 1) := by decide +kernel
theorem dX11_init_157 : decode cX11_init 157 = .ok (.sipush 250, 3) := by decide +kernel
theorem dX11_init_160 : decode cX11_init 160 = .ok (.newarray .int, 2) := by decide +kernel
theorem dX11_init_162 : decode cX11_init 162 = .ok (.putfield 68, 3) := by decide +kernel
theorem dX11_init_165 : decode cX11_init 165 = .ok (.aload_n 0, 1) := by decide +kernel
theorem dX11_init_166 : decode cX11_init 166 = .ok (.sipush 750, 3) := by decide +kernel
theorem dX11_init_169 : decode cX11_init 169 = .ok (.newarray .int, 2) := by decide +kernel
theorem dX11_init_171 : decode cX11_init 171 = .ok (.putfield 71, 3) := by decide +kernel
theorem dX11_init_174 : decode cX11_init 174 = .ok (.aload_n 0, 1) := by decide +kernel
theorem dX11_init_175 : decode cX11_init 175 = .ok (.bipush 8, 2) := by decide +kernel
theorem dX11_init_177 : decode cX11_init 177 = .ok (.newarray .int, 2) := by decide +kernel
theorem dX11_init_179 : decode cX11_init 179 = .ok (.putfield 74, 3) := by decide +kernel
theorem dX11_init_182 : decode cX11_init 182 = .ok (.aload_n 0, 1) := by decide +kernel
theorem dX11_init_183 : decode cX11_init 183 = .ok (.bipush 8, 2) := by decide +kernel
theorem dX11_init_185 : decode cX11_init 185 = .ok (.newarray .int, 2) := by decide +kernel
theorem dX11_init_187 : decode cX11_init 187 = .ok (.putfield 77, 3) := by decide +kernel
theorem dX11_init_190 : decode cX11_init 190 = .ok (.aload_n 0, 1) := by decide +kernel
theorem dX11_init_191 : decode cX11_init 191 = .ok (.iconst 5, 1) := by decide +kernel
theorem dX11_init_192 : decode cX11_init 192 = .ok (.newarray .int, 2) := by decide +kernel
theorem dX11_init_194 : decode cX11_init 194 = .ok (.putfield 80, 3) := by decide +kernel
theorem dX11_init_197 : decode cX11_init 197 = .ok (.aload_n 0, 1) := by decide +kernel
theorem dX11_init_198 : decode cX11_init 198 = .ok (.bipush 50, 2) := by decide +kernel
theorem dX11_init_200 : decode cX11_init 200 = .ok (.newarray .int, 2) := by decide +kernel
theorem dX11_init_202 : decode cX11_init 202 = .ok (.putfield 83, 3) := by decide +kernel
theorem dX11_init_205 : decode cX11_init 205 = .ok (.aload_n 0, 1) := by decide +kernel
theorem dX11_init_206 : decode cX11_init 206 = .ok (.sipush 400, 3) := by decide +kernel
theorem dX11_init_209 : decode cX11_init 209 = .ok (.newarray .int, 2) := by decide +kernel
theorem dX11_init_211 : decode cX11_init 211 = .ok (.putfield 86, 3) := by decide +kernel
theorem dX11_init_214 : decode cX11_init 214 = .ok (.aload_n 0, 1) := by decide +kernel
theorem dX11_init_215 : decode cX11_init 215 = .ok (.sipush 1200, 3) := by decide +kernel
theorem dX11_init_218 : decode cX11_init 218 = .ok (.newarray .int, 2) := by decide +kernel
theorem dX11_init_220 : decode cX11_init 220 = .ok (.putfield 89, 3) := by decide +kernel
theorem dX11_init_223 : decode cX11_init 223 = .ok (.aload_n 0, 1) := by decide +kernel
theorem dX11_init_224 : decode cX11_init 224 = .ok (.iconst 5, 1) := by decide +kernel
theorem dX11_init_225 : decode cX11_init 225 = .ok (.newarray .int, 2) := by decide +kernel
theorem dX11_init_227 : decode cX11_init 227 = .ok (.putfield 92, 3) := by decide +kernel
theorem dX11_init_230 : decode cX11_init 230 = .ok (.aload_n 0, 1) := by decide +kernel
theorem dX11_init_231 : decode cX11_init 231 = .ok (.iconst 5, 1) := by decide +kernel
theorem dX11_init_232 : decode cX11_init 232 = .ok (.newarray .int, 2) := by decide +kernel
theorem dX11_init_234 : decode cX11_init 234 = .ok (.putfield 95, 3) := by decide +kernel
theorem dX11_init_237 : decode cX11_init 237 = .ok (.aload_n 0, 1) := by decide +kernel
theorem dX11_init_238 : decode cX11_init 238 = .ok (.getfield 47, 3) := by decide +kernel
theorem dX11_init_241 : decode cX11_init 241 = .ok (.bipush 18, 2) := by decide +kernel
theorem dX11_init_243 : decode cX11_init 243 = .ok (.iconst (-1), 1) := by decide +kernel
theorem dX11_init_244 : decode cX11_init 244 = .ok (.iastore, 1) := by decide +kernel
theorem dX11_init_245 : decode cX11_init 245 = .ok (.return_, 1) := by decide +kernel
theorem dX11_thrown_0 : decode cX11_thrown 0 = .ok (.aload_n 0, 1) := by decide +kernel
theorem dX11_thrown_1 : decode cX11_thrown 1 = .ok (.getfield 98, 3) := by decide +kernel
theorem dX11_thrown_4 : decode cX11_thrown 4 = .ok (.ireturn, 1) := by decide +kernel
theorem dX11_refused_0 : decode cX11_refused 0 = .ok (.aload_n 0, 1) := by decide +kernel
theorem dX11_refused_1 : decode cX11_refused 1 = .ok (.iload_n 1, 1) := by decide +kernel
theorem dX11_refused_2 : decode cX11_refused 2 = .ok (.putfield 98, 3) := by decide +kernel
theorem dX11_refused_5 : decode cX11_refused 5 = .ok (.iload_n 1, 1) := by decide +kernel
theorem dX11_refused_6 : decode cX11_refused 6 = .ok (.ifCond .eq 7, 3) := by decide +kernel
theorem dX11_refused_9 : decode cX11_refused 9 = .ok (.iconst 1, 1) := by decide +kernel
theorem dX11_refused_10 : decode cX11_refused 10 = .ok (.goto 4, 3) := by decide +kernel
theorem dX11_refused_13 : decode cX11_refused 13 = .ok (.iconst 0, 1) := by decide +kernel
theorem dX11_refused_14 : decode cX11_refused 14 = .ok (.ireturn, 1) := by decide +kernel
theorem dX11_fine_0 : decode cX11_fine 0 = .ok (.aload_n 0, 1) := by decide +kernel
theorem dX11_fine_1 : decode cX11_fine 1 = .ok (.iconst 0, 1) := by decide +kernel
theorem dX11_fine_2 : decode cX11_fine 2 = .ok (.putfield 98, 3) := by decide +kernel
theorem dX11_fine_5 : decode cX11_fine 5 = .ok (.iload_n 1, 1) := by decide +kernel
theorem dX11_fine_6 : decode cX11_fine 6 = .ok (.ireturn, 1) := by decide +kernel
theorem dX11_in_0 : decode cX11_in 0 = .ok (.iload_n 0, 1) := by decide +kernel
theorem dX11_in_1 : decode cX11_in 1 = .ok (.iload_n 1, 1) := by decide +kernel
theorem dX11_in_2 : decode cX11_in 2 = .ok (.if_icmp .lt 12, 3) := by decide +kernel
theorem dX11_in_5 : decode cX11_in 5 = .ok (.iload_n 0, 1) := by decide +kernel
theorem dX11_in_6 : decode cX11_in 6 = .ok (.iload_n 2, 1) := by decide +kernel
theorem dX11_in_7 : decode cX11_in 7 = .ok (.if_icmp .gt 7, 3) := by decide +kernel
theorem dX11_in_10 : decode cX11_in 10 = .ok (.iconst 1, 1) := by decide +kernel
theorem dX11_in_11 : decode cX11_in 11 = .ok (.goto 4, 3) := by decide +kernel
theorem dX11_in_14 : decode cX11_in 14 = .ok (.iconst 0, 1) := by decide +kernel
theorem dX11_in_15 : decode cX11_in 15 = .ok (.ireturn, 1) := by decide +kernel
theorem dX11_isRelation_0 : decode cX11_isRelation 0 = .ok (.iload_n 1, 1) := by decide +kernel
theorem dX11_isRelation_1 : decode cX11_isRelation 1 = .ok (.iconst 0, 1) := by decide +kernel
theorem dX11_isRelation_2 : decode cX11_isRelation 2 = .ok (.bipush 9, 2) := by decide +kernel
theorem dX11_isRelation_4 : decode cX11_isRelation 4 = .ok (.invokestatic 102, 3) := by decide +kernel
theorem dX11_isRelation_7 : decode cX11_isRelation 7 = .ok (.ifCond .eq 16, 3) := by decide +kernel
theorem dX11_isRelation_10 : decode cX11_isRelation 10 = .ok (.aload_n 0, 1) := by decide +kernel
theorem dX11_isRelation_11 : decode cX11_isRelation 11 = .ok (.getfield 7, 3) := by decide +kernel
theorem dX11_isRelation_14 : decode cX11_isRelation 14 = .ok (.iload_n 1, 1) := by decide +kernel
theorem dX11_isRelation_15 : decode cX11_isRelation 15 = .ok (.baload, 1) := by decide +kernel
theorem dX11_isRelation_16 : decode cX11_isRelation 16 = .ok (.ifCond .eq 7, 3) := by decide +kernel
theorem dX11_isRelation_19 : decode cX11_isRelation 19 = .ok (.iconst 1, 1) := by decide +kernel
theorem dX11_isRelation_20 : decode cX11_isRelation 20 = .ok (.goto 4, 3) := by decide +kernel
theorem dX11_isRelation_23 : decode cX11_isRelation 23 = .ok (.iconst 0, 1) := by decide +kernel
theorem dX11_isRelation_24 : decode cX11_isRelation 24 = .ok (.ireturn, 1) := by decide +kernel
theorem dX11_isTerm_0 : decode cX11_isTerm 0 = .ok (.iload_n 3, 1) := by decide +kernel
theorem dX11_isTerm_1 : decode cX11_isTerm 1 = .ok (.aload_n 0, 1) := by decide +kernel
theorem dX11_isTerm_2 : decode cX11_isTerm 2 = .ok (.getfield 13, 3) := by decide +kernel
theorem dX11_isTerm_5 : decode cX11_isTerm 5 = .ok (.iload_n 1, 1) := by decide +kernel
theorem dX11_isTerm_6 : decode cX11_isTerm 6 = .ok (.iaload, 1) := by decide +kernel
theorem dX11_isTerm_7 : decode cX11_isTerm 7 = .ok (.if_icmp .ge 14, 3) := by decide +kernel
theorem dX11_isTerm_10 : decode cX11_isTerm 10 = .ok (.iload_n 2, 1) := by decide +kernel
theorem dX11_isTerm_11 : decode cX11_isTerm 11 = .ok (.bipush (-8), 2) := by decide +kernel
theorem dX11_isTerm_13 : decode cX11_isTerm 13 = .ok (.bipush 127, 2) := by decide +kernel
theorem dX11_isTerm_15 : decode cX11_isTerm 15 = .ok (.invokestatic 102, 3) := by decide +kernel
theorem dX11_isTerm_18 : decode cX11_isTerm 18 = .ok (.goto 12, 3) := by decide +kernel
theorem dX11_isTerm_21 : decode cX11_isTerm 21 = .ok (.iload_n 2, 1) := by decide +kernel
theorem dX11_isTerm_22 : decode cX11_isTerm 22 = .ok (.ifCond .ne 7, 3) := by decide +kernel
theorem dX11_isTerm_25 : decode cX11_isTerm 25 = .ok (.iconst 1, 1) := by decide +kernel
theorem dX11_isTerm_26 : decode cX11_isTerm 26 = .ok (.goto 4, 3) := by decide +kernel
theorem dX11_isTerm_29 : decode cX11_isTerm 29 = .ok (.iconst 0, 1) := by decide +kernel
theorem dX11_isTerm_30 : decode cX11_isTerm 30 = .ok (.ireturn, 1) := by decide +kernel
theorem dX11_areTerms_0 : decode cX11_areTerms 0 = .ok (.aload_n 0, 1) := by decide +kernel
theorem dX11_areTerms_1 : decode cX11_areTerms 1 = .ok (.iload_n 1, 1) := by decide +kernel
theorem dX11_areTerms_2 : decode cX11_areTerms 2 = .ok (.iload_n 2, 1) := by decide +kernel
theorem dX11_areTerms_3 : decode cX11_areTerms 3 = .ok (.iconst 0, 1) := by decide +kernel
theorem dX11_areTerms_4 : decode cX11_areTerms 4 = .ok (.invokevirtual 106, 3) := by decide +kernel
theorem dX11_areTerms_7 : decode cX11_areTerms 7 = .ok (.ifCond .eq 28, 3) := by decide +kernel
theorem dX11_areTerms_10 : decode cX11_areTerms 10 = .ok (.aload_n 0, 1) := by decide +kernel
theorem dX11_areTerms_11 : decode cX11_areTerms 11 = .ok (.iload_n 1, 1) := by decide +kernel
theorem dX11_areTerms_12 : decode cX11_areTerms 12 = .ok (.iload_n 3, 1) := by decide +kernel
theorem dX11_areTerms_13 : decode cX11_areTerms 13 = .ok (.iconst 1, 1) := by decide +kernel
theorem dX11_areTerms_14 : decode cX11_areTerms 14 = .ok (.invokevirtual 106, 3) := by decide +kernel
theorem dX11_areTerms_17 : decode cX11_areTerms 17 = .ok (.ifCond .eq 18, 3) := by decide +kernel
theorem dX11_areTerms_20 : decode cX11_areTerms 20 = .ok (.aload_n 0, 1) := by decide +kernel
theorem dX11_areTerms_21 : decode cX11_areTerms 21 = .ok (.iload_n 1, 1) := by decide +kernel
theorem dX11_areTerms_22 : decode cX11_areTerms 22 = .ok (.iload 4, 2) := by decide +kernel
theorem dX11_areTerms_24 : decode cX11_areTerms 24 = .ok (.iconst 2, 1) := by decide +kernel
theorem dX11_areTerms_25 : decode cX11_areTerms 25 = .ok (.invokevirtual 106, 3) := by decide +kernel
theorem dX11_areTerms_28 : decode cX11_areTerms 28 = .ok (.ifCond .eq 7, 3) := by decide +kernel
theorem dX11_areTerms_31 : decode cX11_areTerms 31 = .ok (.iconst 1, 1) := by decide +kernel
theorem dX11_areTerms_32 : decode cX11_areTerms 32 = .ok (.goto 4, 3) := by decide +kernel
theorem dX11_areTerms_35 : decode cX11_areTerms 35 = .ok (.iconst 0, 1) := by decide +kernel
theorem dX11_areTerms_36 : decode cX11_areTerms 36 = .ok (.ireturn, 1) := by decide +kernel
theorem dX11_isValue_0 : decode cX11_isValue 0 = .ok (.iload_n 3, 1) := by decide +kernel
theorem dX11_isValue_1 : decode cX11_isValue 1 = .ok (.aload_n 0, 1) := by decide +kernel
theorem dX11_isValue_2 : decode cX11_isValue 2 = .ok (.getfield 13, 3) := by decide +kernel
theorem dX11_isValue_5 : decode cX11_isValue 5 = .ok (.iload_n 1, 1) := by decide +kernel
theorem dX11_isValue_6 : decode cX11_isValue 6 = .ok (.iaload, 1) := by decide +kernel
theorem dX11_isValue_7 : decode cX11_isValue 7 = .ok (.if_icmp .ge 32, 3) := by decide +kernel
theorem dX11_isValue_10 : decode cX11_isValue 10 = .ok (.iload_n 2, 1) := by decide +kernel
theorem dX11_isValue_11 : decode cX11_isValue 11 = .ok (.iconst 0, 1) := by decide +kernel
theorem dX11_isValue_12 : decode cX11_isValue 12 = .ok (.bipush 127, 2) := by decide +kernel
theorem dX11_isValue_14 : decode cX11_isValue 14 = .ok (.invokestatic 102, 3) := by decide +kernel
theorem dX11_isValue_17 : decode cX11_isValue 17 = .ok (.ifCond .ne 14, 3) := by decide +kernel
theorem dX11_isValue_20 : decode cX11_isValue 20 = .ok (.iload 4, 2) := by decide +kernel
theorem dX11_isValue_22 : decode cX11_isValue 22 = .ok (.ifCond .eq 13, 3) := by decide +kernel
theorem dX11_isValue_25 : decode cX11_isValue 25 = .ok (.iload_n 2, 1) := by decide +kernel
theorem dX11_isValue_26 : decode cX11_isValue 26 = .ok (.bipush (-9), 2) := by decide +kernel
theorem dX11_isValue_28 : decode cX11_isValue 28 = .ok (.if_icmp .ne 7, 3) := by decide +kernel
theorem dX11_isValue_31 : decode cX11_isValue 31 = .ok (.iconst 1, 1) := by decide +kernel
theorem dX11_isValue_32 : decode cX11_isValue 32 = .ok (.goto 16, 3) := by decide +kernel
theorem dX11_isValue_35 : decode cX11_isValue 35 = .ok (.iconst 0, 1) := by decide +kernel
theorem dX11_isValue_36 : decode cX11_isValue 36 = .ok (.goto 12, 3) := by decide +kernel
theorem dX11_isValue_39 : decode cX11_isValue 39 = .ok (.iload_n 2, 1) := by decide +kernel
theorem dX11_isValue_40 : decode cX11_isValue 40 = .ok (.ifCond .ne 7, 3) := by decide +kernel
theorem dX11_isValue_43 : decode cX11_isValue 43 = .ok (.iconst 1, 1) := by decide +kernel
theorem dX11_isValue_44 : decode cX11_isValue 44 = .ok (.goto 4, 3) := by decide +kernel
theorem dX11_isValue_47 : decode cX11_isValue 47 = .ok (.iconst 0, 1) := by decide +kernel
theorem dX11_isValue_48 : decode cX11_isValue 48 = .ok (.ireturn, 1) := by decide +kernel
theorem dX11_areValues_0 : decode cX11_areValues 0 = .ok (.aload_n 0, 1) := by decide +kernel
theorem dX11_areValues_1 : decode cX11_areValues 1 = .ok (.iload_n 1, 1) := by decide +kernel
theorem dX11_areValues_2 : decode cX11_areValues 2 = .ok (.iload_n 2, 1) := by decide +kernel
theorem dX11_areValues_3 : decode cX11_areValues 3 = .ok (.iconst 0, 1) := by decide +kernel
theorem dX11_areValues_4 : decode cX11_areValues 4 = .ok (.iload 5, 2) := by decide +kernel
theorem dX11_areValues_6 : decode cX11_areValues 6 = .ok (.invokevirtual 109, 3) := by decide +kernel
theorem dX11_areValues_9 : decode cX11_areValues 9 = .ok (.ifCond .eq 32, 3) := by decide +kernel
theorem dX11_areValues_12 : decode cX11_areValues 12 = .ok (.aload_n 0, 1) := by decide +kernel
theorem dX11_areValues_13 : decode cX11_areValues 13 = .ok (.iload_n 1, 1) := by decide +kernel
theorem dX11_areValues_14 : decode cX11_areValues 14 = .ok (.iload_n 3, 1) := by decide +kernel
theorem dX11_areValues_15 : decode cX11_areValues 15 = .ok (.iconst 1, 1) := by decide +kernel
theorem dX11_areValues_16 : decode cX11_areValues 16 = .ok (.iload 5, 2) := by decide +kernel
theorem dX11_areValues_18 : decode cX11_areValues 18 = .ok (.invokevirtual 109, 3) := by decide +kernel
theorem dX11_areValues_21 : decode cX11_areValues 21 = .ok (.ifCond .eq 20, 3) := by decide +kernel
theorem dX11_areValues_24 : decode cX11_areValues 24 = .ok (.aload_n 0, 1) := by decide +kernel
theorem dX11_areValues_25 : decode cX11_areValues 25 = .ok (.iload_n 1, 1) := by decide +kernel
theorem dX11_areValues_26 : decode cX11_areValues 26 = .ok (.iload 4, 2) := by decide +kernel
theorem dX11_areValues_28 : decode cX11_areValues 28 = .ok (.iconst 2, 1) := by decide +kernel
theorem dX11_areValues_29 : decode cX11_areValues 29 = .ok (.iload 5, 2) := by decide +kernel
theorem dX11_areValues_31 : decode cX11_areValues 31 = .ok (.invokevirtual 109, 3) := by decide +kernel
theorem dX11_areValues_34 : decode cX11_areValues 34 = .ok (.ifCond .eq 7, 3) := by decide +kernel
theorem dX11_areValues_37 : decode cX11_areValues 37 = .ok (.iconst 1, 1) := by decide +kernel
theorem dX11_areValues_38 : decode cX11_areValues 38 = .ok (.goto 4, 3) := by decide +kernel
theorem dX11_areValues_41 : decode cX11_areValues 41 = .ok (.iconst 0, 1) := by decide +kernel
theorem dX11_areValues_42 : decode cX11_areValues 42 = .ok (.ireturn, 1) := by decide +kernel
theorem dX11_declare_0 : decode cX11_declare 0 = .ok (.iload_n 1, 1) := by decide +kernel
theorem dX11_declare_1 : decode cX11_declare 1 = .ok (.iconst 0, 1) := by decide +kernel
theorem dX11_declare_2 : decode cX11_declare 2 = .ok (.bipush 9, 2) := by decide +kernel
theorem dX11_declare_4 : decode cX11_declare 4 = .ok (.invokestatic 102, 3) := by decide +kernel
theorem dX11_declare_7 : decode cX11_declare 7 = .ok (.ifCond .eq 16, 3) := by decide +kernel
theorem dX11_declare_10 : decode cX11_declare 10 = .ok (.iload_n 3, 1) := by decide +kernel
theorem dX11_declare_11 : decode cX11_declare 11 = .ok (.iconst 0, 1) := by decide +kernel
theorem dX11_declare_12 : decode cX11_declare 12 = .ok (.iconst 3, 1) := by decide +kernel
theorem dX11_declare_13 : decode cX11_declare 13 = .ok (.invokestatic 102, 3) := by decide +kernel
theorem dX11_declare_16 : decode cX11_declare 16 = .ok (.ifCond .eq 7, 3) := by decide +kernel
theorem dX11_declare_19 : decode cX11_declare 19 = .ok (.iconst 1, 1) := by decide +kernel
theorem dX11_declare_20 : decode cX11_declare 20 = .ok (.goto 4, 3) := by decide +kernel
theorem dX11_declare_23 : decode cX11_declare 23 = .ok (.iconst 0, 1) := by decide +kernel
theorem dX11_declare_24 : decode cX11_declare 24 = .ok (.istore 5, 2) := by decide +kernel
theorem dX11_declare_26 : decode cX11_declare 26 = .ok (.iload_n 2, 1) := by decide +kernel
theorem dX11_declare_27 : decode cX11_declare 27 = .ok (.iconst 1, 1) := by decide +kernel
theorem dX11_declare_28 : decode cX11_declare 28 = .ok (.iconst 3, 1) := by decide +kernel
theorem dX11_declare_29 : decode cX11_declare 29 = .ok (.invokestatic 102, 3) := by decide +kernel
theorem dX11_declare_32 : decode cX11_declare 32 = .ok (.ifCond .eq 32, 3) := by decide +kernel
theorem dX11_declare_35 : decode cX11_declare 35 = .ok (.iload_n 3, 1) := by decide +kernel
theorem dX11_declare_36 : decode cX11_declare 36 = .ok (.ifCond .ne 16, 3) := by decide +kernel
theorem dX11_declare_39 : decode cX11_declare 39 = .ok (.iload 4, 2) := by decide +kernel
theorem dX11_declare_41 : decode cX11_declare 41 = .ok (.iconst 1, 1) := by decide +kernel
theorem dX11_declare_42 : decode cX11_declare 42 = .ok (.iload_n 2, 1) := by decide +kernel
theorem dX11_declare_43 : decode cX11_declare 43 = .ok (.invokestatic 102, 3) := by decide +kernel
theorem dX11_declare_46 : decode cX11_declare 46 = .ok (.ifCond .eq 18, 3) := by decide +kernel
theorem dX11_declare_49 : decode cX11_declare 49 = .ok (.goto 11, 3) := by decide +kernel
theorem dX11_declare_52 : decode cX11_declare 52 = .ok (.iload 4, 2) := by decide +kernel
theorem dX11_declare_54 : decode cX11_declare 54 = .ok (.iload_n 2, 1) := by decide +kernel
theorem dX11_declare_55 : decode cX11_declare 55 = .ok (.iconst 1, 1) := by decide +kernel
theorem dX11_declare_56 : decode cX11_declare 56 = .ok (.isub, 1) := by decide +kernel
theorem dX11_declare_57 : decode cX11_declare 57 = .ok (.if_icmp .ne 7, 3) := by decide +kernel
theorem dX11_declare_60 : decode cX11_declare 60 = .ok (.iconst 1, 1) := by decide +kernel
theorem dX11_declare_61 : decode cX11_declare 61 = .ok (.goto 4, 3) := by decide +kernel
theorem dX11_declare_64 : decode cX11_declare 64 = .ok (.iconst 0, 1) := by decide +kernel
theorem dX11_declare_65 : decode cX11_declare 65 = .ok (.istore 6, 2) := by decide +kernel
theorem dX11_declare_67 : decode cX11_declare 67 = .ok (.aload_n 0, 1) := by decide +kernel
theorem dX11_declare_68 : decode cX11_declare 68 = .ok (.iload 5, 2) := by decide +kernel
theorem dX11_declare_70 : decode cX11_declare 70 = .ok (.ifCond .ne 7, 3) := by decide +kernel
theorem dX11_declare_73 : decode cX11_declare 73 = .ok (.iconst 1, 1) := by decide +kernel
theorem dX11_declare_74 : decode cX11_declare 74 = .ok (.goto 26, 3) := by decide +kernel
theorem dX11_declare_77 : decode cX11_declare 77 = .ok (.iload 6, 2) := by decide +kernel
theorem dX11_declare_79 : decode cX11_declare 79 = .ok (.ifCond .ne 7, 3) := by decide +kernel
theorem dX11_declare_82 : decode cX11_declare 82 = .ok (.iconst 2, 1) := by decide +kernel
theorem dX11_declare_83 : decode cX11_declare 83 = .ok (.goto 17, 3) := by decide +kernel
theorem dX11_declare_86 : decode cX11_declare 86 = .ok (.aload_n 0, 1) := by decide +kernel
theorem dX11_declare_87 : decode cX11_declare 87 = .ok (.getfield 7, 3) := by decide +kernel
theorem dX11_declare_90 : decode cX11_declare 90 = .ok (.iload_n 1, 1) := by decide +kernel
theorem dX11_declare_91 : decode cX11_declare 91 = .ok (.baload, 1) := by decide +kernel
theorem dX11_declare_92 : decode cX11_declare 92 = .ok (.ifCond .eq 7, 3) := by decide +kernel
theorem dX11_declare_95 : decode cX11_declare 95 = .ok (.iconst 3, 1) := by decide +kernel
theorem dX11_declare_96 : decode cX11_declare 96 = .ok (.goto 4, 3) := by decide +kernel
theorem dX11_declare_99 : decode cX11_declare 99 = .ok (.iconst 0, 1) := by decide +kernel
theorem dX11_declare_100 : decode cX11_declare 100 = .ok (.invokevirtual 113, 3) := by decide +kernel
theorem dX11_declare_103 : decode cX11_declare 103 = .ok (.ifCond .eq 4, 3) := by decide +kernel
theorem dX11_declare_106 : decode cX11_declare 106 = .ok (.return_, 1) := by decide +kernel
theorem dX11_declare_107 : decode cX11_declare 107 = .ok (.aload_n 0, 1) := by decide +kernel
theorem dX11_declare_108 : decode cX11_declare 108 = .ok (.getfield 7, 3) := by decide +kernel
theorem dX11_declare_111 : decode cX11_declare 111 = .ok (.iload_n 1, 1) := by decide +kernel
theorem dX11_declare_112 : decode cX11_declare 112 = .ok (.iconst 1, 1) := by decide +kernel
theorem dX11_declare_113 : decode cX11_declare 113 = .ok (.bastore, 1) := by decide +kernel
theorem dX11_declare_114 : decode cX11_declare 114 = .ok (.aload_n 0, 1) := by decide +kernel
theorem dX11_declare_115 : decode cX11_declare 115 = .ok (.getfield 13, 3) := by decide +kernel
theorem dX11_declare_118 : decode cX11_declare 118 = .ok (.iload_n 1, 1) := by decide +kernel
theorem dX11_declare_119 : decode cX11_declare 119 = .ok (.iload_n 2, 1) := by decide +kernel
theorem dX11_declare_120 : decode cX11_declare 120 = .ok (.iastore, 1) := by decide +kernel
theorem dX11_declare_121 : decode cX11_declare 121 = .ok (.aload_n 0, 1) := by decide +kernel
theorem dX11_declare_122 : decode cX11_declare 122 = .ok (.getfield 17, 3) := by decide +kernel
theorem dX11_declare_125 : decode cX11_declare 125 = .ok (.iload_n 1, 1) := by decide +kernel
theorem dX11_declare_126 : decode cX11_declare 126 = .ok (.iload_n 3, 1) := by decide +kernel
theorem dX11_declare_127 : decode cX11_declare 127 = .ok (.iastore, 1) := by decide +kernel
theorem dX11_declare_128 : decode cX11_declare 128 = .ok (.aload_n 0, 1) := by decide +kernel
theorem dX11_declare_129 : decode cX11_declare 129 = .ok (.getfield 20, 3) := by decide +kernel
theorem dX11_declare_132 : decode cX11_declare 132 = .ok (.iload_n 1, 1) := by decide +kernel
theorem dX11_declare_133 : decode cX11_declare 133 = .ok (.iload 4, 2) := by decide +kernel
theorem dX11_declare_135 : decode cX11_declare 135 = .ok (.iastore, 1) := by decide +kernel
theorem dX11_declare_136 : decode cX11_declare 136 = .ok (.return_, 1) := by decide +kernel
theorem dX11_fact_0 : decode cX11_fact 0 = .ok (.aload_n 0, 1) := by decide +kernel
theorem dX11_fact_1 : decode cX11_fact 1 = .ok (.iload_n 1, 1) := by decide +kernel
theorem dX11_fact_2 : decode cX11_fact 2 = .ok (.invokevirtual 117, 3) := by decide +kernel
theorem dX11_fact_5 : decode cX11_fact 5 = .ok (.ifCond .eq 52, 3) := by decide +kernel
theorem dX11_fact_8 : decode cX11_fact 8 = .ok (.aload_n 0, 1) := by decide +kernel
theorem dX11_fact_9 : decode cX11_fact 9 = .ok (.iload_n 1, 1) := by decide +kernel
theorem dX11_fact_10 : decode cX11_fact 10 = .ok (.iload_n 2, 1) := by decide +kernel
theorem dX11_fact_11 : decode cX11_fact 11 = .ok (.iload_n 3, 1) := by decide +kernel
theorem dX11_fact_12 : decode cX11_fact 12 = .ok (.iload 4, 2) := by decide +kernel
theorem dX11_fact_14 : decode cX11_fact 14 = .ok (.iconst 0, 1) := by decide +kernel
theorem dX11_fact_15 : decode cX11_fact 15 = .ok (.invokevirtual 120, 3) := by decide +kernel
theorem dX11_fact_18 : decode cX11_fact 18 = .ok (.ifCond .eq 39, 3) := by decide +kernel
theorem dX11_fact_21 : decode cX11_fact 21 = .ok (.iload 5, 2) := by decide +kernel
theorem dX11_fact_23 : decode cX11_fact 23 = .ok (.iconst 1, 1) := by decide +kernel
theorem dX11_fact_24 : decode cX11_fact 24 = .ok (.bipush 100, 2) := by decide +kernel
theorem dX11_fact_26 : decode cX11_fact 26 = .ok (.invokestatic 102, 3) := by decide +kernel
theorem dX11_fact_29 : decode cX11_fact 29 = .ok (.ifCond .eq 28, 3) := by decide +kernel
theorem dX11_fact_32 : decode cX11_fact 32 = .ok (.iload 6, 2) := by decide +kernel
theorem dX11_fact_34 : decode cX11_fact 34 = .ok (.iconst 0, 1) := by decide +kernel
theorem dX11_fact_35 : decode cX11_fact 35 = .ok (.iconst 3, 1) := by decide +kernel
theorem dX11_fact_36 : decode cX11_fact 36 = .ok (.invokestatic 102, 3) := by decide +kernel
theorem dX11_fact_39 : decode cX11_fact 39 = .ok (.ifCond .eq 18, 3) := by decide +kernel
theorem dX11_fact_42 : decode cX11_fact 42 = .ok (.iload 7, 2) := by decide +kernel
theorem dX11_fact_44 : decode cX11_fact 44 = .ok (.iload 6, 2) := by decide +kernel
theorem dX11_fact_46 : decode cX11_fact 46 = .ok (.iconst 3, 1) := by decide +kernel
theorem dX11_fact_47 : decode cX11_fact 47 = .ok (.invokestatic 102, 3) := by decide +kernel
theorem dX11_fact_50 : decode cX11_fact 50 = .ok (.ifCond .eq 7, 3) := by decide +kernel
theorem dX11_fact_53 : decode cX11_fact 53 = .ok (.iconst 1, 1) := by decide +kernel
theorem dX11_fact_54 : decode cX11_fact 54 = .ok (.goto 4, 3) := by decide +kernel
theorem dX11_fact_57 : decode cX11_fact 57 = .ok (.iconst 0, 1) := by decide +kernel
theorem dX11_fact_58 : decode cX11_fact 58 = .ok (.istore 8, 2) := by decide +kernel
theorem dX11_fact_60 : decode cX11_fact 60 = .ok (.aload_n 0, 1) := by decide +kernel
theorem dX11_fact_61 : decode cX11_fact 61 = .ok (.aload_n 0, 1) := by decide +kernel
theorem dX11_fact_62 : decode cX11_fact 62 = .ok (.iload_n 1, 1) := by decide +kernel
theorem dX11_fact_63 : decode cX11_fact 63 = .ok (.invokevirtual 117, 3) := by decide +kernel
theorem dX11_fact_66 : decode cX11_fact 66 = .ok (.ifCond .ne 7, 3) := by decide +kernel
theorem dX11_fact_69 : decode cX11_fact 69 = .ok (.iconst 1, 1) := by decide +kernel
theorem dX11_fact_70 : decode cX11_fact 70 = .ok (.goto 26, 3) := by decide +kernel
theorem dX11_fact_73 : decode cX11_fact 73 = .ok (.iload 8, 2) := by decide +kernel
theorem dX11_fact_75 : decode cX11_fact 75 = .ok (.ifCond .ne 7, 3) := by decide +kernel
theorem dX11_fact_78 : decode cX11_fact 78 = .ok (.iconst 2, 1) := by decide +kernel
theorem dX11_fact_79 : decode cX11_fact 79 = .ok (.goto 17, 3) := by decide +kernel
theorem dX11_fact_82 : decode cX11_fact 82 = .ok (.aload_n 0, 1) := by decide +kernel
theorem dX11_fact_83 : decode cX11_fact 83 = .ok (.getfield 124, 3) := by decide +kernel
theorem dX11_fact_86 : decode cX11_fact 86 = .ok (.bipush 24, 2) := by decide +kernel
theorem dX11_fact_88 : decode cX11_fact 88 = .ok (.if_icmp .ne 7, 3) := by decide +kernel
theorem dX11_fact_91 : decode cX11_fact 91 = .ok (.iconst 3, 1) := by decide +kernel
theorem dX11_fact_92 : decode cX11_fact 92 = .ok (.goto 4, 3) := by decide +kernel
theorem dX11_fact_95 : decode cX11_fact 95 = .ok (.iconst 0, 1) := by decide +kernel
theorem dX11_fact_96 : decode cX11_fact 96 = .ok (.invokevirtual 113, 3) := by decide +kernel
theorem dX11_fact_99 : decode cX11_fact 99 = .ok (.ifCond .eq 5, 3) := by decide +kernel
theorem dX11_fact_102 : decode cX11_fact 102 = .ok (.iconst 0, 1) := by decide +kernel
theorem dX11_fact_103 : decode cX11_fact 103 = .ok (.ireturn, 1) := by decide +kernel
theorem dX11_fact_104 : decode cX11_fact 104 = .ok (.aload_n 0, 1) := by decide +kernel
theorem dX11_fact_105 : decode cX11_fact 105 = .ok (.getfield 26, 3) := by decide +kernel
theorem dX11_fact_108 : decode cX11_fact 108 = .ok (.aload_n 0, 1) := by decide +kernel
theorem dX11_fact_109 : decode cX11_fact 109 = .ok (.getfield 124, 3) := by decide +kernel
theorem dX11_fact_112 : decode cX11_fact 112 = .ok (.iload_n 1, 1) := by decide +kernel
theorem dX11_fact_113 : decode cX11_fact 113 = .ok (.iastore, 1) := by decide +kernel
theorem dX11_fact_114 : decode cX11_fact 114 = .ok (.aload_n 0, 1) := by decide +kernel
theorem dX11_fact_115 : decode cX11_fact 115 = .ok (.getfield 29, 3) := by decide +kernel
theorem dX11_fact_118 : decode cX11_fact 118 = .ok (.iconst 3, 1) := by decide +kernel
theorem dX11_fact_119 : decode cX11_fact 119 = .ok (.aload_n 0, 1) := by decide +kernel
theorem dX11_fact_120 : decode cX11_fact 120 = .ok (.getfield 124, 3) := by decide +kernel
theorem dX11_fact_123 : decode cX11_fact 123 = .ok (.imul, 1) := by decide +kernel
theorem dX11_fact_124 : decode cX11_fact 124 = .ok (.iload_n 2, 1) := by decide +kernel
theorem dX11_fact_125 : decode cX11_fact 125 = .ok (.iastore, 1) := by decide +kernel
theorem dX11_fact_126 : decode cX11_fact 126 = .ok (.aload_n 0, 1) := by decide +kernel
theorem dX11_fact_127 : decode cX11_fact 127 = .ok (.getfield 29, 3) := by decide +kernel
theorem dX11_fact_130 : decode cX11_fact 130 = .ok (.iconst 3, 1) := by decide +kernel
theorem dX11_fact_131 : decode cX11_fact 131 = .ok (.aload_n 0, 1) := by decide +kernel
theorem dX11_fact_132 : decode cX11_fact 132 = .ok (.getfield 124, 3) := by decide +kernel
theorem dX11_fact_135 : decode cX11_fact 135 = .ok (.imul, 1) := by decide +kernel
theorem dX11_fact_136 : decode cX11_fact 136 = .ok (.iconst 1, 1) := by decide +kernel
theorem dX11_fact_137 : decode cX11_fact 137 = .ok (.iadd, 1) := by decide +kernel
theorem dX11_fact_138 : decode cX11_fact 138 = .ok (.iload_n 3, 1) := by decide +kernel
theorem dX11_fact_139 : decode cX11_fact 139 = .ok (.iastore, 1) := by decide +kernel
theorem dX11_fact_140 : decode cX11_fact 140 = .ok (.aload_n 0, 1) := by decide +kernel
theorem dX11_fact_141 : decode cX11_fact 141 = .ok (.getfield 29, 3) := by decide +kernel
theorem dX11_fact_144 : decode cX11_fact 144 = .ok (.iconst 3, 1) := by decide +kernel
theorem dX11_fact_145 : decode cX11_fact 145 = .ok (.aload_n 0, 1) := by decide +kernel
theorem dX11_fact_146 : decode cX11_fact 146 = .ok (.getfield 124, 3) := by decide +kernel
theorem dX11_fact_149 : decode cX11_fact 149 = .ok (.imul, 1) := by decide +kernel
theorem dX11_fact_150 : decode cX11_fact 150 = .ok (.iconst 2, 1) := by decide +kernel
theorem dX11_fact_151 : decode cX11_fact 151 = .ok (.iadd, 1) := by decide +kernel
theorem dX11_fact_152 : decode cX11_fact 152 = .ok (.iload 4, 2) := by decide +kernel
theorem dX11_fact_154 : decode cX11_fact 154 = .ok (.iastore, 1) := by decide +kernel
theorem dX11_fact_155 : decode cX11_fact 155 = .ok (.aload_n 0, 1) := by decide +kernel
theorem dX11_fact_156 : decode cX11_fact 156 = .ok (.getfield 32, 3) := by decide +kernel
theorem dX11_fact_159 : decode cX11_fact 159 = .ok (.aload_n 0, 1) := by decide +kernel
theorem dX11_fact_160 : decode cX11_fact 160 = .ok (.getfield 124, 3) := by decide +kernel
theorem dX11_fact_163 : decode cX11_fact 163 = .ok (.iload 5, 2) := by decide +kernel
theorem dX11_fact_165 : decode cX11_fact 165 = .ok (.iastore, 1) := by decide +kernel
theorem dX11_fact_166 : decode cX11_fact 166 = .ok (.aload_n 0, 1) := by decide +kernel
theorem dX11_fact_167 : decode cX11_fact 167 = .ok (.getfield 35, 3) := by decide +kernel
theorem dX11_fact_170 : decode cX11_fact 170 = .ok (.aload_n 0, 1) := by decide +kernel
theorem dX11_fact_171 : decode cX11_fact 171 = .ok (.getfield 124, 3) := by decide +kernel
theorem dX11_fact_174 : decode cX11_fact 174 = .ok (.iload 6, 2) := by decide +kernel
theorem dX11_fact_176 : decode cX11_fact 176 = .ok (.iastore, 1) := by decide +kernel
theorem dX11_fact_177 : decode cX11_fact 177 = .ok (.aload_n 0, 1) := by decide +kernel
theorem dX11_fact_178 : decode cX11_fact 178 = .ok (.getfield 38, 3) := by decide +kernel
theorem dX11_fact_181 : decode cX11_fact 181 = .ok (.aload_n 0, 1) := by decide +kernel
theorem dX11_fact_182 : decode cX11_fact 182 = .ok (.getfield 124, 3) := by decide +kernel
theorem dX11_fact_185 : decode cX11_fact 185 = .ok (.iload 7, 2) := by decide +kernel
theorem dX11_fact_187 : decode cX11_fact 187 = .ok (.iastore, 1) := by decide +kernel
theorem dX11_fact_188 : decode cX11_fact 188 = .ok (.aload_n 0, 1) := by decide +kernel
theorem dX11_fact_189 : decode cX11_fact 189 = .ok (.getfield 41, 3) := by decide +kernel
theorem dX11_fact_192 : decode cX11_fact 192 = .ok (.aload_n 0, 1) := by decide +kernel
theorem dX11_fact_193 : decode cX11_fact 193 = .ok (.getfield 124, 3) := by decide +kernel
theorem dX11_fact_196 : decode cX11_fact 196 = .ok (.iconst 0, 1) := by decide +kernel
theorem dX11_fact_197 : decode cX11_fact 197 = .ok (.bastore, 1) := by decide +kernel
theorem dX11_fact_198 : decode cX11_fact 198 = .ok (.aload_n 0, 1) := by decide +kernel
theorem dX11_fact_199 : decode cX11_fact 199 = .ok (.dup, 1) := by decide +kernel
theorem dX11_fact_200 : decode cX11_fact 200 = .ok (.getfield 124, 3) := by decide +kernel
theorem dX11_fact_203 : decode cX11_fact 203 = .ok (.iconst 1, 1) := by decide +kernel
theorem dX11_fact_204 : decode cX11_fact 204 = .ok (.iadd, 1) := by decide +kernel
theorem dX11_fact_205 : decode cX11_fact 205 = .ok (.putfield 124, 3) := by decide +kernel
theorem dX11_fact_208 : decode cX11_fact 208 = .ok (.aload_n 0, 1) := by decide +kernel
theorem dX11_fact_209 : decode cX11_fact 209 = .ok (.invokevirtual 127, 3) := by decide +kernel
theorem dX11_fact_212 : decode cX11_fact 212 = .ok (.ifCond .ne 26, 3) := by decide +kernel
theorem dX11_fact_215 : decode cX11_fact 215 = .ok (.aload_n 0, 1) := by decide +kernel
theorem dX11_fact_216 : decode cX11_fact 216 = .ok (.dup, 1) := by decide +kernel
theorem dX11_fact_217 : decode cX11_fact 217 = .ok (.getfield 124, 3) := by decide +kernel
theorem dX11_fact_220 : decode cX11_fact 220 = .ok (.iconst 1, 1) := by decide +kernel
theorem dX11_fact_221 : decode cX11_fact 221 = .ok (.isub, 1) := by decide +kernel
theorem dX11_fact_222 : decode cX11_fact 222 = .ok (.putfield 124, 3) := by decide +kernel
theorem dX11_fact_225 : decode cX11_fact 225 = .ok (.aload_n 0, 1) := by decide +kernel
theorem dX11_fact_226 : decode cX11_fact 226 = .ok (.invokevirtual 127, 3) := by decide +kernel
theorem dX11_fact_229 : decode cX11_fact 229 = .ok (.pop, 1) := by decide +kernel
theorem dX11_fact_230 : decode cX11_fact 230 = .ok (.aload_n 0, 1) := by decide +kernel
theorem dX11_fact_231 : decode cX11_fact 231 = .ok (.iconst 3, 1) := by decide +kernel
theorem dX11_fact_232 : decode cX11_fact 232 = .ok (.invokevirtual 113, 3) := by decide +kernel
theorem dX11_fact_235 : decode cX11_fact 235 = .ok (.pop, 1) := by decide +kernel
theorem dX11_fact_236 : decode cX11_fact 236 = .ok (.iconst 0, 1) := by decide +kernel
theorem dX11_fact_237 : decode cX11_fact 237 = .ok (.ireturn, 1) := by decide +kernel
theorem dX11_fact_238 : decode cX11_fact 238 = .ok (.aload_n 0, 1) := by decide +kernel
theorem dX11_fact_239 : decode cX11_fact 239 = .ok (.getfield 124, 3) := by decide +kernel
theorem dX11_fact_242 : decode cX11_fact 242 = .ok (.iconst 1, 1) := by decide +kernel
theorem dX11_fact_243 : decode cX11_fact 243 = .ok (.isub, 1) := by decide +kernel
theorem dX11_fact_244 : decode cX11_fact 244 = .ok (.ireturn, 1) := by decide +kernel
theorem dX11_drop_0 : decode cX11_drop 0 = .ok (.iload_n 1, 1) := by decide +kernel
theorem dX11_drop_1 : decode cX11_drop 1 = .ok (.iconst 0, 1) := by decide +kernel
theorem dX11_drop_2 : decode cX11_drop 2 = .ok (.aload_n 0, 1) := by decide +kernel
theorem dX11_drop_3 : decode cX11_drop 3 = .ok (.getfield 124, 3) := by decide +kernel
theorem dX11_drop_6 : decode cX11_drop 6 = .ok (.iconst 1, 1) := by decide +kernel
theorem dX11_drop_7 : decode cX11_drop 7 = .ok (.isub, 1) := by decide +kernel
theorem dX11_drop_8 : decode cX11_drop 8 = .ok (.invokestatic 102, 3) := by decide +kernel
theorem dX11_drop_11 : decode cX11_drop 11 = .ok (.istore_n 2, 1) := by decide +kernel
theorem dX11_drop_12 : decode cX11_drop 12 = .ok (.aload_n 0, 1) := by decide +kernel
theorem dX11_drop_13 : decode cX11_drop 13 = .ok (.iload_n 2, 1) := by decide +kernel
theorem dX11_drop_14 : decode cX11_drop 14 = .ok (.ifCond .ne 7, 3) := by decide +kernel
theorem dX11_drop_17 : decode cX11_drop 17 = .ok (.iconst 1, 1) := by decide +kernel
theorem dX11_drop_18 : decode cX11_drop 18 = .ok (.goto 17, 3) := by decide +kernel
theorem dX11_drop_21 : decode cX11_drop 21 = .ok (.aload_n 0, 1) := by decide +kernel
theorem dX11_drop_22 : decode cX11_drop 22 = .ok (.getfield 41, 3) := by decide +kernel
theorem dX11_drop_25 : decode cX11_drop 25 = .ok (.iload_n 1, 1) := by decide +kernel
theorem dX11_drop_26 : decode cX11_drop 26 = .ok (.baload, 1) := by decide +kernel
theorem dX11_drop_27 : decode cX11_drop 27 = .ok (.ifCond .eq 7, 3) := by decide +kernel
theorem dX11_drop_30 : decode cX11_drop 30 = .ok (.iconst 2, 1) := by decide +kernel
theorem dX11_drop_31 : decode cX11_drop 31 = .ok (.goto 4, 3) := by decide +kernel
theorem dX11_drop_34 : decode cX11_drop 34 = .ok (.iconst 0, 1) := by decide +kernel
theorem dX11_drop_35 : decode cX11_drop 35 = .ok (.invokevirtual 113, 3) := by decide +kernel
theorem dX11_drop_38 : decode cX11_drop 38 = .ok (.ifCond .eq 5, 3) := by decide +kernel
theorem dX11_drop_41 : decode cX11_drop 41 = .ok (.iconst 0, 1) := by decide +kernel
theorem dX11_drop_42 : decode cX11_drop 42 = .ok (.ireturn, 1) := by decide +kernel
theorem dX11_drop_43 : decode cX11_drop 43 = .ok (.aload_n 0, 1) := by decide +kernel
theorem dX11_drop_44 : decode cX11_drop 44 = .ok (.getfield 41, 3) := by decide +kernel
theorem dX11_drop_47 : decode cX11_drop 47 = .ok (.iload_n 1, 1) := by decide +kernel
theorem dX11_drop_48 : decode cX11_drop 48 = .ok (.iconst 1, 1) := by decide +kernel
theorem dX11_drop_49 : decode cX11_drop 49 = .ok (.bastore, 1) := by decide +kernel
theorem dX11_drop_50 : decode cX11_drop 50 = .ok (.aload_n 0, 1) := by decide +kernel
theorem dX11_drop_51 : decode cX11_drop 51 = .ok (.invokevirtual 127, 3) := by decide +kernel
theorem dX11_drop_54 : decode cX11_drop 54 = .ok (.ifCond .ne 23, 3) := by decide +kernel
theorem dX11_drop_57 : decode cX11_drop 57 = .ok (.aload_n 0, 1) := by decide +kernel
theorem dX11_drop_58 : decode cX11_drop 58 = .ok (.getfield 41, 3) := by decide +kernel
theorem dX11_drop_61 : decode cX11_drop 61 = .ok (.iload_n 1, 1) := by decide +kernel
theorem dX11_drop_62 : decode cX11_drop 62 = .ok (.iconst 0, 1) := by decide +kernel
theorem dX11_drop_63 : decode cX11_drop 63 = .ok (.bastore, 1) := by decide +kernel
theorem dX11_drop_64 : decode cX11_drop 64 = .ok (.aload_n 0, 1) := by decide +kernel
theorem dX11_drop_65 : decode cX11_drop 65 = .ok (.invokevirtual 127, 3) := by decide +kernel
theorem dX11_drop_68 : decode cX11_drop 68 = .ok (.pop, 1) := by decide +kernel
theorem dX11_drop_69 : decode cX11_drop 69 = .ok (.aload_n 0, 1) := by decide +kernel
theorem dX11_drop_70 : decode cX11_drop 70 = .ok (.iconst 2, 1) := by decide +kernel
theorem dX11_drop_71 : decode cX11_drop 71 = .ok (.invokevirtual 113, 3) := by decide +kernel
theorem dX11_drop_74 : decode cX11_drop 74 = .ok (.pop, 1) := by decide +kernel
theorem dX11_drop_75 : decode cX11_drop 75 = .ok (.iconst 0, 1) := by decide +kernel
theorem dX11_drop_76 : decode cX11_drop 76 = .ok (.ireturn, 1) := by decide +kernel
theorem dX11_drop_77 : decode cX11_drop 77 = .ok (.iconst 0, 1) := by decide +kernel
theorem dX11_drop_78 : decode cX11_drop 78 = .ok (.istore_n 3, 1) := by decide +kernel
theorem dX11_drop_79 : decode cX11_drop 79 = .ok (.iconst 0, 1) := by decide +kernel
theorem dX11_drop_80 : decode cX11_drop 80 = .ok (.istore 4, 2) := by decide +kernel
theorem dX11_drop_82 : decode cX11_drop 82 = .ok (.iload 4, 2) := by decide +kernel
theorem dX11_drop_84 : decode cX11_drop 84 = .ok (.aload_n 0, 1) := by decide +kernel
theorem dX11_drop_85 : decode cX11_drop 85 = .ok (.getfield 124, 3) := by decide +kernel
theorem dX11_drop_88 : decode cX11_drop 88 = .ok (.if_icmp .ge 27, 3) := by decide +kernel
theorem dX11_drop_91 : decode cX11_drop 91 = .ok (.iload_n 3, 1) := by decide +kernel
theorem dX11_drop_92 : decode cX11_drop 92 = .ok (.aload_n 0, 1) := by decide +kernel
theorem dX11_drop_93 : decode cX11_drop 93 = .ok (.getfield 41, 3) := by decide +kernel
theorem dX11_drop_96 : decode cX11_drop 96 = .ok (.iload 4, 2) := by decide +kernel
theorem dX11_drop_98 : decode cX11_drop 98 = .ok (.baload, 1) := by decide +kernel
theorem dX11_drop_99 : decode cX11_drop 99 = .ok (.ifCond .eq 7, 3) := by decide +kernel
theorem dX11_drop_102 : decode cX11_drop 102 = .ok (.iconst 0, 1) := by decide +kernel
theorem dX11_drop_103 : decode cX11_drop 103 = .ok (.goto 4, 3) := by decide +kernel
theorem dX11_drop_106 : decode cX11_drop 106 = .ok (.iconst 1, 1) := by decide +kernel
theorem dX11_drop_107 : decode cX11_drop 107 = .ok (.iadd, 1) := by decide +kernel
theorem dX11_drop_108 : decode cX11_drop 108 = .ok (.istore_n 3, 1) := by decide +kernel
theorem dX11_drop_109 : decode cX11_drop 109 = .ok (.iinc 4 1, 3) := by decide +kernel
theorem dX11_drop_112 : decode cX11_drop 112 = .ok (.goto (-30), 3) := by decide +kernel
theorem dX11_drop_115 : decode cX11_drop 115 = .ok (.iload_n 3, 1) := by decide +kernel
theorem dX11_drop_116 : decode cX11_drop 116 = .ok (.ireturn, 1) := by decide +kernel
theorem dX11_pass_0 : decode cX11_pass 0 = .ok (.aload_n 0, 1) := by decide +kernel
theorem dX11_pass_1 : decode cX11_pass 1 = .ok (.aload_n 0, 1) := by decide +kernel
theorem dX11_pass_2 : decode cX11_pass 2 = .ok (.getfield 131, 3) := by decide +kernel
theorem dX11_pass_5 : decode cX11_pass 5 = .ok (.iconst 3, 1) := by decide +kernel
theorem dX11_pass_6 : decode cX11_pass 6 = .ok (.if_icmp .ne 7, 3) := by decide +kernel
theorem dX11_pass_9 : decode cX11_pass 9 = .ok (.iconst 1, 1) := by decide +kernel
theorem dX11_pass_10 : decode cX11_pass 10 = .ok (.goto 4, 3) := by decide +kernel
theorem dX11_pass_13 : decode cX11_pass 13 = .ok (.iconst 0, 1) := by decide +kernel
theorem dX11_pass_14 : decode cX11_pass 14 = .ok (.invokevirtual 113, 3) := by decide +kernel
theorem dX11_pass_17 : decode cX11_pass 17 = .ok (.ifCond .eq 5, 3) := by decide +kernel
theorem dX11_pass_20 : decode cX11_pass 20 = .ok (.iconst 0, 1) := by decide +kernel
theorem dX11_pass_21 : decode cX11_pass 21 = .ok (.ireturn, 1) := by decide +kernel
theorem dX11_pass_22 : decode cX11_pass 22 = .ok (.aload_n 0, 1) := by decide +kernel
theorem dX11_pass_23 : decode cX11_pass 23 = .ok (.dup, 1) := by decide +kernel
theorem dX11_pass_24 : decode cX11_pass 24 = .ok (.getfield 131, 3) := by decide +kernel
theorem dX11_pass_27 : decode cX11_pass 27 = .ok (.iconst 1, 1) := by decide +kernel
theorem dX11_pass_28 : decode cX11_pass 28 = .ok (.iadd, 1) := by decide +kernel
theorem dX11_pass_29 : decode cX11_pass 29 = .ok (.putfield 131, 3) := by decide +kernel
theorem dX11_pass_32 : decode cX11_pass 32 = .ok (.aload_n 0, 1) := by decide +kernel
theorem dX11_pass_33 : decode cX11_pass 33 = .ok (.getfield 131, 3) := by decide +kernel
theorem dX11_pass_36 : decode cX11_pass 36 = .ok (.ireturn, 1) := by decide +kernel
theorem dX11_head_0 : decode cX11_head 0 = .ok (.aload_n 0, 1) := by decide +kernel
theorem dX11_head_1 : decode cX11_head 1 = .ok (.aload_n 0, 1) := by decide +kernel
theorem dX11_head_2 : decode cX11_head 2 = .ok (.iload_n 1, 1) := by decide +kernel
theorem dX11_head_3 : decode cX11_head 3 = .ok (.invokevirtual 117, 3) := by decide +kernel
theorem dX11_head_6 : decode cX11_head 6 = .ok (.ifCond .ne 7, 3) := by decide +kernel
theorem dX11_head_9 : decode cX11_head 9 = .ok (.iconst 1, 1) := by decide +kernel
theorem dX11_head_10 : decode cX11_head 10 = .ok (.goto 20, 3) := by decide +kernel
theorem dX11_head_13 : decode cX11_head 13 = .ok (.aload_n 0, 1) := by decide +kernel
theorem dX11_head_14 : decode cX11_head 14 = .ok (.iload_n 1, 1) := by decide +kernel
theorem dX11_head_15 : decode cX11_head 15 = .ok (.iload_n 2, 1) := by decide +kernel
theorem dX11_head_16 : decode cX11_head 16 = .ok (.iload_n 3, 1) := by decide +kernel
theorem dX11_head_17 : decode cX11_head 17 = .ok (.iload 4, 2) := by decide +kernel
theorem dX11_head_19 : decode cX11_head 19 = .ok (.invokevirtual 134, 3) := by decide +kernel
theorem dX11_head_22 : decode cX11_head 22 = .ok (.ifCond .eq 7, 3) := by decide +kernel
theorem dX11_head_25 : decode cX11_head 25 = .ok (.iconst 0, 1) := by decide +kernel
theorem dX11_head_26 : decode cX11_head 26 = .ok (.goto 4, 3) := by decide +kernel
theorem dX11_head_29 : decode cX11_head 29 = .ok (.iconst 2, 1) := by decide +kernel
theorem dX11_head_30 : decode cX11_head 30 = .ok (.invokevirtual 113, 3) := by decide +kernel
theorem dX11_head_33 : decode cX11_head 33 = .ok (.ifCond .eq 4, 3) := by decide +kernel
theorem dX11_head_36 : decode cX11_head 36 = .ok (.return_, 1) := by decide +kernel
theorem dX11_head_37 : decode cX11_head 37 = .ok (.aload_n 0, 1) := by decide +kernel
theorem dX11_head_38 : decode cX11_head 38 = .ok (.getfield 47, 3) := by decide +kernel
theorem dX11_head_41 : decode cX11_head 41 = .ok (.bipush 18, 2) := by decide +kernel
theorem dX11_head_43 : decode cX11_head 43 = .ok (.iload_n 1, 1) := by decide +kernel
theorem dX11_head_44 : decode cX11_head 44 = .ok (.iastore, 1) := by decide +kernel
theorem dX11_head_45 : decode cX11_head 45 = .ok (.aload_n 0, 1) := by decide +kernel
theorem dX11_head_46 : decode cX11_head 46 = .ok (.getfield 50, 3) := by decide +kernel
theorem dX11_head_49 : decode cX11_head 49 = .ok (.bipush 54, 2) := by decide +kernel
theorem dX11_head_51 : decode cX11_head 51 = .ok (.iload_n 2, 1) := by decide +kernel
theorem dX11_head_52 : decode cX11_head 52 = .ok (.iastore, 1) := by decide +kernel
theorem dX11_head_53 : decode cX11_head 53 = .ok (.aload_n 0, 1) := by decide +kernel
theorem dX11_head_54 : decode cX11_head 54 = .ok (.getfield 50, 3) := by decide +kernel
theorem dX11_head_57 : decode cX11_head 57 = .ok (.bipush 55, 2) := by decide +kernel
theorem dX11_head_59 : decode cX11_head 59 = .ok (.iload_n 3, 1) := by decide +kernel
theorem dX11_head_60 : decode cX11_head 60 = .ok (.iastore, 1) := by decide +kernel
theorem dX11_head_61 : decode cX11_head 61 = .ok (.aload_n 0, 1) := by decide +kernel
theorem dX11_head_62 : decode cX11_head 62 = .ok (.getfield 50, 3) := by decide +kernel
theorem dX11_head_65 : decode cX11_head 65 = .ok (.bipush 56, 2) := by decide +kernel
theorem dX11_head_67 : decode cX11_head 67 = .ok (.iload 4, 2) := by decide +kernel
theorem dX11_head_69 : decode cX11_head 69 = .ok (.iastore, 1) := by decide +kernel
theorem dX11_head_70 : decode cX11_head 70 = .ok (.return_, 1) := by decide +kernel
theorem dX11_put_0 : decode cX11_put 0 = .ok (.bipush 90, 2) := by decide +kernel
theorem dX11_put_2 : decode cX11_put 2 = .ok (.aload_n 0, 1) := by decide +kernel
theorem dX11_put_3 : decode cX11_put 3 = .ok (.getfield 53, 3) := by decide +kernel
theorem dX11_put_6 : decode cX11_put 6 = .ok (.bipush 18, 2) := by decide +kernel
theorem dX11_put_8 : decode cX11_put 8 = .ok (.iaload, 1) := by decide +kernel
theorem dX11_put_9 : decode cX11_put 9 = .ok (.iadd, 1) := by decide +kernel
theorem dX11_put_10 : decode cX11_put 10 = .ok (.istore 6, 2) := by decide +kernel
theorem dX11_put_12 : decode cX11_put 12 = .ok (.aload_n 0, 1) := by decide +kernel
theorem dX11_put_13 : decode cX11_put 13 = .ok (.getfield 56, 3) := by decide +kernel
theorem dX11_put_16 : decode cX11_put 16 = .ok (.iload 6, 2) := by decide +kernel
theorem dX11_put_18 : decode cX11_put 18 = .ok (.iload_n 1, 1) := by decide +kernel
theorem dX11_put_19 : decode cX11_put 19 = .ok (.iastore, 1) := by decide +kernel
theorem dX11_put_20 : decode cX11_put 20 = .ok (.aload_n 0, 1) := by decide +kernel
theorem dX11_put_21 : decode cX11_put 21 = .ok (.getfield 59, 3) := by decide +kernel
theorem dX11_put_24 : decode cX11_put 24 = .ok (.iload 6, 2) := by decide +kernel
theorem dX11_put_26 : decode cX11_put 26 = .ok (.iload_n 2, 1) := by decide +kernel
theorem dX11_put_27 : decode cX11_put 27 = .ok (.iastore, 1) := by decide +kernel
theorem dX11_put_28 : decode cX11_put 28 = .ok (.aload_n 0, 1) := by decide +kernel
theorem dX11_put_29 : decode cX11_put 29 = .ok (.getfield 62, 3) := by decide +kernel
theorem dX11_put_32 : decode cX11_put 32 = .ok (.iconst 3, 1) := by decide +kernel
theorem dX11_put_33 : decode cX11_put 33 = .ok (.iload 6, 2) := by decide +kernel
theorem dX11_put_35 : decode cX11_put 35 = .ok (.imul, 1) := by decide +kernel
theorem dX11_put_36 : decode cX11_put 36 = .ok (.iload_n 3, 1) := by decide +kernel
theorem dX11_put_37 : decode cX11_put 37 = .ok (.iastore, 1) := by decide +kernel
theorem dX11_put_38 : decode cX11_put 38 = .ok (.aload_n 0, 1) := by decide +kernel
theorem dX11_put_39 : decode cX11_put 39 = .ok (.getfield 62, 3) := by decide +kernel
theorem dX11_put_42 : decode cX11_put 42 = .ok (.iconst 3, 1) := by decide +kernel
theorem dX11_put_43 : decode cX11_put 43 = .ok (.iload 6, 2) := by decide +kernel
theorem dX11_put_45 : decode cX11_put 45 = .ok (.imul, 1) := by decide +kernel
theorem dX11_put_46 : decode cX11_put 46 = .ok (.iconst 1, 1) := by decide +kernel
theorem dX11_put_47 : decode cX11_put 47 = .ok (.iadd, 1) := by decide +kernel
theorem dX11_put_48 : decode cX11_put 48 = .ok (.iload 4, 2) := by decide +kernel
theorem dX11_put_50 : decode cX11_put 50 = .ok (.iastore, 1) := by decide +kernel
theorem dX11_put_51 : decode cX11_put 51 = .ok (.aload_n 0, 1) := by decide +kernel
theorem dX11_put_52 : decode cX11_put 52 = .ok (.getfield 62, 3) := by decide +kernel
theorem dX11_put_55 : decode cX11_put 55 = .ok (.iconst 3, 1) := by decide +kernel
theorem dX11_put_56 : decode cX11_put 56 = .ok (.iload 6, 2) := by decide +kernel
theorem dX11_put_58 : decode cX11_put 58 = .ok (.imul, 1) := by decide +kernel
theorem dX11_put_59 : decode cX11_put 59 = .ok (.iconst 2, 1) := by decide +kernel
theorem dX11_put_60 : decode cX11_put 60 = .ok (.iadd, 1) := by decide +kernel
theorem dX11_put_61 : decode cX11_put 61 = .ok (.iload 5, 2) := by decide +kernel
theorem dX11_put_63 : decode cX11_put 63 = .ok (.iastore, 1) := by decide +kernel
theorem dX11_put_64 : decode cX11_put 64 = .ok (.aload_n 0, 1) := by decide +kernel
theorem dX11_put_65 : decode cX11_put 65 = .ok (.getfield 53, 3) := by decide +kernel
theorem dX11_put_68 : decode cX11_put 68 = .ok (.bipush 18, 2) := by decide +kernel
theorem dX11_put_70 : decode cX11_put 70 = .ok (.dup2, 1) := by decide +kernel
theorem dX11_put_71 : decode cX11_put 71 = .ok (.iaload, 1) := by decide +kernel
theorem dX11_put_72 : decode cX11_put 72 = .ok (.iconst 1, 1) := by decide +kernel
theorem dX11_put_73 : decode cX11_put 73 = .ok (.iadd, 1) := by decide +kernel
theorem dX11_put_74 : decode cX11_put 74 = .ok (.iastore, 1) := by decide +kernel
theorem dX11_put_75 : decode cX11_put 75 = .ok (.aload_n 0, 1) := by decide +kernel
theorem dX11_put_76 : decode cX11_put 76 = .ok (.getfield 53, 3) := by decide +kernel
theorem dX11_put_79 : decode cX11_put 79 = .ok (.bipush 18, 2) := by decide +kernel
theorem dX11_put_81 : decode cX11_put 81 = .ok (.iaload, 1) := by decide +kernel
theorem dX11_put_82 : decode cX11_put 82 = .ok (.ireturn, 1) := by decide +kernel
theorem dX11_atomsOf_0 : decode cX11_atomsOf 0 = .ok (.iconst 0, 1) := by decide +kernel
theorem dX11_atomsOf_1 : decode cX11_atomsOf 1 = .ok (.istore_n 2, 1) := by decide +kernel
theorem dX11_atomsOf_2 : decode cX11_atomsOf 2 = .ok (.iconst 5, 1) := by decide +kernel
theorem dX11_atomsOf_3 : decode cX11_atomsOf 3 = .ok (.iload_n 1, 1) := by decide +kernel
theorem dX11_atomsOf_4 : decode cX11_atomsOf 4 = .ok (.imul, 1) := by decide +kernel
theorem dX11_atomsOf_5 : decode cX11_atomsOf 5 = .ok (.istore_n 3, 1) := by decide +kernel
theorem dX11_atomsOf_6 : decode cX11_atomsOf 6 = .ok (.iload_n 3, 1) := by decide +kernel
theorem dX11_atomsOf_7 : decode cX11_atomsOf 7 = .ok (.iconst 5, 1) := by decide +kernel
theorem dX11_atomsOf_8 : decode cX11_atomsOf 8 = .ok (.iload_n 1, 1) := by decide +kernel
theorem dX11_atomsOf_9 : decode cX11_atomsOf 9 = .ok (.imul, 1) := by decide +kernel
theorem dX11_atomsOf_10 : decode cX11_atomsOf 10 = .ok (.aload_n 0, 1) := by decide +kernel
theorem dX11_atomsOf_11 : decode cX11_atomsOf 11 = .ok (.getfield 53, 3) := by decide +kernel
theorem dX11_atomsOf_14 : decode cX11_atomsOf 14 = .ok (.iload_n 1, 1) := by decide +kernel
theorem dX11_atomsOf_15 : decode cX11_atomsOf 15 = .ok (.iaload, 1) := by decide +kernel
theorem dX11_atomsOf_16 : decode cX11_atomsOf 16 = .ok (.iadd, 1) := by decide +kernel
theorem dX11_atomsOf_17 : decode cX11_atomsOf 17 = .ok (.if_icmp .ge 26, 3) := by decide +kernel
theorem dX11_atomsOf_20 : decode cX11_atomsOf 20 = .ok (.iload_n 2, 1) := by decide +kernel
theorem dX11_atomsOf_21 : decode cX11_atomsOf 21 = .ok (.aload_n 0, 1) := by decide +kernel
theorem dX11_atomsOf_22 : decode cX11_atomsOf 22 = .ok (.getfield 56, 3) := by decide +kernel
theorem dX11_atomsOf_25 : decode cX11_atomsOf 25 = .ok (.iload_n 3, 1) := by decide +kernel
theorem dX11_atomsOf_26 : decode cX11_atomsOf 26 = .ok (.iaload, 1) := by decide +kernel
theorem dX11_atomsOf_27 : decode cX11_atomsOf 27 = .ok (.ifCond .ne 7, 3) := by decide +kernel
theorem dX11_atomsOf_30 : decode cX11_atomsOf 30 = .ok (.iconst 1, 1) := by decide +kernel
theorem dX11_atomsOf_31 : decode cX11_atomsOf 31 = .ok (.goto 4, 3) := by decide +kernel
theorem dX11_atomsOf_34 : decode cX11_atomsOf 34 = .ok (.iconst 0, 1) := by decide +kernel
theorem dX11_atomsOf_35 : decode cX11_atomsOf 35 = .ok (.iadd, 1) := by decide +kernel
theorem dX11_atomsOf_36 : decode cX11_atomsOf 36 = .ok (.istore_n 2, 1) := by decide +kernel
theorem dX11_atomsOf_37 : decode cX11_atomsOf 37 = .ok (.iinc 3 1, 3) := by decide +kernel
theorem dX11_atomsOf_40 : decode cX11_atomsOf 40 = .ok (.goto (-34), 3) := by decide +kernel
theorem dX11_atomsOf_43 : decode cX11_atomsOf 43 = .ok (.iload_n 2, 1) := by decide +kernel
theorem dX11_atomsOf_44 : decode cX11_atomsOf 44 = .ok (.ireturn, 1) := by decide +kernel
theorem dX11_atom_0 : decode cX11_atom 0 = .ok (.aload_n 0, 1) := by decide +kernel
theorem dX11_atom_1 : decode cX11_atom 1 = .ok (.iload_n 1, 1) := by decide +kernel
theorem dX11_atom_2 : decode cX11_atom 2 = .ok (.invokevirtual 117, 3) := by decide +kernel
theorem dX11_atom_5 : decode cX11_atom 5 = .ok (.ifCond .eq 20, 3) := by decide +kernel
theorem dX11_atom_8 : decode cX11_atom 8 = .ok (.aload_n 0, 1) := by decide +kernel
theorem dX11_atom_9 : decode cX11_atom 9 = .ok (.iload_n 1, 1) := by decide +kernel
theorem dX11_atom_10 : decode cX11_atom 10 = .ok (.iload_n 3, 1) := by decide +kernel
theorem dX11_atom_11 : decode cX11_atom 11 = .ok (.iload 4, 2) := by decide +kernel
theorem dX11_atom_13 : decode cX11_atom 13 = .ok (.iload 5, 2) := by decide +kernel
theorem dX11_atom_15 : decode cX11_atom 15 = .ok (.invokevirtual 134, 3) := by decide +kernel
theorem dX11_atom_18 : decode cX11_atom 18 = .ok (.ifCond .eq 7, 3) := by decide +kernel
theorem dX11_atom_21 : decode cX11_atom 21 = .ok (.iconst 1, 1) := by decide +kernel
theorem dX11_atom_22 : decode cX11_atom 22 = .ok (.goto 4, 3) := by decide +kernel
theorem dX11_atom_25 : decode cX11_atom 25 = .ok (.iconst 0, 1) := by decide +kernel
theorem dX11_atom_26 : decode cX11_atom 26 = .ok (.istore 6, 2) := by decide +kernel
theorem dX11_atom_28 : decode cX11_atom 28 = .ok (.aload_n 0, 1) := by decide +kernel
theorem dX11_atom_29 : decode cX11_atom 29 = .ok (.getfield 53, 3) := by decide +kernel
theorem dX11_atom_32 : decode cX11_atom 32 = .ok (.bipush 18, 2) := by decide +kernel
theorem dX11_atom_34 : decode cX11_atom 34 = .ok (.iaload, 1) := by decide +kernel
theorem dX11_atom_35 : decode cX11_atom 35 = .ok (.iconst 5, 1) := by decide +kernel
theorem dX11_atom_36 : decode cX11_atom 36 = .ok (.if_icmp .eq 17, 3) := by decide +kernel
theorem dX11_atom_39 : decode cX11_atom 39 = .ok (.iload_n 2, 1) := by decide +kernel
theorem dX11_atom_40 : decode cX11_atom 40 = .ok (.ifCond .eq 17, 3) := by decide +kernel
theorem dX11_atom_43 : decode cX11_atom 43 = .ok (.aload_n 0, 1) := by decide +kernel
theorem dX11_atom_44 : decode cX11_atom 44 = .ok (.bipush 18, 2) := by decide +kernel
theorem dX11_atom_46 : decode cX11_atom 46 = .ok (.invokevirtual 138, 3) := by decide +kernel
theorem dX11_atom_49 : decode cX11_atom 49 = .ok (.iconst 3, 1) := by decide +kernel
theorem dX11_atom_50 : decode cX11_atom 50 = .ok (.if_icmp .ne 7, 3) := by decide +kernel
theorem dX11_atom_53 : decode cX11_atom 53 = .ok (.iconst 1, 1) := by decide +kernel
theorem dX11_atom_54 : decode cX11_atom 54 = .ok (.goto 4, 3) := by decide +kernel
theorem dX11_atom_57 : decode cX11_atom 57 = .ok (.iconst 0, 1) := by decide +kernel
theorem dX11_atom_58 : decode cX11_atom 58 = .ok (.istore 7, 2) := by decide +kernel
theorem dX11_atom_60 : decode cX11_atom 60 = .ok (.aload_n 0, 1) := by decide +kernel
theorem dX11_atom_61 : decode cX11_atom 61 = .ok (.aload_n 0, 1) := by decide +kernel
theorem dX11_atom_62 : decode cX11_atom 62 = .ok (.iload_n 1, 1) := by decide +kernel
theorem dX11_atom_63 : decode cX11_atom 63 = .ok (.invokevirtual 117, 3) := by decide +kernel
theorem dX11_atom_66 : decode cX11_atom 66 = .ok (.ifCond .ne 7, 3) := by decide +kernel
theorem dX11_atom_69 : decode cX11_atom 69 = .ok (.iconst 1, 1) := by decide +kernel
theorem dX11_atom_70 : decode cX11_atom 70 = .ok (.goto 22, 3) := by decide +kernel
theorem dX11_atom_73 : decode cX11_atom 73 = .ok (.iload 6, 2) := by decide +kernel
theorem dX11_atom_75 : decode cX11_atom 75 = .ok (.ifCond .ne 7, 3) := by decide +kernel
theorem dX11_atom_78 : decode cX11_atom 78 = .ok (.iconst 2, 1) := by decide +kernel
theorem dX11_atom_79 : decode cX11_atom 79 = .ok (.goto 13, 3) := by decide +kernel
theorem dX11_atom_82 : decode cX11_atom 82 = .ok (.iload 7, 2) := by decide +kernel
theorem dX11_atom_84 : decode cX11_atom 84 = .ok (.ifCond .eq 7, 3) := by decide +kernel
theorem dX11_atom_87 : decode cX11_atom 87 = .ok (.iconst 3, 1) := by decide +kernel
theorem dX11_atom_88 : decode cX11_atom 88 = .ok (.goto 4, 3) := by decide +kernel
theorem dX11_atom_91 : decode cX11_atom 91 = .ok (.iconst 0, 1) := by decide +kernel
theorem dX11_atom_92 : decode cX11_atom 92 = .ok (.invokevirtual 113, 3) := by decide +kernel
theorem dX11_atom_95 : decode cX11_atom 95 = .ok (.ifCond .eq 5, 3) := by decide +kernel
theorem dX11_atom_98 : decode cX11_atom 98 = .ok (.iconst 0, 1) := by decide +kernel
theorem dX11_atom_99 : decode cX11_atom 99 = .ok (.ireturn, 1) := by decide +kernel
theorem dX11_atom_100 : decode cX11_atom 100 = .ok (.aload_n 0, 1) := by decide +kernel
theorem dX11_atom_101 : decode cX11_atom 101 = .ok (.iload_n 2, 1) := by decide +kernel
theorem dX11_atom_102 : decode cX11_atom 102 = .ok (.ifCond .eq 7, 3) := by decide +kernel
theorem dX11_atom_105 : decode cX11_atom 105 = .ok (.iconst 0, 1) := by decide +kernel
theorem dX11_atom_106 : decode cX11_atom 106 = .ok (.goto 4, 3) := by decide +kernel
theorem dX11_atom_109 : decode cX11_atom 109 = .ok (.iconst 1, 1) := by decide +kernel
theorem dX11_atom_110 : decode cX11_atom 110 = .ok (.iload_n 1, 1) := by decide +kernel
theorem dX11_atom_111 : decode cX11_atom 111 = .ok (.iload_n 3, 1) := by decide +kernel
theorem dX11_atom_112 : decode cX11_atom 112 = .ok (.iload 4, 2) := by decide +kernel
theorem dX11_atom_114 : decode cX11_atom 114 = .ok (.iload 5, 2) := by decide +kernel
theorem dX11_atom_116 : decode cX11_atom 116 = .ok (.invokevirtual 142, 3) := by decide +kernel
theorem dX11_atom_119 : decode cX11_atom 119 = .ok (.ireturn, 1) := by decide +kernel
theorem dX11_isAnyTerm_0 : decode cX11_isAnyTerm 0 = .ok (.iload_n 0, 1) := by decide +kernel
theorem dX11_isAnyTerm_1 : decode cX11_isAnyTerm 1 = .ok (.bipush (-8), 2) := by decide +kernel
theorem dX11_isAnyTerm_3 : decode cX11_isAnyTerm 3 = .ok (.bipush 127, 2) := by decide +kernel
theorem dX11_isAnyTerm_5 : decode cX11_isAnyTerm 5 = .ok (.invokestatic 102, 3) := by decide +kernel
theorem dX11_isAnyTerm_8 : decode cX11_isAnyTerm 8 = .ok (.ireturn, 1) := by decide +kernel
theorem dX11_compare_0 : decode cX11_compare 0 = .ok (.iload_n 2, 1) := by decide +kernel
theorem dX11_compare_1 : decode cX11_compare 1 = .ok (.invokestatic 146, 3) := by decide +kernel
theorem dX11_compare_4 : decode cX11_compare 4 = .ok (.ifCond .eq 14, 3) := by decide +kernel
theorem dX11_compare_7 : decode cX11_compare 7 = .ok (.iload_n 3, 1) := by decide +kernel
theorem dX11_compare_8 : decode cX11_compare 8 = .ok (.invokestatic 146, 3) := by decide +kernel
theorem dX11_compare_11 : decode cX11_compare 11 = .ok (.ifCond .eq 7, 3) := by decide +kernel
theorem dX11_compare_14 : decode cX11_compare 14 = .ok (.iconst 1, 1) := by decide +kernel
theorem dX11_compare_15 : decode cX11_compare 15 = .ok (.goto 4, 3) := by decide +kernel
theorem dX11_compare_18 : decode cX11_compare 18 = .ok (.iconst 0, 1) := by decide +kernel
theorem dX11_compare_19 : decode cX11_compare 19 = .ok (.istore 4, 2) := by decide +kernel
theorem dX11_compare_21 : decode cX11_compare 21 = .ok (.aload_n 0, 1) := by decide +kernel
theorem dX11_compare_22 : decode cX11_compare 22 = .ok (.iload_n 1, 1) := by decide +kernel
theorem dX11_compare_23 : decode cX11_compare 23 = .ok (.iconst 0, 1) := by decide +kernel
theorem dX11_compare_24 : decode cX11_compare 24 = .ok (.iconst 3, 1) := by decide +kernel
theorem dX11_compare_25 : decode cX11_compare 25 = .ok (.invokestatic 102, 3) := by decide +kernel
theorem dX11_compare_28 : decode cX11_compare 28 = .ok (.ifCond .ne 7, 3) := by decide +kernel
theorem dX11_compare_31 : decode cX11_compare 31 = .ok (.iconst 1, 1) := by decide +kernel
theorem dX11_compare_32 : decode cX11_compare 32 = .ok (.goto 28, 3) := by decide +kernel
theorem dX11_compare_35 : decode cX11_compare 35 = .ok (.iload 4, 2) := by decide +kernel
theorem dX11_compare_37 : decode cX11_compare 37 = .ok (.ifCond .ne 7, 3) := by decide +kernel
theorem dX11_compare_40 : decode cX11_compare 40 = .ok (.iconst 2, 1) := by decide +kernel
theorem dX11_compare_41 : decode cX11_compare 41 = .ok (.goto 19, 3) := by decide +kernel
theorem dX11_compare_44 : decode cX11_compare 44 = .ok (.aload_n 0, 1) := by decide +kernel
theorem dX11_compare_45 : decode cX11_compare 45 = .ok (.getfield 53, 3) := by decide +kernel
theorem dX11_compare_48 : decode cX11_compare 48 = .ok (.bipush 18, 2) := by decide +kernel
theorem dX11_compare_50 : decode cX11_compare 50 = .ok (.iaload, 1) := by decide +kernel
theorem dX11_compare_51 : decode cX11_compare 51 = .ok (.iconst 5, 1) := by decide +kernel
theorem dX11_compare_52 : decode cX11_compare 52 = .ok (.if_icmp .ne 7, 3) := by decide +kernel
theorem dX11_compare_55 : decode cX11_compare 55 = .ok (.iconst 3, 1) := by decide +kernel
theorem dX11_compare_56 : decode cX11_compare 56 = .ok (.goto 4, 3) := by decide +kernel
theorem dX11_compare_59 : decode cX11_compare 59 = .ok (.iconst 0, 1) := by decide +kernel
theorem dX11_compare_60 : decode cX11_compare 60 = .ok (.invokevirtual 113, 3) := by decide +kernel
theorem dX11_compare_63 : decode cX11_compare 63 = .ok (.ifCond .eq 5, 3) := by decide +kernel
theorem dX11_compare_66 : decode cX11_compare 66 = .ok (.iconst 0, 1) := by decide +kernel
theorem dX11_compare_67 : decode cX11_compare 67 = .ok (.ireturn, 1) := by decide +kernel
theorem dX11_compare_68 : decode cX11_compare 68 = .ok (.aload_n 0, 1) := by decide +kernel
theorem dX11_compare_69 : decode cX11_compare 69 = .ok (.iconst 2, 1) := by decide +kernel
theorem dX11_compare_70 : decode cX11_compare 70 = .ok (.iload_n 1, 1) := by decide +kernel
theorem dX11_compare_71 : decode cX11_compare 71 = .ok (.iload_n 2, 1) := by decide +kernel
theorem dX11_compare_72 : decode cX11_compare 72 = .ok (.iload_n 3, 1) := by decide +kernel
theorem dX11_compare_73 : decode cX11_compare 73 = .ok (.iconst 0, 1) := by decide +kernel
theorem dX11_compare_74 : decode cX11_compare 74 = .ok (.invokevirtual 142, 3) := by decide +kernel
theorem dX11_compare_77 : decode cX11_compare 77 = .ok (.ireturn, 1) := by decide +kernel
theorem dX11_add_0 : decode cX11_add 0 = .ok (.iload_n 1, 1) := by decide +kernel
theorem dX11_add_1 : decode cX11_add 1 = .ok (.invokestatic 146, 3) := by decide +kernel
theorem dX11_add_4 : decode cX11_add 4 = .ok (.ifCond .eq 21, 3) := by decide +kernel
theorem dX11_add_7 : decode cX11_add 7 = .ok (.iload_n 2, 1) := by decide +kernel
theorem dX11_add_8 : decode cX11_add 8 = .ok (.invokestatic 146, 3) := by decide +kernel
theorem dX11_add_11 : decode cX11_add 11 = .ok (.ifCond .eq 14, 3) := by decide +kernel
theorem dX11_add_14 : decode cX11_add 14 = .ok (.iload_n 3, 1) := by decide +kernel
theorem dX11_add_15 : decode cX11_add 15 = .ok (.invokestatic 146, 3) := by decide +kernel
theorem dX11_add_18 : decode cX11_add 18 = .ok (.ifCond .eq 7, 3) := by decide +kernel
theorem dX11_add_21 : decode cX11_add 21 = .ok (.iconst 1, 1) := by decide +kernel
theorem dX11_add_22 : decode cX11_add 22 = .ok (.goto 4, 3) := by decide +kernel
theorem dX11_add_25 : decode cX11_add 25 = .ok (.iconst 0, 1) := by decide +kernel
theorem dX11_add_26 : decode cX11_add 26 = .ok (.istore 4, 2) := by decide +kernel
theorem dX11_add_28 : decode cX11_add 28 = .ok (.aload_n 0, 1) := by decide +kernel
theorem dX11_add_29 : decode cX11_add 29 = .ok (.iload 4, 2) := by decide +kernel
theorem dX11_add_31 : decode cX11_add 31 = .ok (.ifCond .ne 7, 3) := by decide +kernel
theorem dX11_add_34 : decode cX11_add 34 = .ok (.iconst 1, 1) := by decide +kernel
theorem dX11_add_35 : decode cX11_add 35 = .ok (.goto 19, 3) := by decide +kernel
theorem dX11_add_38 : decode cX11_add 38 = .ok (.aload_n 0, 1) := by decide +kernel
theorem dX11_add_39 : decode cX11_add 39 = .ok (.getfield 53, 3) := by decide +kernel
theorem dX11_add_42 : decode cX11_add 42 = .ok (.bipush 18, 2) := by decide +kernel
theorem dX11_add_44 : decode cX11_add 44 = .ok (.iaload, 1) := by decide +kernel
theorem dX11_add_45 : decode cX11_add 45 = .ok (.iconst 5, 1) := by decide +kernel
theorem dX11_add_46 : decode cX11_add 46 = .ok (.if_icmp .ne 7, 3) := by decide +kernel
theorem dX11_add_49 : decode cX11_add 49 = .ok (.iconst 2, 1) := by decide +kernel
theorem dX11_add_50 : decode cX11_add 50 = .ok (.goto 4, 3) := by decide +kernel
theorem dX11_add_53 : decode cX11_add 53 = .ok (.iconst 0, 1) := by decide +kernel
theorem dX11_add_54 : decode cX11_add 54 = .ok (.invokevirtual 113, 3) := by decide +kernel
theorem dX11_add_57 : decode cX11_add 57 = .ok (.ifCond .eq 5, 3) := by decide +kernel
theorem dX11_add_60 : decode cX11_add 60 = .ok (.iconst 0, 1) := by decide +kernel
theorem dX11_add_61 : decode cX11_add 61 = .ok (.ireturn, 1) := by decide +kernel
theorem dX11_add_62 : decode cX11_add 62 = .ok (.aload_n 0, 1) := by decide +kernel
theorem dX11_add_63 : decode cX11_add 63 = .ok (.iconst 3, 1) := by decide +kernel
theorem dX11_add_64 : decode cX11_add 64 = .ok (.iconst 0, 1) := by decide +kernel
theorem dX11_add_65 : decode cX11_add 65 = .ok (.iload_n 1, 1) := by decide +kernel
theorem dX11_add_66 : decode cX11_add 66 = .ok (.iload_n 2, 1) := by decide +kernel
theorem dX11_add_67 : decode cX11_add 67 = .ok (.iload_n 3, 1) := by decide +kernel
theorem dX11_add_68 : decode cX11_add 68 = .ok (.invokevirtual 142, 3) := by decide +kernel
theorem dX11_add_71 : decode cX11_add 71 = .ok (.ireturn, 1) := by decide +kernel
theorem dX11_clear_0 : decode cX11_clear 0 = .ok (.aload_n 0, 1) := by decide +kernel
theorem dX11_clear_1 : decode cX11_clear 1 = .ok (.getfield 53, 3) := by decide +kernel
theorem dX11_clear_4 : decode cX11_clear 4 = .ok (.bipush 18, 2) := by decide +kernel
theorem dX11_clear_6 : decode cX11_clear 6 = .ok (.iaload, 1) := by decide +kernel
theorem dX11_clear_7 : decode cX11_clear 7 = .ok (.istore_n 1, 1) := by decide +kernel
theorem dX11_clear_8 : decode cX11_clear 8 = .ok (.aload_n 0, 1) := by decide +kernel
theorem dX11_clear_9 : decode cX11_clear 9 = .ok (.getfield 53, 3) := by decide +kernel
theorem dX11_clear_12 : decode cX11_clear 12 = .ok (.bipush 18, 2) := by decide +kernel
theorem dX11_clear_14 : decode cX11_clear 14 = .ok (.iconst 0, 1) := by decide +kernel
theorem dX11_clear_15 : decode cX11_clear 15 = .ok (.iastore, 1) := by decide +kernel
theorem dX11_clear_16 : decode cX11_clear 16 = .ok (.aload_n 0, 1) := by decide +kernel
theorem dX11_clear_17 : decode cX11_clear 17 = .ok (.getfield 47, 3) := by decide +kernel
theorem dX11_clear_20 : decode cX11_clear 20 = .ok (.bipush 18, 2) := by decide +kernel
theorem dX11_clear_22 : decode cX11_clear 22 = .ok (.iconst (-1), 1) := by decide +kernel
theorem dX11_clear_23 : decode cX11_clear 23 = .ok (.iastore, 1) := by decide +kernel
theorem dX11_clear_24 : decode cX11_clear 24 = .ok (.aload_n 0, 1) := by decide +kernel
theorem dX11_clear_25 : decode cX11_clear 25 = .ok (.iload_n 1, 1) := by decide +kernel
theorem dX11_clear_26 : decode cX11_clear 26 = .ok (.invokevirtual 149, 3) := by decide +kernel
theorem dX11_clear_29 : decode cX11_clear 29 = .ok (.ireturn, 1) := by decide +kernel
theorem dX11_width_0 : decode cX11_width 0 = .ok (.aload_n 0, 1) := by decide +kernel
theorem dX11_width_1 : decode cX11_width 1 = .ok (.getfield 56, 3) := by decide +kernel
theorem dX11_width_4 : decode cX11_width 4 = .ok (.iload_n 1, 1) := by decide +kernel
theorem dX11_width_5 : decode cX11_width 5 = .ok (.iaload, 1) := by decide +kernel
theorem dX11_width_6 : decode cX11_width 6 = .ok (.iconst 2, 1) := by decide +kernel
theorem dX11_width_7 : decode cX11_width 7 = .ok (.if_icmp .ne 7, 3) := by decide +kernel
theorem dX11_width_10 : decode cX11_width 10 = .ok (.iconst 2, 1) := by decide +kernel
theorem dX11_width_11 : decode cX11_width 11 = .ok (.goto 28, 3) := by decide +kernel
theorem dX11_width_14 : decode cX11_width 14 = .ok (.aload_n 0, 1) := by decide +kernel
theorem dX11_width_15 : decode cX11_width 15 = .ok (.getfield 56, 3) := by decide +kernel
theorem dX11_width_18 : decode cX11_width 18 = .ok (.iload_n 1, 1) := by decide +kernel
theorem dX11_width_19 : decode cX11_width 19 = .ok (.iaload, 1) := by decide +kernel
theorem dX11_width_20 : decode cX11_width 20 = .ok (.iconst 3, 1) := by decide +kernel
theorem dX11_width_21 : decode cX11_width 21 = .ok (.if_icmp .ne 7, 3) := by decide +kernel
theorem dX11_width_24 : decode cX11_width 24 = .ok (.iconst 3, 1) := by decide +kernel
theorem dX11_width_25 : decode cX11_width 25 = .ok (.goto 14, 3) := by decide +kernel
theorem dX11_width_28 : decode cX11_width 28 = .ok (.aload_n 0, 1) := by decide +kernel
theorem dX11_width_29 : decode cX11_width 29 = .ok (.getfield 13, 3) := by decide +kernel
theorem dX11_width_32 : decode cX11_width 32 = .ok (.aload_n 0, 1) := by decide +kernel
theorem dX11_width_33 : decode cX11_width 33 = .ok (.getfield 59, 3) := by decide +kernel
theorem dX11_width_36 : decode cX11_width 36 = .ok (.iload_n 1, 1) := by decide +kernel
theorem dX11_width_37 : decode cX11_width 37 = .ok (.iaload, 1) := by decide +kernel
theorem dX11_width_38 : decode cX11_width 38 = .ok (.iaload, 1) := by decide +kernel
theorem dX11_width_39 : decode cX11_width 39 = .ok (.ireturn, 1) := by decide +kernel
theorem dX11_isSafe_0 : decode cX11_isSafe 0 = .ok (.iconst 0, 1) := by decide +kernel
theorem dX11_isSafe_1 : decode cX11_isSafe 1 = .ok (.istore_n 3, 1) := by decide +kernel
theorem dX11_isSafe_2 : decode cX11_isSafe 2 = .ok (.iconst 1, 1) := by decide +kernel
theorem dX11_isSafe_3 : decode cX11_isSafe 3 = .ok (.istore 4, 2) := by decide +kernel
theorem dX11_isSafe_5 : decode cX11_isSafe 5 = .ok (.iconst 5, 1) := by decide +kernel
theorem dX11_isSafe_6 : decode cX11_isSafe 6 = .ok (.iload_n 1, 1) := by decide +kernel
theorem dX11_isSafe_7 : decode cX11_isSafe 7 = .ok (.imul, 1) := by decide +kernel
theorem dX11_isSafe_8 : decode cX11_isSafe 8 = .ok (.istore 5, 2) := by decide +kernel
theorem dX11_isSafe_10 : decode cX11_isSafe 10 = .ok (.iload 5, 2) := by decide +kernel
theorem dX11_isSafe_12 : decode cX11_isSafe 12 = .ok (.iconst 5, 1) := by decide +kernel
theorem dX11_isSafe_13 : decode cX11_isSafe 13 = .ok (.iload_n 1, 1) := by decide +kernel
theorem dX11_isSafe_14 : decode cX11_isSafe 14 = .ok (.imul, 1) := by decide +kernel
theorem dX11_isSafe_15 : decode cX11_isSafe 15 = .ok (.aload_n 0, 1) := by decide +kernel
theorem dX11_isSafe_16 : decode cX11_isSafe 16 = .ok (.getfield 53, 3) := by decide +kernel
theorem dX11_isSafe_19 : decode cX11_isSafe 19 = .ok (.iload_n 1, 1) := by decide +kernel
theorem dX11_isSafe_20 : decode cX11_isSafe 20 = .ok (.iaload, 1) := by decide +kernel
theorem dX11_isSafe_21 : decode cX11_isSafe 21 = .ok (.iadd, 1) := by decide +kernel
theorem dX11_isSafe_22 : decode cX11_isSafe 22 = .ok (.if_icmp .ge 143, 3) := by decide +kernel
theorem dX11_isSafe_25 : decode cX11_isSafe 25 = .ok (.iconst 0, 1) := by decide +kernel
theorem dX11_isSafe_26 : decode cX11_isSafe 26 = .ok (.istore 6, 2) := by decide +kernel
theorem dX11_isSafe_28 : decode cX11_isSafe 28 = .ok (.iconst 0, 1) := by decide +kernel
theorem dX11_isSafe_29 : decode cX11_isSafe 29 = .ok (.istore 7, 2) := by decide +kernel
theorem dX11_isSafe_31 : decode cX11_isSafe 31 = .ok (.iload 7, 2) := by decide +kernel
theorem dX11_isSafe_33 : decode cX11_isSafe 33 = .ok (.aload_n 0, 1) := by decide +kernel
theorem dX11_isSafe_34 : decode cX11_isSafe 34 = .ok (.iload 5, 2) := by decide +kernel
theorem dX11_isSafe_36 : decode cX11_isSafe 36 = .ok (.invokevirtual 152, 3) := by decide +kernel
theorem dX11_isSafe_39 : decode cX11_isSafe 39 = .ok (.if_icmp .ge 115, 3) := by decide +kernel
theorem dX11_isSafe_42 : decode cX11_isSafe 42 = .ok (.aload_n 0, 1) := by decide +kernel
theorem dX11_isSafe_43 : decode cX11_isSafe 43 = .ok (.getfield 62, 3) := by decide +kernel
theorem dX11_isSafe_46 : decode cX11_isSafe 46 = .ok (.iconst 3, 1) := by decide +kernel
theorem dX11_isSafe_47 : decode cX11_isSafe 47 = .ok (.iload 5, 2) := by decide +kernel
theorem dX11_isSafe_49 : decode cX11_isSafe 49 = .ok (.imul, 1) := by decide +kernel
theorem dX11_isSafe_50 : decode cX11_isSafe 50 = .ok (.iload 7, 2) := by decide +kernel
theorem dX11_isSafe_52 : decode cX11_isSafe 52 = .ok (.iadd, 1) := by decide +kernel
theorem dX11_isSafe_53 : decode cX11_isSafe 53 = .ok (.iaload, 1) := by decide +kernel
theorem dX11_isSafe_54 : decode cX11_isSafe 54 = .ok (.istore 8, 2) := by decide +kernel
theorem dX11_isSafe_56 : decode cX11_isSafe 56 = .ok (.aload_n 0, 1) := by decide +kernel
theorem dX11_isSafe_57 : decode cX11_isSafe 57 = .ok (.getfield 56, 3) := by decide +kernel
theorem dX11_isSafe_60 : decode cX11_isSafe 60 = .ok (.iload 5, 2) := by decide +kernel
theorem dX11_isSafe_62 : decode cX11_isSafe 62 = .ok (.iaload, 1) := by decide +kernel
theorem dX11_isSafe_63 : decode cX11_isSafe 63 = .ok (.ifCond .eq 19, 3) := by decide +kernel
theorem dX11_isSafe_66 : decode cX11_isSafe 66 = .ok (.aload_n 0, 1) := by decide +kernel
theorem dX11_isSafe_67 : decode cX11_isSafe 67 = .ok (.getfield 56, 3) := by decide +kernel
theorem dX11_isSafe_70 : decode cX11_isSafe 70 = .ok (.iload 5, 2) := by decide +kernel
theorem dX11_isSafe_72 : decode cX11_isSafe 72 = .ok (.iaload, 1) := by decide +kernel
theorem dX11_isSafe_73 : decode cX11_isSafe 73 = .ok (.iconst 3, 1) := by decide +kernel
theorem dX11_isSafe_74 : decode cX11_isSafe 74 = .ok (.if_icmp .ne 12, 3) := by decide +kernel
theorem dX11_isSafe_77 : decode cX11_isSafe 77 = .ok (.iload 7, 2) := by decide +kernel
theorem dX11_isSafe_79 : decode cX11_isSafe 79 = .ok (.ifCond .ne 7, 3) := by decide +kernel
theorem dX11_isSafe_82 : decode cX11_isSafe 82 = .ok (.iconst 1, 1) := by decide +kernel
theorem dX11_isSafe_83 : decode cX11_isSafe 83 = .ok (.goto 4, 3) := by decide +kernel
theorem dX11_isSafe_86 : decode cX11_isSafe 86 = .ok (.iconst 0, 1) := by decide +kernel
theorem dX11_isSafe_87 : decode cX11_isSafe 87 = .ok (.istore 9, 2) := by decide +kernel
theorem dX11_isSafe_89 : decode cX11_isSafe 89 = .ok (.iload 4, 2) := by decide +kernel
theorem dX11_isSafe_91 : decode cX11_isSafe 91 = .ok (.ifCond .eq 29, 3) := by decide +kernel
theorem dX11_isSafe_94 : decode cX11_isSafe 94 = .ok (.iload 8, 2) := by decide +kernel
theorem dX11_isSafe_96 : decode cX11_isSafe 96 = .ok (.ifCond .ge 20, 3) := by decide +kernel
theorem dX11_isSafe_99 : decode cX11_isSafe 99 = .ok (.iload 9, 2) := by decide +kernel
theorem dX11_isSafe_101 : decode cX11_isSafe 101 = .ok (.ifCond .ne 15, 3) := by decide +kernel
theorem dX11_isSafe_104 : decode cX11_isSafe 104 = .ok (.iload_n 3, 1) := by decide +kernel
theorem dX11_isSafe_105 : decode cX11_isSafe 105 = .ok (.iconst (-1), 1) := by decide +kernel
theorem dX11_isSafe_106 : decode cX11_isSafe 106 = .ok (.iload 8, 2) := by decide +kernel
theorem dX11_isSafe_108 : decode cX11_isSafe 108 = .ok (.isub, 1) := by decide +kernel
theorem dX11_isSafe_109 : decode cX11_isSafe 109 = .ok (.ishr, 1) := by decide +kernel
theorem dX11_isSafe_110 : decode cX11_isSafe 110 = .ok (.iconst 1, 1) := by decide +kernel
theorem dX11_isSafe_111 : decode cX11_isSafe 111 = .ok (.iand, 1) := by decide +kernel
theorem dX11_isSafe_112 : decode cX11_isSafe 112 = .ok (.iconst 1, 1) := by decide +kernel
theorem dX11_isSafe_113 : decode cX11_isSafe 113 = .ok (.if_icmp .ne 7, 3) := by decide +kernel
theorem dX11_isSafe_116 : decode cX11_isSafe 116 = .ok (.iconst 1, 1) := by decide +kernel
theorem dX11_isSafe_117 : decode cX11_isSafe 117 = .ok (.goto 4, 3) := by decide +kernel
theorem dX11_isSafe_120 : decode cX11_isSafe 120 = .ok (.iconst 0, 1) := by decide +kernel
theorem dX11_isSafe_121 : decode cX11_isSafe 121 = .ok (.istore 4, 2) := by decide +kernel
theorem dX11_isSafe_123 : decode cX11_isSafe 123 = .ok (.iload 6, 2) := by decide +kernel
theorem dX11_isSafe_125 : decode cX11_isSafe 125 = .ok (.iload 8, 2) := by decide +kernel
theorem dX11_isSafe_127 : decode cX11_isSafe 127 = .ok (.ifCond .ge 17, 3) := by decide +kernel
theorem dX11_isSafe_130 : decode cX11_isSafe 130 = .ok (.iload 9, 2) := by decide +kernel
theorem dX11_isSafe_132 : decode cX11_isSafe 132 = .ok (.ifCond .eq 12, 3) := by decide +kernel
theorem dX11_isSafe_135 : decode cX11_isSafe 135 = .ok (.iconst 1, 1) := by decide +kernel
theorem dX11_isSafe_136 : decode cX11_isSafe 136 = .ok (.iconst (-1), 1) := by decide +kernel
theorem dX11_isSafe_137 : decode cX11_isSafe 137 = .ok (.iload 8, 2) := by decide +kernel
theorem dX11_isSafe_139 : decode cX11_isSafe 139 = .ok (.isub, 1) := by decide +kernel
theorem dX11_isSafe_140 : decode cX11_isSafe 140 = .ok (.ishl, 1) := by decide +kernel
theorem dX11_isSafe_141 : decode cX11_isSafe 141 = .ok (.goto 4, 3) := by decide +kernel
theorem dX11_isSafe_144 : decode cX11_isSafe 144 = .ok (.iconst 0, 1) := by decide +kernel
theorem dX11_isSafe_145 : decode cX11_isSafe 145 = .ok (.ior, 1) := by decide +kernel
theorem dX11_isSafe_146 : decode cX11_isSafe 146 = .ok (.istore 6, 2) := by decide +kernel
theorem dX11_isSafe_148 : decode cX11_isSafe 148 = .ok (.iinc 7 1, 3) := by decide +kernel
theorem dX11_isSafe_151 : decode cX11_isSafe 151 = .ok (.goto (-120), 3) := by decide +kernel
theorem dX11_isSafe_154 : decode cX11_isSafe 154 = .ok (.iload_n 3, 1) := by decide +kernel
theorem dX11_isSafe_155 : decode cX11_isSafe 155 = .ok (.iload 6, 2) := by decide +kernel
theorem dX11_isSafe_157 : decode cX11_isSafe 157 = .ok (.ior, 1) := by decide +kernel
theorem dX11_isSafe_158 : decode cX11_isSafe 158 = .ok (.istore_n 3, 1) := by decide +kernel
theorem dX11_isSafe_159 : decode cX11_isSafe 159 = .ok (.iinc 5 1, 3) := by decide +kernel
theorem dX11_isSafe_162 : decode cX11_isSafe 162 = .ok (.goto (-152), 3) := by decide +kernel
theorem dX11_isSafe_165 : decode cX11_isSafe 165 = .ok (.iconst 0, 1) := by decide +kernel
theorem dX11_isSafe_166 : decode cX11_isSafe 166 = .ok (.istore 5, 2) := by decide +kernel
theorem dX11_isSafe_168 : decode cX11_isSafe 168 = .ok (.iload_n 2, 1) := by decide +kernel
theorem dX11_isSafe_169 : decode cX11_isSafe 169 = .ok (.ifCond .eq 67, 3) := by decide +kernel
theorem dX11_isSafe_172 : decode cX11_isSafe 172 = .ok (.iload 5, 2) := by decide +kernel
theorem dX11_isSafe_174 : decode cX11_isSafe 174 = .ok (.aload_n 0, 1) := by decide +kernel
theorem dX11_isSafe_175 : decode cX11_isSafe 175 = .ok (.getfield 13, 3) := by decide +kernel
theorem dX11_isSafe_178 : decode cX11_isSafe 178 = .ok (.aload_n 0, 1) := by decide +kernel
theorem dX11_isSafe_179 : decode cX11_isSafe 179 = .ok (.getfield 47, 3) := by decide +kernel
theorem dX11_isSafe_182 : decode cX11_isSafe 182 = .ok (.iload_n 1, 1) := by decide +kernel
theorem dX11_isSafe_183 : decode cX11_isSafe 183 = .ok (.iaload, 1) := by decide +kernel
theorem dX11_isSafe_184 : decode cX11_isSafe 184 = .ok (.iaload, 1) := by decide +kernel
theorem dX11_isSafe_185 : decode cX11_isSafe 185 = .ok (.if_icmp .ge 51, 3) := by decide +kernel
theorem dX11_isSafe_188 : decode cX11_isSafe 188 = .ok (.aload_n 0, 1) := by decide +kernel
theorem dX11_isSafe_189 : decode cX11_isSafe 189 = .ok (.getfield 50, 3) := by decide +kernel
theorem dX11_isSafe_192 : decode cX11_isSafe 192 = .ok (.iconst 3, 1) := by decide +kernel
theorem dX11_isSafe_193 : decode cX11_isSafe 193 = .ok (.iload_n 1, 1) := by decide +kernel
theorem dX11_isSafe_194 : decode cX11_isSafe 194 = .ok (.imul, 1) := by decide +kernel
theorem dX11_isSafe_195 : decode cX11_isSafe 195 = .ok (.iload 5, 2) := by decide +kernel
theorem dX11_isSafe_197 : decode cX11_isSafe 197 = .ok (.iadd, 1) := by decide +kernel
theorem dX11_isSafe_198 : decode cX11_isSafe 198 = .ok (.iaload, 1) := by decide +kernel
theorem dX11_isSafe_199 : decode cX11_isSafe 199 = .ok (.istore 6, 2) := by decide +kernel
theorem dX11_isSafe_201 : decode cX11_isSafe 201 = .ok (.iload 4, 2) := by decide +kernel
theorem dX11_isSafe_203 : decode cX11_isSafe 203 = .ok (.ifCond .eq 24, 3) := by decide +kernel
theorem dX11_isSafe_206 : decode cX11_isSafe 206 = .ok (.iload 6, 2) := by decide +kernel
theorem dX11_isSafe_208 : decode cX11_isSafe 208 = .ok (.ifCond .ge 15, 3) := by decide +kernel
theorem dX11_isSafe_211 : decode cX11_isSafe 211 = .ok (.iload_n 3, 1) := by decide +kernel
theorem dX11_isSafe_212 : decode cX11_isSafe 212 = .ok (.iconst (-1), 1) := by decide +kernel
theorem dX11_isSafe_213 : decode cX11_isSafe 213 = .ok (.iload 6, 2) := by decide +kernel
theorem dX11_isSafe_215 : decode cX11_isSafe 215 = .ok (.isub, 1) := by decide +kernel
theorem dX11_isSafe_216 : decode cX11_isSafe 216 = .ok (.ishr, 1) := by decide +kernel
theorem dX11_isSafe_217 : decode cX11_isSafe 217 = .ok (.iconst 1, 1) := by decide +kernel
theorem dX11_isSafe_218 : decode cX11_isSafe 218 = .ok (.iand, 1) := by decide +kernel
theorem dX11_isSafe_219 : decode cX11_isSafe 219 = .ok (.iconst 1, 1) := by decide +kernel
theorem dX11_isSafe_220 : decode cX11_isSafe 220 = .ok (.if_icmp .ne 7, 3) := by decide +kernel
theorem dX11_isSafe_223 : decode cX11_isSafe 223 = .ok (.iconst 1, 1) := by decide +kernel
theorem dX11_isSafe_224 : decode cX11_isSafe 224 = .ok (.goto 4, 3) := by decide +kernel
theorem dX11_isSafe_227 : decode cX11_isSafe 227 = .ok (.iconst 0, 1) := by decide +kernel
theorem dX11_isSafe_228 : decode cX11_isSafe 228 = .ok (.istore 4, 2) := by decide +kernel
theorem dX11_isSafe_230 : decode cX11_isSafe 230 = .ok (.iinc 5 1, 3) := by decide +kernel
theorem dX11_isSafe_233 : decode cX11_isSafe 233 = .ok (.goto (-65), 3) := by decide +kernel
theorem dX11_isSafe_236 : decode cX11_isSafe 236 = .ok (.iload 4, 2) := by decide +kernel
theorem dX11_isSafe_238 : decode cX11_isSafe 238 = .ok (.ireturn, 1) := by decide +kernel
theorem dX11_copyDraft_0 : decode cX11_copyDraft 0 = .ok (.aload_n 0, 1) := by decide +kernel
theorem dX11_copyDraft_1 : decode cX11_copyDraft 1 = .ok (.getfield 47, 3) := by decide +kernel
theorem dX11_copyDraft_4 : decode cX11_copyDraft 4 = .ok (.iload_n 1, 1) := by decide +kernel
theorem dX11_copyDraft_5 : decode cX11_copyDraft 5 = .ok (.aload_n 0, 1) := by decide +kernel
theorem dX11_copyDraft_6 : decode cX11_copyDraft 6 = .ok (.getfield 47, 3) := by decide +kernel
theorem dX11_copyDraft_9 : decode cX11_copyDraft 9 = .ok (.bipush 18, 2) := by decide +kernel
theorem dX11_copyDraft_11 : decode cX11_copyDraft 11 = .ok (.iaload, 1) := by decide +kernel
theorem dX11_copyDraft_12 : decode cX11_copyDraft 12 = .ok (.iastore, 1) := by decide +kernel
theorem dX11_copyDraft_13 : decode cX11_copyDraft 13 = .ok (.aload_n 0, 1) := by decide +kernel
theorem dX11_copyDraft_14 : decode cX11_copyDraft 14 = .ok (.getfield 53, 3) := by decide +kernel
theorem dX11_copyDraft_17 : decode cX11_copyDraft 17 = .ok (.iload_n 1, 1) := by decide +kernel
theorem dX11_copyDraft_18 : decode cX11_copyDraft 18 = .ok (.aload_n 0, 1) := by decide +kernel
theorem dX11_copyDraft_19 : decode cX11_copyDraft 19 = .ok (.getfield 53, 3) := by decide +kernel
theorem dX11_copyDraft_22 : decode cX11_copyDraft 22 = .ok (.bipush 18, 2) := by decide +kernel
theorem dX11_copyDraft_24 : decode cX11_copyDraft 24 = .ok (.iaload, 1) := by decide +kernel
theorem dX11_copyDraft_25 : decode cX11_copyDraft 25 = .ok (.iastore, 1) := by decide +kernel
theorem dX11_copyDraft_26 : decode cX11_copyDraft 26 = .ok (.iconst 0, 1) := by decide +kernel
theorem dX11_copyDraft_27 : decode cX11_copyDraft 27 = .ok (.istore_n 2, 1) := by decide +kernel
theorem dX11_copyDraft_28 : decode cX11_copyDraft 28 = .ok (.iload_n 2, 1) := by decide +kernel
theorem dX11_copyDraft_29 : decode cX11_copyDraft 29 = .ok (.iconst 3, 1) := by decide +kernel
theorem dX11_copyDraft_30 : decode cX11_copyDraft 30 = .ok (.if_icmp .ge 28, 3) := by decide +kernel
theorem dX11_copyDraft_33 : decode cX11_copyDraft 33 = .ok (.aload_n 0, 1) := by decide +kernel
theorem dX11_copyDraft_34 : decode cX11_copyDraft 34 = .ok (.getfield 50, 3) := by decide +kernel
theorem dX11_copyDraft_37 : decode cX11_copyDraft 37 = .ok (.iconst 3, 1) := by decide +kernel
theorem dX11_copyDraft_38 : decode cX11_copyDraft 38 = .ok (.iload_n 1, 1) := by decide +kernel
theorem dX11_copyDraft_39 : decode cX11_copyDraft 39 = .ok (.imul, 1) := by decide +kernel
theorem dX11_copyDraft_40 : decode cX11_copyDraft 40 = .ok (.iload_n 2, 1) := by decide +kernel
theorem dX11_copyDraft_41 : decode cX11_copyDraft 41 = .ok (.iadd, 1) := by decide +kernel
theorem dX11_copyDraft_42 : decode cX11_copyDraft 42 = .ok (.aload_n 0, 1) := by decide +kernel
theorem dX11_copyDraft_43 : decode cX11_copyDraft 43 = .ok (.getfield 50, 3) := by decide +kernel
theorem dX11_copyDraft_46 : decode cX11_copyDraft 46 = .ok (.bipush 54, 2) := by decide +kernel
theorem dX11_copyDraft_48 : decode cX11_copyDraft 48 = .ok (.iload_n 2, 1) := by decide +kernel
theorem dX11_copyDraft_49 : decode cX11_copyDraft 49 = .ok (.iadd, 1) := by decide +kernel
theorem dX11_copyDraft_50 : decode cX11_copyDraft 50 = .ok (.iaload, 1) := by decide +kernel
theorem dX11_copyDraft_51 : decode cX11_copyDraft 51 = .ok (.iastore, 1) := by decide +kernel
theorem dX11_copyDraft_52 : decode cX11_copyDraft 52 = .ok (.iinc 2 1, 3) := by decide +kernel
theorem dX11_copyDraft_55 : decode cX11_copyDraft 55 = .ok (.goto (-27), 3) := by decide +kernel
theorem dX11_copyDraft_58 : decode cX11_copyDraft 58 = .ok (.iconst 0, 1) := by decide +kernel
theorem dX11_copyDraft_59 : decode cX11_copyDraft 59 = .ok (.istore_n 2, 1) := by decide +kernel
theorem dX11_copyDraft_60 : decode cX11_copyDraft 60 = .ok (.iload_n 2, 1) := by decide +kernel
theorem dX11_copyDraft_61 : decode cX11_copyDraft 61 = .ok (.iconst 5, 1) := by decide +kernel
theorem dX11_copyDraft_62 : decode cX11_copyDraft 62 = .ok (.if_icmp .ge 87, 3) := by decide +kernel
theorem dX11_copyDraft_65 : decode cX11_copyDraft 65 = .ok (.aload_n 0, 1) := by decide +kernel
theorem dX11_copyDraft_66 : decode cX11_copyDraft 66 = .ok (.getfield 56, 3) := by decide +kernel
theorem dX11_copyDraft_69 : decode cX11_copyDraft 69 = .ok (.iconst 5, 1) := by decide +kernel
theorem dX11_copyDraft_70 : decode cX11_copyDraft 70 = .ok (.iload_n 1, 1) := by decide +kernel
theorem dX11_copyDraft_71 : decode cX11_copyDraft 71 = .ok (.imul, 1) := by decide +kernel
theorem dX11_copyDraft_72 : decode cX11_copyDraft 72 = .ok (.iload_n 2, 1) := by decide +kernel
theorem dX11_copyDraft_73 : decode cX11_copyDraft 73 = .ok (.iadd, 1) := by decide +kernel
theorem dX11_copyDraft_74 : decode cX11_copyDraft 74 = .ok (.aload_n 0, 1) := by decide +kernel
theorem dX11_copyDraft_75 : decode cX11_copyDraft 75 = .ok (.getfield 56, 3) := by decide +kernel
theorem dX11_copyDraft_78 : decode cX11_copyDraft 78 = .ok (.bipush 90, 2) := by decide +kernel
theorem dX11_copyDraft_80 : decode cX11_copyDraft 80 = .ok (.iload_n 2, 1) := by decide +kernel
theorem dX11_copyDraft_81 : decode cX11_copyDraft 81 = .ok (.iadd, 1) := by decide +kernel
theorem dX11_copyDraft_82 : decode cX11_copyDraft 82 = .ok (.iaload, 1) := by decide +kernel
theorem dX11_copyDraft_83 : decode cX11_copyDraft 83 = .ok (.iastore, 1) := by decide +kernel
theorem dX11_copyDraft_84 : decode cX11_copyDraft 84 = .ok (.aload_n 0, 1) := by decide +kernel
theorem dX11_copyDraft_85 : decode cX11_copyDraft 85 = .ok (.getfield 59, 3) := by decide +kernel
theorem dX11_copyDraft_88 : decode cX11_copyDraft 88 = .ok (.iconst 5, 1) := by decide +kernel
theorem dX11_copyDraft_89 : decode cX11_copyDraft 89 = .ok (.iload_n 1, 1) := by decide +kernel
theorem dX11_copyDraft_90 : decode cX11_copyDraft 90 = .ok (.imul, 1) := by decide +kernel
theorem dX11_copyDraft_91 : decode cX11_copyDraft 91 = .ok (.iload_n 2, 1) := by decide +kernel
theorem dX11_copyDraft_92 : decode cX11_copyDraft 92 = .ok (.iadd, 1) := by decide +kernel
theorem dX11_copyDraft_93 : decode cX11_copyDraft 93 = .ok (.aload_n 0, 1) := by decide +kernel
theorem dX11_copyDraft_94 : decode cX11_copyDraft 94 = .ok (.getfield 59, 3) := by decide +kernel
theorem dX11_copyDraft_97 : decode cX11_copyDraft 97 = .ok (.bipush 90, 2) := by decide +kernel
theorem dX11_copyDraft_99 : decode cX11_copyDraft 99 = .ok (.iload_n 2, 1) := by decide +kernel
theorem dX11_copyDraft_100 : decode cX11_copyDraft 100 = .ok (.iadd, 1) := by decide +kernel
theorem dX11_copyDraft_101 : decode cX11_copyDraft 101 = .ok (.iaload, 1) := by decide +kernel
theorem dX11_copyDraft_102 : decode cX11_copyDraft 102 = .ok (.iastore, 1) := by decide +kernel
theorem dX11_copyDraft_103 : decode cX11_copyDraft 103 = .ok (.iconst 0, 1) := by decide +kernel
theorem dX11_copyDraft_104 : decode cX11_copyDraft 104 = .ok (.istore_n 3, 1) := by decide +kernel
theorem dX11_copyDraft_105 : decode cX11_copyDraft 105 = .ok (.iload_n 3, 1) := by decide +kernel
theorem dX11_copyDraft_106 : decode cX11_copyDraft 106 = .ok (.iconst 3, 1) := by decide +kernel
theorem dX11_copyDraft_107 : decode cX11_copyDraft 107 = .ok (.if_icmp .ge 36, 3) := by decide +kernel
theorem dX11_copyDraft_110 : decode cX11_copyDraft 110 = .ok (.aload_n 0, 1) := by decide +kernel
theorem dX11_copyDraft_111 : decode cX11_copyDraft 111 = .ok (.getfield 62, 3) := by decide +kernel
theorem dX11_copyDraft_114 : decode cX11_copyDraft 114 = .ok (.iconst 3, 1) := by decide +kernel
theorem dX11_copyDraft_115 : decode cX11_copyDraft 115 = .ok (.iconst 5, 1) := by decide +kernel
theorem dX11_copyDraft_116 : decode cX11_copyDraft 116 = .ok (.iload_n 1, 1) := by decide +kernel
theorem dX11_copyDraft_117 : decode cX11_copyDraft 117 = .ok (.imul, 1) := by decide +kernel
theorem dX11_copyDraft_118 : decode cX11_copyDraft 118 = .ok (.iload_n 2, 1) := by decide +kernel
theorem dX11_copyDraft_119 : decode cX11_copyDraft 119 = .ok (.iadd, 1) := by decide +kernel
theorem dX11_copyDraft_120 : decode cX11_copyDraft 120 = .ok (.imul, 1) := by decide +kernel
theorem dX11_copyDraft_121 : decode cX11_copyDraft 121 = .ok (.iload_n 3, 1) := by decide +kernel
theorem dX11_copyDraft_122 : decode cX11_copyDraft 122 = .ok (.iadd, 1) := by decide +kernel
theorem dX11_copyDraft_123 : decode cX11_copyDraft 123 = .ok (.aload_n 0, 1) := by decide +kernel
theorem dX11_copyDraft_124 : decode cX11_copyDraft 124 = .ok (.getfield 62, 3) := by decide +kernel
theorem dX11_copyDraft_127 : decode cX11_copyDraft 127 = .ok (.iconst 3, 1) := by decide +kernel
theorem dX11_copyDraft_128 : decode cX11_copyDraft 128 = .ok (.bipush 90, 2) := by decide +kernel
theorem dX11_copyDraft_130 : decode cX11_copyDraft 130 = .ok (.iload_n 2, 1) := by decide +kernel
theorem dX11_copyDraft_131 : decode cX11_copyDraft 131 = .ok (.iadd, 1) := by decide +kernel
theorem dX11_copyDraft_132 : decode cX11_copyDraft 132 = .ok (.imul, 1) := by decide +kernel
theorem dX11_copyDraft_133 : decode cX11_copyDraft 133 = .ok (.iload_n 3, 1) := by decide +kernel
theorem dX11_copyDraft_134 : decode cX11_copyDraft 134 = .ok (.iadd, 1) := by decide +kernel
theorem dX11_copyDraft_135 : decode cX11_copyDraft 135 = .ok (.iaload, 1) := by decide +kernel
theorem dX11_copyDraft_136 : decode cX11_copyDraft 136 = .ok (.iastore, 1) := by decide +kernel
theorem dX11_copyDraft_137 : decode cX11_copyDraft 137 = .ok (.iinc 3 1, 3) := by decide +kernel
theorem dX11_copyDraft_140 : decode cX11_copyDraft 140 = .ok (.goto (-35), 3) := by decide +kernel
theorem dX11_copyDraft_143 : decode cX11_copyDraft 143 = .ok (.iinc 2 1, 3) := by decide +kernel
theorem dX11_copyDraft_146 : decode cX11_copyDraft 146 = .ok (.goto (-86), 3) := by decide +kernel
theorem dX11_copyDraft_149 : decode cX11_copyDraft 149 = .ok (.return_, 1) := by decide +kernel
theorem dX11_emptyDraft_0 : decode cX11_emptyDraft 0 = .ok (.aload_n 0, 1) := by decide +kernel
theorem dX11_emptyDraft_1 : decode cX11_emptyDraft 1 = .ok (.getfield 53, 3) := by decide +kernel
theorem dX11_emptyDraft_4 : decode cX11_emptyDraft 4 = .ok (.bipush 18, 2) := by decide +kernel
theorem dX11_emptyDraft_6 : decode cX11_emptyDraft 6 = .ok (.iconst 0, 1) := by decide +kernel
theorem dX11_emptyDraft_7 : decode cX11_emptyDraft 7 = .ok (.iastore, 1) := by decide +kernel
theorem dX11_emptyDraft_8 : decode cX11_emptyDraft 8 = .ok (.aload_n 0, 1) := by decide +kernel
theorem dX11_emptyDraft_9 : decode cX11_emptyDraft 9 = .ok (.getfield 47, 3) := by decide +kernel
theorem dX11_emptyDraft_12 : decode cX11_emptyDraft 12 = .ok (.bipush 18, 2) := by decide +kernel
theorem dX11_emptyDraft_14 : decode cX11_emptyDraft 14 = .ok (.iconst (-1), 1) := by decide +kernel
theorem dX11_emptyDraft_15 : decode cX11_emptyDraft 15 = .ok (.iastore, 1) := by decide +kernel
theorem dX11_emptyDraft_16 : decode cX11_emptyDraft 16 = .ok (.return_, 1) := by decide +kernel
theorem dX11_enter_0 : decode cX11_enter 0 = .ok (.aload_n 0, 1) := by decide +kernel
theorem dX11_enter_1 : decode cX11_enter 1 = .ok (.getfield 47, 3) := by decide +kernel
theorem dX11_enter_4 : decode cX11_enter 4 = .ok (.bipush 18, 2) := by decide +kernel
theorem dX11_enter_6 : decode cX11_enter 6 = .ok (.iaload, 1) := by decide +kernel
theorem dX11_enter_7 : decode cX11_enter 7 = .ok (.iconst (-1), 1) := by decide +kernel
theorem dX11_enter_8 : decode cX11_enter 8 = .ok (.if_icmp .eq 17, 3) := by decide +kernel
theorem dX11_enter_11 : decode cX11_enter 11 = .ok (.aload_n 0, 1) := by decide +kernel
theorem dX11_enter_12 : decode cX11_enter 12 = .ok (.bipush 18, 2) := by decide +kernel
theorem dX11_enter_14 : decode cX11_enter 14 = .ok (.iconst 1, 1) := by decide +kernel
theorem dX11_enter_15 : decode cX11_enter 15 = .ok (.invokevirtual 155, 3) := by decide +kernel
theorem dX11_enter_18 : decode cX11_enter 18 = .ok (.ifCond .eq 7, 3) := by decide +kernel
theorem dX11_enter_21 : decode cX11_enter 21 = .ok (.iconst 1, 1) := by decide +kernel
theorem dX11_enter_22 : decode cX11_enter 22 = .ok (.goto 4, 3) := by decide +kernel
theorem dX11_enter_25 : decode cX11_enter 25 = .ok (.iconst 0, 1) := by decide +kernel
theorem dX11_enter_26 : decode cX11_enter 26 = .ok (.istore_n 1, 1) := by decide +kernel
theorem dX11_enter_27 : decode cX11_enter 27 = .ok (.aload_n 0, 1) := by decide +kernel
theorem dX11_enter_28 : decode cX11_enter 28 = .ok (.iload_n 1, 1) := by decide +kernel
theorem dX11_enter_29 : decode cX11_enter 29 = .ok (.ifCond .ne 7, 3) := by decide +kernel
theorem dX11_enter_32 : decode cX11_enter 32 = .ok (.iconst 1, 1) := by decide +kernel
theorem dX11_enter_33 : decode cX11_enter 33 = .ok (.goto 17, 3) := by decide +kernel
theorem dX11_enter_36 : decode cX11_enter 36 = .ok (.aload_n 0, 1) := by decide +kernel
theorem dX11_enter_37 : decode cX11_enter 37 = .ok (.getfield 159, 3) := by decide +kernel
theorem dX11_enter_40 : decode cX11_enter 40 = .ok (.bipush 12, 2) := by decide +kernel
theorem dX11_enter_42 : decode cX11_enter 42 = .ok (.if_icmp .ne 7, 3) := by decide +kernel
theorem dX11_enter_45 : decode cX11_enter 45 = .ok (.iconst 2, 1) := by decide +kernel
theorem dX11_enter_46 : decode cX11_enter 46 = .ok (.goto 4, 3) := by decide +kernel
theorem dX11_enter_49 : decode cX11_enter 49 = .ok (.iconst 0, 1) := by decide +kernel
theorem dX11_enter_50 : decode cX11_enter 50 = .ok (.invokevirtual 113, 3) := by decide +kernel
theorem dX11_enter_53 : decode cX11_enter 53 = .ok (.ifCond .eq 5, 3) := by decide +kernel
theorem dX11_enter_56 : decode cX11_enter 56 = .ok (.iconst 0, 1) := by decide +kernel
theorem dX11_enter_57 : decode cX11_enter 57 = .ok (.ireturn, 1) := by decide +kernel
theorem dX11_enter_58 : decode cX11_enter 58 = .ok (.aload_n 0, 1) := by decide +kernel
theorem dX11_enter_59 : decode cX11_enter 59 = .ok (.aload_n 0, 1) := by decide +kernel
theorem dX11_enter_60 : decode cX11_enter 60 = .ok (.getfield 159, 3) := by decide +kernel
theorem dX11_enter_63 : decode cX11_enter 63 = .ok (.invokevirtual 162, 3) := by decide +kernel
theorem dX11_enter_66 : decode cX11_enter 66 = .ok (.aload_n 0, 1) := by decide +kernel
theorem dX11_enter_67 : decode cX11_enter 67 = .ok (.getfield 44, 3) := by decide +kernel
theorem dX11_enter_70 : decode cX11_enter 70 = .ok (.aload_n 0, 1) := by decide +kernel
theorem dX11_enter_71 : decode cX11_enter 71 = .ok (.getfield 159, 3) := by decide +kernel
theorem dX11_enter_74 : decode cX11_enter 74 = .ok (.iconst 0, 1) := by decide +kernel
theorem dX11_enter_75 : decode cX11_enter 75 = .ok (.bastore, 1) := by decide +kernel
theorem dX11_enter_76 : decode cX11_enter 76 = .ok (.aload_n 0, 1) := by decide +kernel
theorem dX11_enter_77 : decode cX11_enter 77 = .ok (.dup, 1) := by decide +kernel
theorem dX11_enter_78 : decode cX11_enter 78 = .ok (.getfield 159, 3) := by decide +kernel
theorem dX11_enter_81 : decode cX11_enter 81 = .ok (.iconst 1, 1) := by decide +kernel
theorem dX11_enter_82 : decode cX11_enter 82 = .ok (.iadd, 1) := by decide +kernel
theorem dX11_enter_83 : decode cX11_enter 83 = .ok (.putfield 159, 3) := by decide +kernel
theorem dX11_enter_86 : decode cX11_enter 86 = .ok (.aload_n 0, 1) := by decide +kernel
theorem dX11_enter_87 : decode cX11_enter 87 = .ok (.invokevirtual 166, 3) := by decide +kernel
theorem dX11_enter_90 : decode cX11_enter 90 = .ok (.ifCond .eq 10, 3) := by decide +kernel
theorem dX11_enter_93 : decode cX11_enter 93 = .ok (.aload_n 0, 1) := by decide +kernel
theorem dX11_enter_94 : decode cX11_enter 94 = .ok (.invokevirtual 127, 3) := by decide +kernel
theorem dX11_enter_97 : decode cX11_enter 97 = .ok (.ifCond .ne 31, 3) := by decide +kernel
theorem dX11_enter_100 : decode cX11_enter 100 = .ok (.aload_n 0, 1) := by decide +kernel
theorem dX11_enter_101 : decode cX11_enter 101 = .ok (.dup, 1) := by decide +kernel
theorem dX11_enter_102 : decode cX11_enter 102 = .ok (.getfield 159, 3) := by decide +kernel
theorem dX11_enter_105 : decode cX11_enter 105 = .ok (.iconst 1, 1) := by decide +kernel
theorem dX11_enter_106 : decode cX11_enter 106 = .ok (.isub, 1) := by decide +kernel
theorem dX11_enter_107 : decode cX11_enter 107 = .ok (.putfield 159, 3) := by decide +kernel
theorem dX11_enter_110 : decode cX11_enter 110 = .ok (.aload_n 0, 1) := by decide +kernel
theorem dX11_enter_111 : decode cX11_enter 111 = .ok (.invokevirtual 166, 3) := by decide +kernel
theorem dX11_enter_114 : decode cX11_enter 114 = .ok (.pop, 1) := by decide +kernel
theorem dX11_enter_115 : decode cX11_enter 115 = .ok (.aload_n 0, 1) := by decide +kernel
theorem dX11_enter_116 : decode cX11_enter 116 = .ok (.invokevirtual 127, 3) := by decide +kernel
theorem dX11_enter_119 : decode cX11_enter 119 = .ok (.pop, 1) := by decide +kernel
theorem dX11_enter_120 : decode cX11_enter 120 = .ok (.aload_n 0, 1) := by decide +kernel
theorem dX11_enter_121 : decode cX11_enter 121 = .ok (.iconst 2, 1) := by decide +kernel
theorem dX11_enter_122 : decode cX11_enter 122 = .ok (.invokevirtual 113, 3) := by decide +kernel
theorem dX11_enter_125 : decode cX11_enter 125 = .ok (.pop, 1) := by decide +kernel
theorem dX11_enter_126 : decode cX11_enter 126 = .ok (.iconst 0, 1) := by decide +kernel
theorem dX11_enter_127 : decode cX11_enter 127 = .ok (.ireturn, 1) := by decide +kernel
theorem dX11_enter_128 : decode cX11_enter 128 = .ok (.aload_n 0, 1) := by decide +kernel
theorem dX11_enter_129 : decode cX11_enter 129 = .ok (.invokevirtual 169, 3) := by decide +kernel
theorem dX11_enter_132 : decode cX11_enter 132 = .ok (.aload_n 0, 1) := by decide +kernel
theorem dX11_enter_133 : decode cX11_enter 133 = .ok (.getfield 159, 3) := by decide +kernel
theorem dX11_enter_136 : decode cX11_enter 136 = .ok (.iconst 1, 1) := by decide +kernel
theorem dX11_enter_137 : decode cX11_enter 137 = .ok (.isub, 1) := by decide +kernel
theorem dX11_enter_138 : decode cX11_enter 138 = .ok (.ireturn, 1) := by decide +kernel
theorem dX11_deny_0 : decode cX11_deny 0 = .ok (.aload_n 0, 1) := by decide +kernel
theorem dX11_deny_1 : decode cX11_deny 1 = .ok (.getfield 53, 3) := by decide +kernel
theorem dX11_deny_4 : decode cX11_deny 4 = .ok (.bipush 18, 2) := by decide +kernel
theorem dX11_deny_6 : decode cX11_deny 6 = .ok (.iaload, 1) := by decide +kernel
theorem dX11_deny_7 : decode cX11_deny 7 = .ok (.ifCond .le 17, 3) := by decide +kernel
theorem dX11_deny_10 : decode cX11_deny 10 = .ok (.aload_n 0, 1) := by decide +kernel
theorem dX11_deny_11 : decode cX11_deny 11 = .ok (.bipush 18, 2) := by decide +kernel
theorem dX11_deny_13 : decode cX11_deny 13 = .ok (.iconst 0, 1) := by decide +kernel
theorem dX11_deny_14 : decode cX11_deny 14 = .ok (.invokevirtual 155, 3) := by decide +kernel
theorem dX11_deny_17 : decode cX11_deny 17 = .ok (.ifCond .eq 7, 3) := by decide +kernel
theorem dX11_deny_20 : decode cX11_deny 20 = .ok (.iconst 1, 1) := by decide +kernel
theorem dX11_deny_21 : decode cX11_deny 21 = .ok (.goto 4, 3) := by decide +kernel
theorem dX11_deny_24 : decode cX11_deny 24 = .ok (.iconst 0, 1) := by decide +kernel
theorem dX11_deny_25 : decode cX11_deny 25 = .ok (.istore_n 1, 1) := by decide +kernel
theorem dX11_deny_26 : decode cX11_deny 26 = .ok (.aload_n 0, 1) := by decide +kernel
theorem dX11_deny_27 : decode cX11_deny 27 = .ok (.iload_n 1, 1) := by decide +kernel
theorem dX11_deny_28 : decode cX11_deny 28 = .ok (.ifCond .ne 7, 3) := by decide +kernel
theorem dX11_deny_31 : decode cX11_deny 31 = .ok (.iconst 1, 1) := by decide +kernel
theorem dX11_deny_32 : decode cX11_deny 32 = .ok (.goto 17, 3) := by decide +kernel
theorem dX11_deny_35 : decode cX11_deny 35 = .ok (.aload_n 0, 1) := by decide +kernel
theorem dX11_deny_36 : decode cX11_deny 36 = .ok (.getfield 172, 3) := by decide +kernel
theorem dX11_deny_39 : decode cX11_deny 39 = .ok (.bipush 6, 2) := by decide +kernel
theorem dX11_deny_41 : decode cX11_deny 41 = .ok (.if_icmp .ne 7, 3) := by decide +kernel
theorem dX11_deny_44 : decode cX11_deny 44 = .ok (.iconst 2, 1) := by decide +kernel
theorem dX11_deny_45 : decode cX11_deny 45 = .ok (.goto 4, 3) := by decide +kernel
theorem dX11_deny_48 : decode cX11_deny 48 = .ok (.iconst 0, 1) := by decide +kernel
theorem dX11_deny_49 : decode cX11_deny 49 = .ok (.invokevirtual 113, 3) := by decide +kernel
theorem dX11_deny_52 : decode cX11_deny 52 = .ok (.ifCond .eq 5, 3) := by decide +kernel
theorem dX11_deny_55 : decode cX11_deny 55 = .ok (.iconst 0, 1) := by decide +kernel
theorem dX11_deny_56 : decode cX11_deny 56 = .ok (.ireturn, 1) := by decide +kernel
theorem dX11_deny_57 : decode cX11_deny 57 = .ok (.aload_n 0, 1) := by decide +kernel
theorem dX11_deny_58 : decode cX11_deny 58 = .ok (.bipush 12, 2) := by decide +kernel
theorem dX11_deny_60 : decode cX11_deny 60 = .ok (.aload_n 0, 1) := by decide +kernel
theorem dX11_deny_61 : decode cX11_deny 61 = .ok (.getfield 172, 3) := by decide +kernel
theorem dX11_deny_64 : decode cX11_deny 64 = .ok (.iadd, 1) := by decide +kernel
theorem dX11_deny_65 : decode cX11_deny 65 = .ok (.invokevirtual 162, 3) := by decide +kernel
theorem dX11_deny_68 : decode cX11_deny 68 = .ok (.aload_n 0, 1) := by decide +kernel
theorem dX11_deny_69 : decode cX11_deny 69 = .ok (.getfield 47, 3) := by decide +kernel
theorem dX11_deny_72 : decode cX11_deny 72 = .ok (.bipush 12, 2) := by decide +kernel
theorem dX11_deny_74 : decode cX11_deny 74 = .ok (.aload_n 0, 1) := by decide +kernel
theorem dX11_deny_75 : decode cX11_deny 75 = .ok (.getfield 172, 3) := by decide +kernel
theorem dX11_deny_78 : decode cX11_deny 78 = .ok (.iadd, 1) := by decide +kernel
theorem dX11_deny_79 : decode cX11_deny 79 = .ok (.iconst (-1), 1) := by decide +kernel
theorem dX11_deny_80 : decode cX11_deny 80 = .ok (.iastore, 1) := by decide +kernel
theorem dX11_deny_81 : decode cX11_deny 81 = .ok (.aload_n 0, 1) := by decide +kernel
theorem dX11_deny_82 : decode cX11_deny 82 = .ok (.dup, 1) := by decide +kernel
theorem dX11_deny_83 : decode cX11_deny 83 = .ok (.getfield 172, 3) := by decide +kernel
theorem dX11_deny_86 : decode cX11_deny 86 = .ok (.iconst 1, 1) := by decide +kernel
theorem dX11_deny_87 : decode cX11_deny 87 = .ok (.iadd, 1) := by decide +kernel
theorem dX11_deny_88 : decode cX11_deny 88 = .ok (.putfield 172, 3) := by decide +kernel
theorem dX11_deny_91 : decode cX11_deny 91 = .ok (.aload_n 0, 1) := by decide +kernel
theorem dX11_deny_92 : decode cX11_deny 92 = .ok (.invokevirtual 169, 3) := by decide +kernel
theorem dX11_deny_95 : decode cX11_deny 95 = .ok (.aload_n 0, 1) := by decide +kernel
theorem dX11_deny_96 : decode cX11_deny 96 = .ok (.getfield 172, 3) := by decide +kernel
theorem dX11_deny_99 : decode cX11_deny 99 = .ok (.iconst 1, 1) := by decide +kernel
theorem dX11_deny_100 : decode cX11_deny 100 = .ok (.isub, 1) := by decide +kernel
theorem dX11_deny_101 : decode cX11_deny 101 = .ok (.ireturn, 1) := by decide +kernel
theorem dX11_remove_0 : decode cX11_remove 0 = .ok (.iload_n 1, 1) := by decide +kernel
theorem dX11_remove_1 : decode cX11_remove 1 = .ok (.iconst 0, 1) := by decide +kernel
theorem dX11_remove_2 : decode cX11_remove 2 = .ok (.aload_n 0, 1) := by decide +kernel
theorem dX11_remove_3 : decode cX11_remove 3 = .ok (.getfield 159, 3) := by decide +kernel
theorem dX11_remove_6 : decode cX11_remove 6 = .ok (.iconst 1, 1) := by decide +kernel
theorem dX11_remove_7 : decode cX11_remove 7 = .ok (.isub, 1) := by decide +kernel
theorem dX11_remove_8 : decode cX11_remove 8 = .ok (.invokestatic 102, 3) := by decide +kernel
theorem dX11_remove_11 : decode cX11_remove 11 = .ok (.istore_n 2, 1) := by decide +kernel
theorem dX11_remove_12 : decode cX11_remove 12 = .ok (.aload_n 0, 1) := by decide +kernel
theorem dX11_remove_13 : decode cX11_remove 13 = .ok (.iload_n 2, 1) := by decide +kernel
theorem dX11_remove_14 : decode cX11_remove 14 = .ok (.ifCond .ne 7, 3) := by decide +kernel
theorem dX11_remove_17 : decode cX11_remove 17 = .ok (.iconst 1, 1) := by decide +kernel
theorem dX11_remove_18 : decode cX11_remove 18 = .ok (.goto 17, 3) := by decide +kernel
theorem dX11_remove_21 : decode cX11_remove 21 = .ok (.aload_n 0, 1) := by decide +kernel
theorem dX11_remove_22 : decode cX11_remove 22 = .ok (.getfield 44, 3) := by decide +kernel
theorem dX11_remove_25 : decode cX11_remove 25 = .ok (.iload_n 1, 1) := by decide +kernel
theorem dX11_remove_26 : decode cX11_remove 26 = .ok (.baload, 1) := by decide +kernel
theorem dX11_remove_27 : decode cX11_remove 27 = .ok (.ifCond .eq 7, 3) := by decide +kernel
theorem dX11_remove_30 : decode cX11_remove 30 = .ok (.iconst 2, 1) := by decide +kernel
theorem dX11_remove_31 : decode cX11_remove 31 = .ok (.goto 4, 3) := by decide +kernel
theorem dX11_remove_34 : decode cX11_remove 34 = .ok (.iconst 0, 1) := by decide +kernel
theorem dX11_remove_35 : decode cX11_remove 35 = .ok (.invokevirtual 113, 3) := by decide +kernel
theorem dX11_remove_38 : decode cX11_remove 38 = .ok (.ifCond .eq 5, 3) := by decide +kernel
theorem dX11_remove_41 : decode cX11_remove 41 = .ok (.iconst 0, 1) := by decide +kernel
theorem dX11_remove_42 : decode cX11_remove 42 = .ok (.ireturn, 1) := by decide +kernel
theorem dX11_remove_43 : decode cX11_remove 43 = .ok (.aload_n 0, 1) := by decide +kernel
theorem dX11_remove_44 : decode cX11_remove 44 = .ok (.getfield 44, 3) := by decide +kernel
theorem dX11_remove_47 : decode cX11_remove 47 = .ok (.iload_n 1, 1) := by decide +kernel
theorem dX11_remove_48 : decode cX11_remove 48 = .ok (.iconst 1, 1) := by decide +kernel
theorem dX11_remove_49 : decode cX11_remove 49 = .ok (.bastore, 1) := by decide +kernel
theorem dX11_remove_50 : decode cX11_remove 50 = .ok (.aload_n 0, 1) := by decide +kernel
theorem dX11_remove_51 : decode cX11_remove 51 = .ok (.invokevirtual 166, 3) := by decide +kernel
theorem dX11_remove_54 : decode cX11_remove 54 = .ok (.pop, 1) := by decide +kernel
theorem dX11_remove_55 : decode cX11_remove 55 = .ok (.aload_n 0, 1) := by decide +kernel
theorem dX11_remove_56 : decode cX11_remove 56 = .ok (.invokevirtual 127, 3) := by decide +kernel
theorem dX11_remove_59 : decode cX11_remove 59 = .ok (.ifCond .ne 28, 3) := by decide +kernel
theorem dX11_remove_62 : decode cX11_remove 62 = .ok (.aload_n 0, 1) := by decide +kernel
theorem dX11_remove_63 : decode cX11_remove 63 = .ok (.getfield 44, 3) := by decide +kernel
theorem dX11_remove_66 : decode cX11_remove 66 = .ok (.iload_n 1, 1) := by decide +kernel
theorem dX11_remove_67 : decode cX11_remove 67 = .ok (.iconst 0, 1) := by decide +kernel
theorem dX11_remove_68 : decode cX11_remove 68 = .ok (.bastore, 1) := by decide +kernel
theorem dX11_remove_69 : decode cX11_remove 69 = .ok (.aload_n 0, 1) := by decide +kernel
theorem dX11_remove_70 : decode cX11_remove 70 = .ok (.invokevirtual 166, 3) := by decide +kernel
theorem dX11_remove_73 : decode cX11_remove 73 = .ok (.pop, 1) := by decide +kernel
theorem dX11_remove_74 : decode cX11_remove 74 = .ok (.aload_n 0, 1) := by decide +kernel
theorem dX11_remove_75 : decode cX11_remove 75 = .ok (.invokevirtual 127, 3) := by decide +kernel
theorem dX11_remove_78 : decode cX11_remove 78 = .ok (.pop, 1) := by decide +kernel
theorem dX11_remove_79 : decode cX11_remove 79 = .ok (.aload_n 0, 1) := by decide +kernel
theorem dX11_remove_80 : decode cX11_remove 80 = .ok (.iconst 2, 1) := by decide +kernel
theorem dX11_remove_81 : decode cX11_remove 81 = .ok (.invokevirtual 113, 3) := by decide +kernel
theorem dX11_remove_84 : decode cX11_remove 84 = .ok (.pop, 1) := by decide +kernel
theorem dX11_remove_85 : decode cX11_remove 85 = .ok (.iconst 0, 1) := by decide +kernel
theorem dX11_remove_86 : decode cX11_remove 86 = .ok (.ireturn, 1) := by decide +kernel
theorem dX11_remove_87 : decode cX11_remove 87 = .ok (.iconst 0, 1) := by decide +kernel
theorem dX11_remove_88 : decode cX11_remove 88 = .ok (.istore_n 3, 1) := by decide +kernel
theorem dX11_remove_89 : decode cX11_remove 89 = .ok (.iconst 0, 1) := by decide +kernel
theorem dX11_remove_90 : decode cX11_remove 90 = .ok (.istore 4, 2) := by decide +kernel
theorem dX11_remove_92 : decode cX11_remove 92 = .ok (.iload 4, 2) := by decide +kernel
theorem dX11_remove_94 : decode cX11_remove 94 = .ok (.aload_n 0, 1) := by decide +kernel
theorem dX11_remove_95 : decode cX11_remove 95 = .ok (.getfield 159, 3) := by decide +kernel
theorem dX11_remove_98 : decode cX11_remove 98 = .ok (.if_icmp .ge 27, 3) := by decide +kernel
theorem dX11_remove_101 : decode cX11_remove 101 = .ok (.iload_n 3, 1) := by decide +kernel
theorem dX11_remove_102 : decode cX11_remove 102 = .ok (.aload_n 0, 1) := by decide +kernel
theorem dX11_remove_103 : decode cX11_remove 103 = .ok (.getfield 44, 3) := by decide +kernel
theorem dX11_remove_106 : decode cX11_remove 106 = .ok (.iload 4, 2) := by decide +kernel
theorem dX11_remove_108 : decode cX11_remove 108 = .ok (.baload, 1) := by decide +kernel
theorem dX11_remove_109 : decode cX11_remove 109 = .ok (.ifCond .eq 7, 3) := by decide +kernel
theorem dX11_remove_112 : decode cX11_remove 112 = .ok (.iconst 0, 1) := by decide +kernel
theorem dX11_remove_113 : decode cX11_remove 113 = .ok (.goto 4, 3) := by decide +kernel
theorem dX11_remove_116 : decode cX11_remove 116 = .ok (.iconst 1, 1) := by decide +kernel
theorem dX11_remove_117 : decode cX11_remove 117 = .ok (.iadd, 1) := by decide +kernel
theorem dX11_remove_118 : decode cX11_remove 118 = .ok (.istore_n 3, 1) := by decide +kernel
theorem dX11_remove_119 : decode cX11_remove 119 = .ok (.iinc 4 1, 3) := by decide +kernel
theorem dX11_remove_122 : decode cX11_remove 122 = .ok (.goto (-30), 3) := by decide +kernel
theorem dX11_remove_125 : decode cX11_remove 125 = .ok (.iload_n 3, 1) := by decide +kernel
theorem dX11_remove_126 : decode cX11_remove 126 = .ok (.ireturn, 1) := by decide +kernel
theorem dX11_times_0 : decode cX11_times 0 = .ok (.iconst 0, 1) := by decide +kernel
theorem dX11_times_1 : decode cX11_times 1 = .ok (.istore_n 3, 1) := by decide +kernel
theorem dX11_times_2 : decode cX11_times 2 = .ok (.iconst 0, 1) := by decide +kernel
theorem dX11_times_3 : decode cX11_times 3 = .ok (.istore 4, 2) := by decide +kernel
theorem dX11_times_5 : decode cX11_times 5 = .ok (.iload 4, 2) := by decide +kernel
theorem dX11_times_7 : decode cX11_times 7 = .ok (.aload_n 0, 1) := by decide +kernel
theorem dX11_times_8 : decode cX11_times 8 = .ok (.getfield 13, 3) := by decide +kernel
theorem dX11_times_11 : decode cX11_times 11 = .ok (.aload_n 0, 1) := by decide +kernel
theorem dX11_times_12 : decode cX11_times 12 = .ok (.getfield 47, 3) := by decide +kernel
theorem dX11_times_15 : decode cX11_times 15 = .ok (.iload_n 1, 1) := by decide +kernel
theorem dX11_times_16 : decode cX11_times 16 = .ok (.iaload, 1) := by decide +kernel
theorem dX11_times_17 : decode cX11_times 17 = .ok (.iaload, 1) := by decide +kernel
theorem dX11_times_18 : decode cX11_times 18 = .ok (.if_icmp .ge 32, 3) := by decide +kernel
theorem dX11_times_21 : decode cX11_times 21 = .ok (.iload_n 3, 1) := by decide +kernel
theorem dX11_times_22 : decode cX11_times 22 = .ok (.aload_n 0, 1) := by decide +kernel
theorem dX11_times_23 : decode cX11_times 23 = .ok (.getfield 50, 3) := by decide +kernel
theorem dX11_times_26 : decode cX11_times 26 = .ok (.iconst 3, 1) := by decide +kernel
theorem dX11_times_27 : decode cX11_times 27 = .ok (.iload_n 1, 1) := by decide +kernel
theorem dX11_times_28 : decode cX11_times 28 = .ok (.imul, 1) := by decide +kernel
theorem dX11_times_29 : decode cX11_times 29 = .ok (.iload 4, 2) := by decide +kernel
theorem dX11_times_31 : decode cX11_times 31 = .ok (.iadd, 1) := by decide +kernel
theorem dX11_times_32 : decode cX11_times 32 = .ok (.iaload, 1) := by decide +kernel
theorem dX11_times_33 : decode cX11_times 33 = .ok (.iload_n 2, 1) := by decide +kernel
theorem dX11_times_34 : decode cX11_times 34 = .ok (.if_icmp .ne 7, 3) := by decide +kernel
theorem dX11_times_37 : decode cX11_times 37 = .ok (.iconst 1, 1) := by decide +kernel
theorem dX11_times_38 : decode cX11_times 38 = .ok (.goto 4, 3) := by decide +kernel
theorem dX11_times_41 : decode cX11_times 41 = .ok (.iconst 0, 1) := by decide +kernel
theorem dX11_times_42 : decode cX11_times 42 = .ok (.iadd, 1) := by decide +kernel
theorem dX11_times_43 : decode cX11_times 43 = .ok (.istore_n 3, 1) := by decide +kernel
theorem dX11_times_44 : decode cX11_times 44 = .ok (.iinc 4 1, 3) := by decide +kernel
theorem dX11_times_47 : decode cX11_times 47 = .ok (.goto (-42), 3) := by decide +kernel
theorem dX11_times_50 : decode cX11_times 50 = .ok (.iconst 5, 1) := by decide +kernel
theorem dX11_times_51 : decode cX11_times 51 = .ok (.iload_n 1, 1) := by decide +kernel
theorem dX11_times_52 : decode cX11_times 52 = .ok (.imul, 1) := by decide +kernel
theorem dX11_times_53 : decode cX11_times 53 = .ok (.istore 4, 2) := by decide +kernel
theorem dX11_times_55 : decode cX11_times 55 = .ok (.iload 4, 2) := by decide +kernel
theorem dX11_times_57 : decode cX11_times 57 = .ok (.iconst 5, 1) := by decide +kernel
theorem dX11_times_58 : decode cX11_times 58 = .ok (.iload_n 1, 1) := by decide +kernel
theorem dX11_times_59 : decode cX11_times 59 = .ok (.imul, 1) := by decide +kernel
theorem dX11_times_60 : decode cX11_times 60 = .ok (.aload_n 0, 1) := by decide +kernel
theorem dX11_times_61 : decode cX11_times 61 = .ok (.getfield 53, 3) := by decide +kernel
theorem dX11_times_64 : decode cX11_times 64 = .ok (.iload_n 1, 1) := by decide +kernel
theorem dX11_times_65 : decode cX11_times 65 = .ok (.iaload, 1) := by decide +kernel
theorem dX11_times_66 : decode cX11_times 66 = .ok (.iadd, 1) := by decide +kernel
theorem dX11_times_67 : decode cX11_times 67 = .ok (.if_icmp .ge 53, 3) := by decide +kernel
theorem dX11_times_70 : decode cX11_times 70 = .ok (.iconst 0, 1) := by decide +kernel
theorem dX11_times_71 : decode cX11_times 71 = .ok (.istore 5, 2) := by decide +kernel
theorem dX11_times_73 : decode cX11_times 73 = .ok (.iload 5, 2) := by decide +kernel
theorem dX11_times_75 : decode cX11_times 75 = .ok (.aload_n 0, 1) := by decide +kernel
theorem dX11_times_76 : decode cX11_times 76 = .ok (.iload 4, 2) := by decide +kernel
theorem dX11_times_78 : decode cX11_times 78 = .ok (.invokevirtual 152, 3) := by decide +kernel
theorem dX11_times_81 : decode cX11_times 81 = .ok (.if_icmp .ge 33, 3) := by decide +kernel
theorem dX11_times_84 : decode cX11_times 84 = .ok (.iload_n 3, 1) := by decide +kernel
theorem dX11_times_85 : decode cX11_times 85 = .ok (.aload_n 0, 1) := by decide +kernel
theorem dX11_times_86 : decode cX11_times 86 = .ok (.getfield 62, 3) := by decide +kernel
theorem dX11_times_89 : decode cX11_times 89 = .ok (.iconst 3, 1) := by decide +kernel
theorem dX11_times_90 : decode cX11_times 90 = .ok (.iload 4, 2) := by decide +kernel
theorem dX11_times_92 : decode cX11_times 92 = .ok (.imul, 1) := by decide +kernel
theorem dX11_times_93 : decode cX11_times 93 = .ok (.iload 5, 2) := by decide +kernel
theorem dX11_times_95 : decode cX11_times 95 = .ok (.iadd, 1) := by decide +kernel
theorem dX11_times_96 : decode cX11_times 96 = .ok (.iaload, 1) := by decide +kernel
theorem dX11_times_97 : decode cX11_times 97 = .ok (.iload_n 2, 1) := by decide +kernel
theorem dX11_times_98 : decode cX11_times 98 = .ok (.if_icmp .ne 7, 3) := by decide +kernel
theorem dX11_times_101 : decode cX11_times 101 = .ok (.iconst 1, 1) := by decide +kernel
theorem dX11_times_102 : decode cX11_times 102 = .ok (.goto 4, 3) := by decide +kernel
theorem dX11_times_105 : decode cX11_times 105 = .ok (.iconst 0, 1) := by decide +kernel
theorem dX11_times_106 : decode cX11_times 106 = .ok (.iadd, 1) := by decide +kernel
theorem dX11_times_107 : decode cX11_times 107 = .ok (.istore_n 3, 1) := by decide +kernel
theorem dX11_times_108 : decode cX11_times 108 = .ok (.iinc 5 1, 3) := by decide +kernel
theorem dX11_times_111 : decode cX11_times 111 = .ok (.goto (-38), 3) := by decide +kernel
theorem dX11_times_114 : decode cX11_times 114 = .ok (.iinc 4 1, 3) := by decide +kernel
theorem dX11_times_117 : decode cX11_times 117 = .ok (.goto (-62), 3) := by decide +kernel
theorem dX11_times_120 : decode cX11_times 120 = .ok (.iload_n 3, 1) := by decide +kernel
theorem dX11_times_121 : decode cX11_times 121 = .ok (.ireturn, 1) := by decide +kernel
theorem dX11_lastOfHead_0 : decode cX11_lastOfHead 0 = .ok (.aload_n 0, 1) := by decide +kernel
theorem dX11_lastOfHead_1 : decode cX11_lastOfHead 1 = .ok (.getfield 50, 3) := by decide +kernel
theorem dX11_lastOfHead_4 : decode cX11_lastOfHead 4 = .ok (.iconst 3, 1) := by decide +kernel
theorem dX11_lastOfHead_5 : decode cX11_lastOfHead 5 = .ok (.iload_n 1, 1) := by decide +kernel
theorem dX11_lastOfHead_6 : decode cX11_lastOfHead 6 = .ok (.imul, 1) := by decide +kernel
theorem dX11_lastOfHead_7 : decode cX11_lastOfHead 7 = .ok (.aload_n 0, 1) := by decide +kernel
theorem dX11_lastOfHead_8 : decode cX11_lastOfHead 8 = .ok (.getfield 13, 3) := by decide +kernel
theorem dX11_lastOfHead_11 : decode cX11_lastOfHead 11 = .ok (.aload_n 0, 1) := by decide +kernel
theorem dX11_lastOfHead_12 : decode cX11_lastOfHead 12 = .ok (.getfield 47, 3) := by decide +kernel
theorem dX11_lastOfHead_15 : decode cX11_lastOfHead 15 = .ok (.iload_n 1, 1) := by decide +kernel
theorem dX11_lastOfHead_16 : decode cX11_lastOfHead 16 = .ok (.iaload, 1) := by decide +kernel
theorem dX11_lastOfHead_17 : decode cX11_lastOfHead 17 = .ok (.iaload, 1) := by decide +kernel
theorem dX11_lastOfHead_18 : decode cX11_lastOfHead 18 = .ok (.iadd, 1) := by decide +kernel
theorem dX11_lastOfHead_19 : decode cX11_lastOfHead 19 = .ok (.iconst 1, 1) := by decide +kernel
theorem dX11_lastOfHead_20 : decode cX11_lastOfHead 20 = .ok (.isub, 1) := by decide +kernel
theorem dX11_lastOfHead_21 : decode cX11_lastOfHead 21 = .ok (.iaload, 1) := by decide +kernel
theorem dX11_lastOfHead_22 : decode cX11_lastOfHead 22 = .ok (.ireturn, 1) := by decide +kernel
theorem dX11_grows_0 : decode cX11_grows 0 = .ok (.aload_n 0, 1) := by decide +kernel
theorem dX11_grows_1 : decode cX11_grows 1 = .ok (.getfield 17, 3) := by decide +kernel
theorem dX11_grows_4 : decode cX11_grows 4 = .ok (.aload_n 0, 1) := by decide +kernel
theorem dX11_grows_5 : decode cX11_grows 5 = .ok (.getfield 59, 3) := by decide +kernel
theorem dX11_grows_8 : decode cX11_grows 8 = .ok (.iload_n 2, 1) := by decide +kernel
theorem dX11_grows_9 : decode cX11_grows 9 = .ok (.iaload, 1) := by decide +kernel
theorem dX11_grows_10 : decode cX11_grows 10 = .ok (.iaload, 1) := by decide +kernel
theorem dX11_grows_11 : decode cX11_grows 11 = .ok (.istore_n 3, 1) := by decide +kernel
theorem dX11_grows_12 : decode cX11_grows 12 = .ok (.aload_n 0, 1) := by decide +kernel
theorem dX11_grows_13 : decode cX11_grows 13 = .ok (.getfield 62, 3) := by decide +kernel
theorem dX11_grows_16 : decode cX11_grows 16 = .ok (.iconst 3, 1) := by decide +kernel
theorem dX11_grows_17 : decode cX11_grows 17 = .ok (.iload_n 2, 1) := by decide +kernel
theorem dX11_grows_18 : decode cX11_grows 18 = .ok (.imul, 1) := by decide +kernel
theorem dX11_grows_19 : decode cX11_grows 19 = .ok (.aload_n 0, 1) := by decide +kernel
theorem dX11_grows_20 : decode cX11_grows 20 = .ok (.getfield 13, 3) := by decide +kernel
theorem dX11_grows_23 : decode cX11_grows 23 = .ok (.aload_n 0, 1) := by decide +kernel
theorem dX11_grows_24 : decode cX11_grows 24 = .ok (.getfield 59, 3) := by decide +kernel
theorem dX11_grows_27 : decode cX11_grows 27 = .ok (.iload_n 2, 1) := by decide +kernel
theorem dX11_grows_28 : decode cX11_grows 28 = .ok (.iaload, 1) := by decide +kernel
theorem dX11_grows_29 : decode cX11_grows 29 = .ok (.iaload, 1) := by decide +kernel
theorem dX11_grows_30 : decode cX11_grows 30 = .ok (.iadd, 1) := by decide +kernel
theorem dX11_grows_31 : decode cX11_grows 31 = .ok (.iconst 1, 1) := by decide +kernel
theorem dX11_grows_32 : decode cX11_grows 32 = .ok (.isub, 1) := by decide +kernel
theorem dX11_grows_33 : decode cX11_grows 33 = .ok (.iaload, 1) := by decide +kernel
theorem dX11_grows_34 : decode cX11_grows 34 = .ok (.istore 4, 2) := by decide +kernel
theorem dX11_grows_36 : decode cX11_grows 36 = .ok (.iload 4, 2) := by decide +kernel
theorem dX11_grows_38 : decode cX11_grows 38 = .ok (.ifCond .lt 5, 3) := by decide +kernel
theorem dX11_grows_41 : decode cX11_grows 41 = .ok (.iconst 0, 1) := by decide +kernel
theorem dX11_grows_42 : decode cX11_grows 42 = .ok (.ireturn, 1) := by decide +kernel
theorem dX11_grows_43 : decode cX11_grows 43 = .ok (.aload_n 0, 1) := by decide +kernel
theorem dX11_grows_44 : decode cX11_grows 44 = .ok (.iload_n 1, 1) := by decide +kernel
theorem dX11_grows_45 : decode cX11_grows 45 = .ok (.iload 4, 2) := by decide +kernel
theorem dX11_grows_47 : decode cX11_grows 47 = .ok (.invokevirtual 175, 3) := by decide +kernel
theorem dX11_grows_50 : decode cX11_grows 50 = .ok (.istore 5, 2) := by decide +kernel
theorem dX11_grows_52 : decode cX11_grows 52 = .ok (.aload_n 0, 1) := by decide +kernel
theorem dX11_grows_53 : decode cX11_grows 53 = .ok (.getfield 17, 3) := by decide +kernel
theorem dX11_grows_56 : decode cX11_grows 56 = .ok (.aload_n 0, 1) := by decide +kernel
theorem dX11_grows_57 : decode cX11_grows 57 = .ok (.getfield 47, 3) := by decide +kernel
theorem dX11_grows_60 : decode cX11_grows 60 = .ok (.iload_n 1, 1) := by decide +kernel
theorem dX11_grows_61 : decode cX11_grows 61 = .ok (.iaload, 1) := by decide +kernel
theorem dX11_grows_62 : decode cX11_grows 62 = .ok (.iaload, 1) := by decide +kernel
theorem dX11_grows_63 : decode cX11_grows 63 = .ok (.iload_n 3, 1) := by decide +kernel
theorem dX11_grows_64 : decode cX11_grows 64 = .ok (.if_icmp .ne 7, 3) := by decide +kernel
theorem dX11_grows_67 : decode cX11_grows 67 = .ok (.iconst 1, 1) := by decide +kernel
theorem dX11_grows_68 : decode cX11_grows 68 = .ok (.goto 4, 3) := by decide +kernel
theorem dX11_grows_71 : decode cX11_grows 71 = .ok (.iconst 0, 1) := by decide +kernel
theorem dX11_grows_72 : decode cX11_grows 72 = .ok (.istore 6, 2) := by decide +kernel
theorem dX11_grows_74 : decode cX11_grows 74 = .ok (.iload 5, 2) := by decide +kernel
theorem dX11_grows_76 : decode cX11_grows 76 = .ok (.iconst 1, 1) := by decide +kernel
theorem dX11_grows_77 : decode cX11_grows 77 = .ok (.if_icmp .eq 24, 3) := by decide +kernel
theorem dX11_grows_80 : decode cX11_grows 80 = .ok (.iload 5, 2) := by decide +kernel
theorem dX11_grows_82 : decode cX11_grows 82 = .ok (.iconst 2, 1) := by decide +kernel
theorem dX11_grows_83 : decode cX11_grows 83 = .ok (.if_icmp .ne 22, 3) := by decide +kernel
theorem dX11_grows_86 : decode cX11_grows 86 = .ok (.iload 6, 2) := by decide +kernel
theorem dX11_grows_88 : decode cX11_grows 88 = .ok (.ifCond .eq 17, 3) := by decide +kernel
theorem dX11_grows_91 : decode cX11_grows 91 = .ok (.aload_n 0, 1) := by decide +kernel
theorem dX11_grows_92 : decode cX11_grows 92 = .ok (.iload_n 1, 1) := by decide +kernel
theorem dX11_grows_93 : decode cX11_grows 93 = .ok (.invokevirtual 179, 3) := by decide +kernel
theorem dX11_grows_96 : decode cX11_grows 96 = .ok (.iload 4, 2) := by decide +kernel
theorem dX11_grows_98 : decode cX11_grows 98 = .ok (.if_icmp .ne 7, 3) := by decide +kernel
theorem dX11_grows_101 : decode cX11_grows 101 = .ok (.iconst 1, 1) := by decide +kernel
theorem dX11_grows_102 : decode cX11_grows 102 = .ok (.goto 4, 3) := by decide +kernel
theorem dX11_grows_105 : decode cX11_grows 105 = .ok (.iconst 0, 1) := by decide +kernel
theorem dX11_grows_106 : decode cX11_grows 106 = .ok (.istore 7, 2) := by decide +kernel
theorem dX11_grows_108 : decode cX11_grows 108 = .ok (.iconst 5, 1) := by decide +kernel
theorem dX11_grows_109 : decode cX11_grows 109 = .ok (.iload_n 1, 1) := by decide +kernel
theorem dX11_grows_110 : decode cX11_grows 110 = .ok (.imul, 1) := by decide +kernel
theorem dX11_grows_111 : decode cX11_grows 111 = .ok (.istore 8, 2) := by decide +kernel
theorem dX11_grows_113 : decode cX11_grows 113 = .ok (.iload 8, 2) := by decide +kernel
theorem dX11_grows_115 : decode cX11_grows 115 = .ok (.iconst 5, 1) := by decide +kernel
theorem dX11_grows_116 : decode cX11_grows 116 = .ok (.iload_n 1, 1) := by decide +kernel
theorem dX11_grows_117 : decode cX11_grows 117 = .ok (.imul, 1) := by decide +kernel
theorem dX11_grows_118 : decode cX11_grows 118 = .ok (.aload_n 0, 1) := by decide +kernel
theorem dX11_grows_119 : decode cX11_grows 119 = .ok (.getfield 53, 3) := by decide +kernel
theorem dX11_grows_122 : decode cX11_grows 122 = .ok (.iload_n 1, 1) := by decide +kernel
theorem dX11_grows_123 : decode cX11_grows 123 = .ok (.iaload, 1) := by decide +kernel
theorem dX11_grows_124 : decode cX11_grows 124 = .ok (.iadd, 1) := by decide +kernel
theorem dX11_grows_125 : decode cX11_grows 125 = .ok (.if_icmp .ge 129, 3) := by decide +kernel
theorem dX11_grows_128 : decode cX11_grows 128 = .ok (.aload_n 0, 1) := by decide +kernel
theorem dX11_grows_129 : decode cX11_grows 129 = .ok (.getfield 62, 3) := by decide +kernel
theorem dX11_grows_132 : decode cX11_grows 132 = .ok (.iconst 3, 1) := by decide +kernel
theorem dX11_grows_133 : decode cX11_grows 133 = .ok (.iload 8, 2) := by decide +kernel
theorem dX11_grows_135 : decode cX11_grows 135 = .ok (.imul, 1) := by decide +kernel
theorem dX11_grows_136 : decode cX11_grows 136 = .ok (.iaload, 1) := by decide +kernel
theorem dX11_grows_137 : decode cX11_grows 137 = .ok (.istore 9, 2) := by decide +kernel
theorem dX11_grows_139 : decode cX11_grows 139 = .ok (.aload_n 0, 1) := by decide +kernel
theorem dX11_grows_140 : decode cX11_grows 140 = .ok (.getfield 56, 3) := by decide +kernel
theorem dX11_grows_143 : decode cX11_grows 143 = .ok (.iload 8, 2) := by decide +kernel
theorem dX11_grows_145 : decode cX11_grows 145 = .ok (.iaload, 1) := by decide +kernel
theorem dX11_grows_146 : decode cX11_grows 146 = .ok (.iconst 3, 1) := by decide +kernel
theorem dX11_grows_147 : decode cX11_grows 147 = .ok (.if_icmp .ne 39, 3) := by decide +kernel
theorem dX11_grows_150 : decode cX11_grows 150 = .ok (.aload_n 0, 1) := by decide +kernel
theorem dX11_grows_151 : decode cX11_grows 151 = .ok (.getfield 62, 3) := by decide +kernel
theorem dX11_grows_154 : decode cX11_grows 154 = .ok (.iconst 3, 1) := by decide +kernel
theorem dX11_grows_155 : decode cX11_grows 155 = .ok (.iload 8, 2) := by decide +kernel
theorem dX11_grows_157 : decode cX11_grows 157 = .ok (.imul, 1) := by decide +kernel
theorem dX11_grows_158 : decode cX11_grows 158 = .ok (.iconst 1, 1) := by decide +kernel
theorem dX11_grows_159 : decode cX11_grows 159 = .ok (.iadd, 1) := by decide +kernel
theorem dX11_grows_160 : decode cX11_grows 160 = .ok (.iaload, 1) := by decide +kernel
theorem dX11_grows_161 : decode cX11_grows 161 = .ok (.iload 4, 2) := by decide +kernel
theorem dX11_grows_163 : decode cX11_grows 163 = .ok (.if_icmp .eq 19, 3) := by decide +kernel
theorem dX11_grows_166 : decode cX11_grows 166 = .ok (.aload_n 0, 1) := by decide +kernel
theorem dX11_grows_167 : decode cX11_grows 167 = .ok (.getfield 62, 3) := by decide +kernel
theorem dX11_grows_170 : decode cX11_grows 170 = .ok (.iconst 3, 1) := by decide +kernel
theorem dX11_grows_171 : decode cX11_grows 171 = .ok (.iload 8, 2) := by decide +kernel
theorem dX11_grows_173 : decode cX11_grows 173 = .ok (.imul, 1) := by decide +kernel
theorem dX11_grows_174 : decode cX11_grows 174 = .ok (.iconst 2, 1) := by decide +kernel
theorem dX11_grows_175 : decode cX11_grows 175 = .ok (.iadd, 1) := by decide +kernel
theorem dX11_grows_176 : decode cX11_grows 176 = .ok (.iaload, 1) := by decide +kernel
theorem dX11_grows_177 : decode cX11_grows 177 = .ok (.iload 4, 2) := by decide +kernel
theorem dX11_grows_179 : decode cX11_grows 179 = .ok (.if_icmp .ne 7, 3) := by decide +kernel
theorem dX11_grows_182 : decode cX11_grows 182 = .ok (.iconst 1, 1) := by decide +kernel
theorem dX11_grows_183 : decode cX11_grows 183 = .ok (.goto 4, 3) := by decide +kernel
theorem dX11_grows_186 : decode cX11_grows 186 = .ok (.iconst 0, 1) := by decide +kernel
theorem dX11_grows_187 : decode cX11_grows 187 = .ok (.istore 10, 2) := by decide +kernel
theorem dX11_grows_189 : decode cX11_grows 189 = .ok (.iload 7, 2) := by decide +kernel
theorem dX11_grows_191 : decode cX11_grows 191 = .ok (.ifCond .ne 50, 3) := by decide +kernel
theorem dX11_grows_194 : decode cX11_grows 194 = .ok (.iload 5, 2) := by decide +kernel
theorem dX11_grows_196 : decode cX11_grows 196 = .ok (.iconst 2, 1) := by decide +kernel
theorem dX11_grows_197 : decode cX11_grows 197 = .ok (.if_icmp .ne 48, 3) := by decide +kernel
theorem dX11_grows_200 : decode cX11_grows 200 = .ok (.iload 10, 2) := by decide +kernel
theorem dX11_grows_202 : decode cX11_grows 202 = .ok (.ifCond .eq 43, 3) := by decide +kernel
theorem dX11_grows_205 : decode cX11_grows 205 = .ok (.iload_n 3, 1) := by decide +kernel
theorem dX11_grows_206 : decode cX11_grows 206 = .ok (.iconst 3, 1) := by decide +kernel
theorem dX11_grows_207 : decode cX11_grows 207 = .ok (.if_icmp .eq 38, 3) := by decide +kernel
theorem dX11_grows_210 : decode cX11_grows 210 = .ok (.iload 9, 2) := by decide +kernel
theorem dX11_grows_212 : decode cX11_grows 212 = .ok (.ifCond .ge 33, 3) := by decide +kernel
theorem dX11_grows_215 : decode cX11_grows 215 = .ok (.iload 6, 2) := by decide +kernel
theorem dX11_grows_217 : decode cX11_grows 217 = .ok (.ifCond .eq 28, 3) := by decide +kernel
theorem dX11_grows_220 : decode cX11_grows 220 = .ok (.aload_n 0, 1) := by decide +kernel
theorem dX11_grows_221 : decode cX11_grows 221 = .ok (.iload_n 1, 1) := by decide +kernel
theorem dX11_grows_222 : decode cX11_grows 222 = .ok (.invokevirtual 179, 3) := by decide +kernel
theorem dX11_grows_225 : decode cX11_grows 225 = .ok (.iload 9, 2) := by decide +kernel
theorem dX11_grows_227 : decode cX11_grows 227 = .ok (.if_icmp .ne 18, 3) := by decide +kernel
theorem dX11_grows_230 : decode cX11_grows 230 = .ok (.aload_n 0, 1) := by decide +kernel
theorem dX11_grows_231 : decode cX11_grows 231 = .ok (.iload_n 1, 1) := by decide +kernel
theorem dX11_grows_232 : decode cX11_grows 232 = .ok (.iload 9, 2) := by decide +kernel
theorem dX11_grows_234 : decode cX11_grows 234 = .ok (.invokevirtual 175, 3) := by decide +kernel
theorem dX11_grows_237 : decode cX11_grows 237 = .ok (.iconst 2, 1) := by decide +kernel
theorem dX11_grows_238 : decode cX11_grows 238 = .ok (.if_icmp .ne 7, 3) := by decide +kernel
theorem dX11_grows_241 : decode cX11_grows 241 = .ok (.iconst 1, 1) := by decide +kernel
theorem dX11_grows_242 : decode cX11_grows 242 = .ok (.goto 4, 3) := by decide +kernel
theorem dX11_grows_245 : decode cX11_grows 245 = .ok (.iconst 0, 1) := by decide +kernel
theorem dX11_grows_246 : decode cX11_grows 246 = .ok (.istore 7, 2) := by decide +kernel
theorem dX11_grows_248 : decode cX11_grows 248 = .ok (.iinc 8 1, 3) := by decide +kernel
theorem dX11_grows_251 : decode cX11_grows 251 = .ok (.goto (-138), 3) := by decide +kernel
theorem dX11_grows_254 : decode cX11_grows 254 = .ok (.iload 7, 2) := by decide +kernel
theorem dX11_grows_256 : decode cX11_grows 256 = .ok (.ireturn, 1) := by decide +kernel
theorem dX11_layer_0 : decode cX11_layer 0 = .ok (.iconst 0, 1) := by decide +kernel
theorem dX11_layer_1 : decode cX11_layer 1 = .ok (.istore_n 1, 1) := by decide +kernel
theorem dX11_layer_2 : decode cX11_layer 2 = .ok (.iload_n 1, 1) := by decide +kernel
theorem dX11_layer_3 : decode cX11_layer 3 = .ok (.bipush 10, 2) := by decide +kernel
theorem dX11_layer_5 : decode cX11_layer 5 = .ok (.if_icmp .ge 16, 3) := by decide +kernel
theorem dX11_layer_8 : decode cX11_layer 8 = .ok (.aload_n 0, 1) := by decide +kernel
theorem dX11_layer_9 : decode cX11_layer 9 = .ok (.getfield 23, 3) := by decide +kernel
theorem dX11_layer_12 : decode cX11_layer 12 = .ok (.iload_n 1, 1) := by decide +kernel
theorem dX11_layer_13 : decode cX11_layer 13 = .ok (.iconst 0, 1) := by decide +kernel
theorem dX11_layer_14 : decode cX11_layer 14 = .ok (.iastore, 1) := by decide +kernel
theorem dX11_layer_15 : decode cX11_layer 15 = .ok (.iinc 1 1, 3) := by decide +kernel
theorem dX11_layer_18 : decode cX11_layer 18 = .ok (.goto (-16), 3) := by decide +kernel
theorem dX11_layer_21 : decode cX11_layer 21 = .ok (.iconst 1, 1) := by decide +kernel
theorem dX11_layer_22 : decode cX11_layer 22 = .ok (.istore_n 1, 1) := by decide +kernel
theorem dX11_layer_23 : decode cX11_layer 23 = .ok (.iconst 1, 1) := by decide +kernel
theorem dX11_layer_24 : decode cX11_layer 24 = .ok (.istore_n 2, 1) := by decide +kernel
theorem dX11_layer_25 : decode cX11_layer 25 = .ok (.iload_n 1, 1) := by decide +kernel
theorem dX11_layer_26 : decode cX11_layer 26 = .ok (.ifCond .eq 207, 3) := by decide +kernel
theorem dX11_layer_29 : decode cX11_layer 29 = .ok (.iload_n 2, 1) := by decide +kernel
theorem dX11_layer_30 : decode cX11_layer 30 = .ok (.ifCond .eq 203, 3) := by decide +kernel
theorem dX11_layer_33 : decode cX11_layer 33 = .ok (.iconst 0, 1) := by decide +kernel
theorem dX11_layer_34 : decode cX11_layer 34 = .ok (.istore_n 1, 1) := by decide +kernel
theorem dX11_layer_35 : decode cX11_layer 35 = .ok (.iconst 0, 1) := by decide +kernel
theorem dX11_layer_36 : decode cX11_layer 36 = .ok (.istore_n 3, 1) := by decide +kernel
theorem dX11_layer_37 : decode cX11_layer 37 = .ok (.iload_n 3, 1) := by decide +kernel
theorem dX11_layer_38 : decode cX11_layer 38 = .ok (.aload_n 0, 1) := by decide +kernel
theorem dX11_layer_39 : decode cX11_layer 39 = .ok (.getfield 159, 3) := by decide +kernel
theorem dX11_layer_42 : decode cX11_layer 42 = .ok (.if_icmp .ge 188, 3) := by decide +kernel
theorem dX11_layer_45 : decode cX11_layer 45 = .ok (.iconst 5, 1) := by decide +kernel
theorem dX11_layer_46 : decode cX11_layer 46 = .ok (.iload_n 3, 1) := by decide +kernel
theorem dX11_layer_47 : decode cX11_layer 47 = .ok (.imul, 1) := by decide +kernel
theorem dX11_layer_48 : decode cX11_layer 48 = .ok (.istore 4, 2) := by decide +kernel
theorem dX11_layer_50 : decode cX11_layer 50 = .ok (.aload_n 0, 1) := by decide +kernel
theorem dX11_layer_51 : decode cX11_layer 51 = .ok (.getfield 44, 3) := by decide +kernel
theorem dX11_layer_54 : decode cX11_layer 54 = .ok (.iload_n 3, 1) := by decide +kernel
theorem dX11_layer_55 : decode cX11_layer 55 = .ok (.baload, 1) := by decide +kernel
theorem dX11_layer_56 : decode cX11_layer 56 = .ok (.ifCond .ne 168, 3) := by decide +kernel
theorem dX11_layer_59 : decode cX11_layer 59 = .ok (.iload 4, 2) := by decide +kernel
theorem dX11_layer_61 : decode cX11_layer 61 = .ok (.iconst 5, 1) := by decide +kernel
theorem dX11_layer_62 : decode cX11_layer 62 = .ok (.iload_n 3, 1) := by decide +kernel
theorem dX11_layer_63 : decode cX11_layer 63 = .ok (.imul, 1) := by decide +kernel
theorem dX11_layer_64 : decode cX11_layer 64 = .ok (.aload_n 0, 1) := by decide +kernel
theorem dX11_layer_65 : decode cX11_layer 65 = .ok (.getfield 53, 3) := by decide +kernel
theorem dX11_layer_68 : decode cX11_layer 68 = .ok (.iload_n 3, 1) := by decide +kernel
theorem dX11_layer_69 : decode cX11_layer 69 = .ok (.iaload, 1) := by decide +kernel
theorem dX11_layer_70 : decode cX11_layer 70 = .ok (.iadd, 1) := by decide +kernel
theorem dX11_layer_71 : decode cX11_layer 71 = .ok (.if_icmp .ge 153, 3) := by decide +kernel
theorem dX11_layer_74 : decode cX11_layer 74 = .ok (.aload_n 0, 1) := by decide +kernel
theorem dX11_layer_75 : decode cX11_layer 75 = .ok (.getfield 56, 3) := by decide +kernel
theorem dX11_layer_78 : decode cX11_layer 78 = .ok (.iload 4, 2) := by decide +kernel
theorem dX11_layer_80 : decode cX11_layer 80 = .ok (.iaload, 1) := by decide +kernel
theorem dX11_layer_81 : decode cX11_layer 81 = .ok (.iconst 1, 1) := by decide +kernel
theorem dX11_layer_82 : decode cX11_layer 82 = .ok (.if_icmp .gt 7, 3) := by decide +kernel
theorem dX11_layer_85 : decode cX11_layer 85 = .ok (.iconst 1, 1) := by decide +kernel
theorem dX11_layer_86 : decode cX11_layer 86 = .ok (.goto 4, 3) := by decide +kernel
theorem dX11_layer_89 : decode cX11_layer 89 = .ok (.iconst 0, 1) := by decide +kernel
theorem dX11_layer_90 : decode cX11_layer 90 = .ok (.istore 5, 2) := by decide +kernel
theorem dX11_layer_92 : decode cX11_layer 92 = .ok (.iload 5, 2) := by decide +kernel
theorem dX11_layer_94 : decode cX11_layer 94 = .ok (.ifCond .eq 43, 3) := by decide +kernel
theorem dX11_layer_97 : decode cX11_layer 97 = .ok (.aload_n 0, 1) := by decide +kernel
theorem dX11_layer_98 : decode cX11_layer 98 = .ok (.getfield 56, 3) := by decide +kernel
theorem dX11_layer_101 : decode cX11_layer 101 = .ok (.iload 4, 2) := by decide +kernel
theorem dX11_layer_103 : decode cX11_layer 103 = .ok (.iaload, 1) := by decide +kernel
theorem dX11_layer_104 : decode cX11_layer 104 = .ok (.iconst 1, 1) := by decide +kernel
theorem dX11_layer_105 : decode cX11_layer 105 = .ok (.if_icmp .eq 28, 3) := by decide +kernel
theorem dX11_layer_108 : decode cX11_layer 108 = .ok (.aload_n 0, 1) := by decide +kernel
theorem dX11_layer_109 : decode cX11_layer 109 = .ok (.getfield 17, 3) := by decide +kernel
theorem dX11_layer_112 : decode cX11_layer 112 = .ok (.aload_n 0, 1) := by decide +kernel
theorem dX11_layer_113 : decode cX11_layer 113 = .ok (.getfield 59, 3) := by decide +kernel
theorem dX11_layer_116 : decode cX11_layer 116 = .ok (.iload 4, 2) := by decide +kernel
theorem dX11_layer_118 : decode cX11_layer 118 = .ok (.iaload, 1) := by decide +kernel
theorem dX11_layer_119 : decode cX11_layer 119 = .ok (.iaload, 1) := by decide +kernel
theorem dX11_layer_120 : decode cX11_layer 120 = .ok (.ifCond .eq 17, 3) := by decide +kernel
theorem dX11_layer_123 : decode cX11_layer 123 = .ok (.aload_n 0, 1) := by decide +kernel
theorem dX11_layer_124 : decode cX11_layer 124 = .ok (.iload_n 3, 1) := by decide +kernel
theorem dX11_layer_125 : decode cX11_layer 125 = .ok (.iload 4, 2) := by decide +kernel
theorem dX11_layer_127 : decode cX11_layer 127 = .ok (.invokevirtual 182, 3) := by decide +kernel
theorem dX11_layer_130 : decode cX11_layer 130 = .ok (.ifCond .ne 7, 3) := by decide +kernel
theorem dX11_layer_133 : decode cX11_layer 133 = .ok (.iconst 1, 1) := by decide +kernel
theorem dX11_layer_134 : decode cX11_layer 134 = .ok (.goto 4, 3) := by decide +kernel
theorem dX11_layer_137 : decode cX11_layer 137 = .ok (.iconst 0, 1) := by decide +kernel
theorem dX11_layer_138 : decode cX11_layer 138 = .ok (.istore 6, 2) := by decide +kernel
theorem dX11_layer_140 : decode cX11_layer 140 = .ok (.iload 5, 2) := by decide +kernel
theorem dX11_layer_142 : decode cX11_layer 142 = .ok (.ifCond .eq 29, 3) := by decide +kernel
theorem dX11_layer_145 : decode cX11_layer 145 = .ok (.aload_n 0, 1) := by decide +kernel
theorem dX11_layer_146 : decode cX11_layer 146 = .ok (.getfield 23, 3) := by decide +kernel
theorem dX11_layer_149 : decode cX11_layer 149 = .ok (.aload_n 0, 1) := by decide +kernel
theorem dX11_layer_150 : decode cX11_layer 150 = .ok (.getfield 59, 3) := by decide +kernel
theorem dX11_layer_153 : decode cX11_layer 153 = .ok (.iload 4, 2) := by decide +kernel
theorem dX11_layer_155 : decode cX11_layer 155 = .ok (.iaload, 1) := by decide +kernel
theorem dX11_layer_156 : decode cX11_layer 156 = .ok (.iaload, 1) := by decide +kernel
theorem dX11_layer_157 : decode cX11_layer 157 = .ok (.iload 6, 2) := by decide +kernel
theorem dX11_layer_159 : decode cX11_layer 159 = .ok (.ifCond .eq 7, 3) := by decide +kernel
theorem dX11_layer_162 : decode cX11_layer 162 = .ok (.iconst 1, 1) := by decide +kernel
theorem dX11_layer_163 : decode cX11_layer 163 = .ok (.goto 4, 3) := by decide +kernel
theorem dX11_layer_166 : decode cX11_layer 166 = .ok (.iconst 0, 1) := by decide +kernel
theorem dX11_layer_167 : decode cX11_layer 167 = .ok (.iadd, 1) := by decide +kernel
theorem dX11_layer_168 : decode cX11_layer 168 = .ok (.goto 4, 3) := by decide +kernel
theorem dX11_layer_171 : decode cX11_layer 171 = .ok (.iconst 0, 1) := by decide +kernel
theorem dX11_layer_172 : decode cX11_layer 172 = .ok (.istore 7, 2) := by decide +kernel
theorem dX11_layer_174 : decode cX11_layer 174 = .ok (.aload_n 0, 1) := by decide +kernel
theorem dX11_layer_175 : decode cX11_layer 175 = .ok (.getfield 23, 3) := by decide +kernel
theorem dX11_layer_178 : decode cX11_layer 178 = .ok (.aload_n 0, 1) := by decide +kernel
theorem dX11_layer_179 : decode cX11_layer 179 = .ok (.getfield 47, 3) := by decide +kernel
theorem dX11_layer_182 : decode cX11_layer 182 = .ok (.iload_n 3, 1) := by decide +kernel
theorem dX11_layer_183 : decode cX11_layer 183 = .ok (.iaload, 1) := by decide +kernel
theorem dX11_layer_184 : decode cX11_layer 184 = .ok (.iaload, 1) := by decide +kernel
theorem dX11_layer_185 : decode cX11_layer 185 = .ok (.iload 7, 2) := by decide +kernel
theorem dX11_layer_187 : decode cX11_layer 187 = .ok (.if_icmp .ge 31, 3) := by decide +kernel
theorem dX11_layer_190 : decode cX11_layer 190 = .ok (.aload_n 0, 1) := by decide +kernel
theorem dX11_layer_191 : decode cX11_layer 191 = .ok (.getfield 23, 3) := by decide +kernel
theorem dX11_layer_194 : decode cX11_layer 194 = .ok (.aload_n 0, 1) := by decide +kernel
theorem dX11_layer_195 : decode cX11_layer 195 = .ok (.getfield 47, 3) := by decide +kernel
theorem dX11_layer_198 : decode cX11_layer 198 = .ok (.iload_n 3, 1) := by decide +kernel
theorem dX11_layer_199 : decode cX11_layer 199 = .ok (.iaload, 1) := by decide +kernel
theorem dX11_layer_200 : decode cX11_layer 200 = .ok (.iload 7, 2) := by decide +kernel
theorem dX11_layer_202 : decode cX11_layer 202 = .ok (.iastore, 1) := by decide +kernel
theorem dX11_layer_203 : decode cX11_layer 203 = .ok (.iconst 1, 1) := by decide +kernel
theorem dX11_layer_204 : decode cX11_layer 204 = .ok (.istore_n 1, 1) := by decide +kernel
theorem dX11_layer_205 : decode cX11_layer 205 = .ok (.iload 7, 2) := by decide +kernel
theorem dX11_layer_207 : decode cX11_layer 207 = .ok (.bipush 10, 2) := by decide +kernel
theorem dX11_layer_209 : decode cX11_layer 209 = .ok (.if_icmp .ge 7, 3) := by decide +kernel
theorem dX11_layer_212 : decode cX11_layer 212 = .ok (.iconst 1, 1) := by decide +kernel
theorem dX11_layer_213 : decode cX11_layer 213 = .ok (.goto 4, 3) := by decide +kernel
theorem dX11_layer_216 : decode cX11_layer 216 = .ok (.iconst 0, 1) := by decide +kernel
theorem dX11_layer_217 : decode cX11_layer 217 = .ok (.istore_n 2, 1) := by decide +kernel
theorem dX11_layer_218 : decode cX11_layer 218 = .ok (.iinc 4 1, 3) := by decide +kernel
theorem dX11_layer_221 : decode cX11_layer 221 = .ok (.goto (-171), 3) := by decide +kernel
theorem dX11_layer_224 : decode cX11_layer 224 = .ok (.iinc 3 1, 3) := by decide +kernel
theorem dX11_layer_227 : decode cX11_layer 227 = .ok (.goto (-190), 3) := by decide +kernel
theorem dX11_layer_230 : decode cX11_layer 230 = .ok (.goto (-205), 3) := by decide +kernel
theorem dX11_layer_233 : decode cX11_layer 233 = .ok (.iload_n 2, 1) := by decide +kernel
theorem dX11_layer_234 : decode cX11_layer 234 = .ok (.ireturn, 1) := by decide +kernel
theorem dX11_isBound_0 : decode cX11_isBound 0 = .ok (.iload_n 1, 1) := by decide +kernel
theorem dX11_isBound_1 : decode cX11_isBound 1 = .ok (.ifCond .ge 16, 3) := by decide +kernel
theorem dX11_isBound_4 : decode cX11_isBound 4 = .ok (.aload_n 0, 1) := by decide +kernel
theorem dX11_isBound_5 : decode cX11_isBound 5 = .ok (.getfield 77, 3) := by decide +kernel
theorem dX11_isBound_8 : decode cX11_isBound 8 = .ok (.iconst (-1), 1) := by decide +kernel
theorem dX11_isBound_9 : decode cX11_isBound 9 = .ok (.iload_n 1, 1) := by decide +kernel
theorem dX11_isBound_10 : decode cX11_isBound 10 = .ok (.isub, 1) := by decide +kernel
theorem dX11_isBound_11 : decode cX11_isBound 11 = .ok (.iaload, 1) := by decide +kernel
theorem dX11_isBound_12 : decode cX11_isBound 12 = .ok (.bipush (-9), 2) := by decide +kernel
theorem dX11_isBound_14 : decode cX11_isBound 14 = .ok (.if_icmp .eq 7, 3) := by decide +kernel
theorem dX11_isBound_17 : decode cX11_isBound 17 = .ok (.iconst 1, 1) := by decide +kernel
theorem dX11_isBound_18 : decode cX11_isBound 18 = .ok (.goto 4, 3) := by decide +kernel
theorem dX11_isBound_21 : decode cX11_isBound 21 = .ok (.iconst 0, 1) := by decide +kernel
theorem dX11_isBound_22 : decode cX11_isBound 22 = .ok (.ireturn, 1) := by decide +kernel
theorem dX11_valueOf_0 : decode cX11_valueOf 0 = .ok (.iload_n 1, 1) := by decide +kernel
theorem dX11_valueOf_1 : decode cX11_valueOf 1 = .ok (.ifCond .lt 7, 3) := by decide +kernel
theorem dX11_valueOf_4 : decode cX11_valueOf 4 = .ok (.iload_n 1, 1) := by decide +kernel
theorem dX11_valueOf_5 : decode cX11_valueOf 5 = .ok (.goto 11, 3) := by decide +kernel
theorem dX11_valueOf_8 : decode cX11_valueOf 8 = .ok (.aload_n 0, 1) := by decide +kernel
theorem dX11_valueOf_9 : decode cX11_valueOf 9 = .ok (.getfield 74, 3) := by decide +kernel
theorem dX11_valueOf_12 : decode cX11_valueOf 12 = .ok (.iconst (-1), 1) := by decide +kernel
theorem dX11_valueOf_13 : decode cX11_valueOf 13 = .ok (.iload_n 1, 1) := by decide +kernel
theorem dX11_valueOf_14 : decode cX11_valueOf 14 = .ok (.isub, 1) := by decide +kernel
theorem dX11_valueOf_15 : decode cX11_valueOf 15 = .ok (.iaload, 1) := by decide +kernel
theorem dX11_valueOf_16 : decode cX11_valueOf 16 = .ok (.ireturn, 1) := by decide +kernel
theorem dX11_begin_0 : decode cX11_begin 0 = .ok (.iconst 0, 1) := by decide +kernel
theorem dX11_begin_1 : decode cX11_begin 1 = .ok (.istore_n 1, 1) := by decide +kernel
theorem dX11_begin_2 : decode cX11_begin 2 = .ok (.iload_n 1, 1) := by decide +kernel
theorem dX11_begin_3 : decode cX11_begin 3 = .ok (.bipush 8, 2) := by decide +kernel
theorem dX11_begin_5 : decode cX11_begin 5 = .ok (.if_icmp .ge 17, 3) := by decide +kernel
theorem dX11_begin_8 : decode cX11_begin 8 = .ok (.aload_n 0, 1) := by decide +kernel
theorem dX11_begin_9 : decode cX11_begin 9 = .ok (.getfield 77, 3) := by decide +kernel
theorem dX11_begin_12 : decode cX11_begin 12 = .ok (.iload_n 1, 1) := by decide +kernel
theorem dX11_begin_13 : decode cX11_begin 13 = .ok (.bipush (-9), 2) := by decide +kernel
theorem dX11_begin_15 : decode cX11_begin 15 = .ok (.iastore, 1) := by decide +kernel
theorem dX11_begin_16 : decode cX11_begin 16 = .ok (.iinc 1 1, 3) := by decide +kernel
theorem dX11_begin_19 : decode cX11_begin 19 = .ok (.goto (-17), 3) := by decide +kernel
theorem dX11_begin_22 : decode cX11_begin 22 = .ok (.aload_n 0, 1) := by decide +kernel
theorem dX11_begin_23 : decode cX11_begin 23 = .ok (.iconst 0, 1) := by decide +kernel
theorem dX11_begin_24 : decode cX11_begin 24 = .ok (.putfield 186, 3) := by decide +kernel
theorem dX11_begin_27 : decode cX11_begin 27 = .ok (.return_, 1) := by decide +kernel
theorem dX11_give_0 : decode cX11_give 0 = .ok (.aload_n 0, 1) := by decide +kernel
theorem dX11_give_1 : decode cX11_give 1 = .ok (.iload_n 1, 1) := by decide +kernel
theorem dX11_give_2 : decode cX11_give 2 = .ok (.invokevirtual 190, 3) := by decide +kernel
theorem dX11_give_5 : decode cX11_give 5 = .ok (.ifCond .eq 18, 3) := by decide +kernel
theorem dX11_give_8 : decode cX11_give 8 = .ok (.aload_n 0, 1) := by decide +kernel
theorem dX11_give_9 : decode cX11_give 9 = .ok (.iload_n 1, 1) := by decide +kernel
theorem dX11_give_10 : decode cX11_give 10 = .ok (.invokevirtual 193, 3) := by decide +kernel
theorem dX11_give_13 : decode cX11_give 13 = .ok (.iload_n 2, 1) := by decide +kernel
theorem dX11_give_14 : decode cX11_give 14 = .ok (.if_icmp .ne 7, 3) := by decide +kernel
theorem dX11_give_17 : decode cX11_give 17 = .ok (.iconst 1, 1) := by decide +kernel
theorem dX11_give_18 : decode cX11_give 18 = .ok (.goto 4, 3) := by decide +kernel
theorem dX11_give_21 : decode cX11_give 21 = .ok (.iconst 0, 1) := by decide +kernel
theorem dX11_give_22 : decode cX11_give 22 = .ok (.ireturn, 1) := by decide +kernel
theorem dX11_give_23 : decode cX11_give 23 = .ok (.aload_n 0, 1) := by decide +kernel
theorem dX11_give_24 : decode cX11_give 24 = .ok (.getfield 74, 3) := by decide +kernel
theorem dX11_give_27 : decode cX11_give 27 = .ok (.iconst (-1), 1) := by decide +kernel
theorem dX11_give_28 : decode cX11_give 28 = .ok (.iload_n 1, 1) := by decide +kernel
theorem dX11_give_29 : decode cX11_give 29 = .ok (.isub, 1) := by decide +kernel
theorem dX11_give_30 : decode cX11_give 30 = .ok (.iload_n 2, 1) := by decide +kernel
theorem dX11_give_31 : decode cX11_give 31 = .ok (.iastore, 1) := by decide +kernel
theorem dX11_give_32 : decode cX11_give 32 = .ok (.aload_n 0, 1) := by decide +kernel
theorem dX11_give_33 : decode cX11_give 33 = .ok (.getfield 77, 3) := by decide +kernel
theorem dX11_give_36 : decode cX11_give 36 = .ok (.iconst (-1), 1) := by decide +kernel
theorem dX11_give_37 : decode cX11_give 37 = .ok (.iload_n 1, 1) := by decide +kernel
theorem dX11_give_38 : decode cX11_give 38 = .ok (.isub, 1) := by decide +kernel
theorem dX11_give_39 : decode cX11_give 39 = .ok (.iconst (-1), 1) := by decide +kernel
theorem dX11_give_40 : decode cX11_give 40 = .ok (.iastore, 1) := by decide +kernel
theorem dX11_give_41 : decode cX11_give 41 = .ok (.iconst 1, 1) := by decide +kernel
theorem dX11_give_42 : decode cX11_give 42 = .ok (.ireturn, 1) := by decide +kernel
theorem dX11_unbind_0 : decode cX11_unbind 0 = .ok (.iconst 0, 1) := by decide +kernel
theorem dX11_unbind_1 : decode cX11_unbind 1 = .ok (.istore_n 2, 1) := by decide +kernel
theorem dX11_unbind_2 : decode cX11_unbind 2 = .ok (.iload_n 2, 1) := by decide +kernel
theorem dX11_unbind_3 : decode cX11_unbind 3 = .ok (.bipush 8, 2) := by decide +kernel
theorem dX11_unbind_5 : decode cX11_unbind 5 = .ok (.if_icmp .ge 36, 3) := by decide +kernel
theorem dX11_unbind_8 : decode cX11_unbind 8 = .ok (.aload_n 0, 1) := by decide +kernel
theorem dX11_unbind_9 : decode cX11_unbind 9 = .ok (.getfield 77, 3) := by decide +kernel
theorem dX11_unbind_12 : decode cX11_unbind 12 = .ok (.iload_n 2, 1) := by decide +kernel
theorem dX11_unbind_13 : decode cX11_unbind 13 = .ok (.aload_n 0, 1) := by decide +kernel
theorem dX11_unbind_14 : decode cX11_unbind 14 = .ok (.getfield 77, 3) := by decide +kernel
theorem dX11_unbind_17 : decode cX11_unbind 17 = .ok (.iload_n 2, 1) := by decide +kernel
theorem dX11_unbind_18 : decode cX11_unbind 18 = .ok (.iaload, 1) := by decide +kernel
theorem dX11_unbind_19 : decode cX11_unbind 19 = .ok (.iload_n 1, 1) := by decide +kernel
theorem dX11_unbind_20 : decode cX11_unbind 20 = .ok (.if_icmp .ne 8, 3) := by decide +kernel
theorem dX11_unbind_23 : decode cX11_unbind 23 = .ok (.bipush (-9), 2) := by decide +kernel
theorem dX11_unbind_25 : decode cX11_unbind 25 = .ok (.goto 9, 3) := by decide +kernel
theorem dX11_unbind_28 : decode cX11_unbind 28 = .ok (.aload_n 0, 1) := by decide +kernel
theorem dX11_unbind_29 : decode cX11_unbind 29 = .ok (.getfield 77, 3) := by decide +kernel
theorem dX11_unbind_32 : decode cX11_unbind 32 = .ok (.iload_n 2, 1) := by decide +kernel
theorem dX11_unbind_33 : decode cX11_unbind 33 = .ok (.iaload, 1) := by decide +kernel
theorem dX11_unbind_34 : decode cX11_unbind 34 = .ok (.iastore, 1) := by decide +kernel
theorem dX11_unbind_35 : decode cX11_unbind 35 = .ok (.iinc 2 1, 3) := by decide +kernel
theorem dX11_unbind_38 : decode cX11_unbind 38 = .ok (.goto (-36), 3) := by decide +kernel
theorem dX11_unbind_41 : decode cX11_unbind 41 = .ok (.return_, 1) := by decide +kernel
theorem dX11_match_0 : decode cX11_match 0 = .ok (.aload_n 0, 1) := by decide +kernel
theorem dX11_match_1 : decode cX11_match 1 = .ok (.iload_n 2, 1) := by decide +kernel
theorem dX11_match_2 : decode cX11_match 2 = .ok (.invokevirtual 190, 3) := by decide +kernel
theorem dX11_match_5 : decode cX11_match 5 = .ok (.ifCond .eq 18, 3) := by decide +kernel
theorem dX11_match_8 : decode cX11_match 8 = .ok (.aload_n 0, 1) := by decide +kernel
theorem dX11_match_9 : decode cX11_match 9 = .ok (.iload_n 2, 1) := by decide +kernel
theorem dX11_match_10 : decode cX11_match 10 = .ok (.invokevirtual 193, 3) := by decide +kernel
theorem dX11_match_13 : decode cX11_match 13 = .ok (.iload_n 3, 1) := by decide +kernel
theorem dX11_match_14 : decode cX11_match 14 = .ok (.if_icmp .ne 7, 3) := by decide +kernel
theorem dX11_match_17 : decode cX11_match 17 = .ok (.iconst 1, 1) := by decide +kernel
theorem dX11_match_18 : decode cX11_match 18 = .ok (.goto 4, 3) := by decide +kernel
theorem dX11_match_21 : decode cX11_match 21 = .ok (.iconst 0, 1) := by decide +kernel
theorem dX11_match_22 : decode cX11_match 22 = .ok (.ireturn, 1) := by decide +kernel
theorem dX11_match_23 : decode cX11_match 23 = .ok (.aload_n 0, 1) := by decide +kernel
theorem dX11_match_24 : decode cX11_match 24 = .ok (.getfield 74, 3) := by decide +kernel
theorem dX11_match_27 : decode cX11_match 27 = .ok (.iconst (-1), 1) := by decide +kernel
theorem dX11_match_28 : decode cX11_match 28 = .ok (.iload_n 2, 1) := by decide +kernel
theorem dX11_match_29 : decode cX11_match 29 = .ok (.isub, 1) := by decide +kernel
theorem dX11_match_30 : decode cX11_match 30 = .ok (.iload_n 3, 1) := by decide +kernel
theorem dX11_match_31 : decode cX11_match 31 = .ok (.iastore, 1) := by decide +kernel
theorem dX11_match_32 : decode cX11_match 32 = .ok (.aload_n 0, 1) := by decide +kernel
theorem dX11_match_33 : decode cX11_match 33 = .ok (.getfield 77, 3) := by decide +kernel
theorem dX11_match_36 : decode cX11_match 36 = .ok (.iconst (-1), 1) := by decide +kernel
theorem dX11_match_37 : decode cX11_match 37 = .ok (.iload_n 2, 1) := by decide +kernel
theorem dX11_match_38 : decode cX11_match 38 = .ok (.isub, 1) := by decide +kernel
theorem dX11_match_39 : decode cX11_match 39 = .ok (.iload_n 1, 1) := by decide +kernel
theorem dX11_match_40 : decode cX11_match 40 = .ok (.iastore, 1) := by decide +kernel
theorem dX11_match_41 : decode cX11_match 41 = .ok (.iconst 1, 1) := by decide +kernel
theorem dX11_match_42 : decode cX11_match 42 = .ok (.ireturn, 1) := by decide +kernel
theorem dX11_fits_0 : decode cX11_fits 0 = .ok (.aload_n 0, 1) := by decide +kernel
theorem dX11_fits_1 : decode cX11_fits 1 = .ok (.getfield 68, 3) := by decide +kernel
theorem dX11_fits_4 : decode cX11_fits 4 = .ok (.bipush 50, 2) := by decide +kernel
theorem dX11_fits_6 : decode cX11_fits 6 = .ok (.iload_n 3, 1) := by decide +kernel
theorem dX11_fits_7 : decode cX11_fits 7 = .ok (.imul, 1) := by decide +kernel
theorem dX11_fits_8 : decode cX11_fits 8 = .ok (.iload 4, 2) := by decide +kernel
theorem dX11_fits_10 : decode cX11_fits 10 = .ok (.iadd, 1) := by decide +kernel
theorem dX11_fits_11 : decode cX11_fits 11 = .ok (.iaload, 1) := by decide +kernel
theorem dX11_fits_12 : decode cX11_fits 12 = .ok (.aload_n 0, 1) := by decide +kernel
theorem dX11_fits_13 : decode cX11_fits 13 = .ok (.getfield 59, 3) := by decide +kernel
theorem dX11_fits_16 : decode cX11_fits 16 = .ok (.iload_n 2, 1) := by decide +kernel
theorem dX11_fits_17 : decode cX11_fits 17 = .ok (.iaload, 1) := by decide +kernel
theorem dX11_fits_18 : decode cX11_fits 18 = .ok (.if_icmp .ne 7, 3) := by decide +kernel
theorem dX11_fits_21 : decode cX11_fits 21 = .ok (.iconst 1, 1) := by decide +kernel
theorem dX11_fits_22 : decode cX11_fits 22 = .ok (.goto 4, 3) := by decide +kernel
theorem dX11_fits_25 : decode cX11_fits 25 = .ok (.iconst 0, 1) := by decide +kernel
theorem dX11_fits_26 : decode cX11_fits 26 = .ok (.istore 5, 2) := by decide +kernel
theorem dX11_fits_28 : decode cX11_fits 28 = .ok (.iconst 0, 1) := by decide +kernel
theorem dX11_fits_29 : decode cX11_fits 29 = .ok (.istore 6, 2) := by decide +kernel
theorem dX11_fits_31 : decode cX11_fits 31 = .ok (.iload 5, 2) := by decide +kernel
theorem dX11_fits_33 : decode cX11_fits 33 = .ok (.ifCond .eq 60, 3) := by decide +kernel
theorem dX11_fits_36 : decode cX11_fits 36 = .ok (.iload 6, 2) := by decide +kernel
theorem dX11_fits_38 : decode cX11_fits 38 = .ok (.aload_n 0, 1) := by decide +kernel
theorem dX11_fits_39 : decode cX11_fits 39 = .ok (.getfield 13, 3) := by decide +kernel
theorem dX11_fits_42 : decode cX11_fits 42 = .ok (.aload_n 0, 1) := by decide +kernel
theorem dX11_fits_43 : decode cX11_fits 43 = .ok (.getfield 59, 3) := by decide +kernel
theorem dX11_fits_46 : decode cX11_fits 46 = .ok (.iload_n 2, 1) := by decide +kernel
theorem dX11_fits_47 : decode cX11_fits 47 = .ok (.iaload, 1) := by decide +kernel
theorem dX11_fits_48 : decode cX11_fits 48 = .ok (.iaload, 1) := by decide +kernel
theorem dX11_fits_49 : decode cX11_fits 49 = .ok (.if_icmp .ge 44, 3) := by decide +kernel
theorem dX11_fits_52 : decode cX11_fits 52 = .ok (.aload_n 0, 1) := by decide +kernel
theorem dX11_fits_53 : decode cX11_fits 53 = .ok (.iload_n 1, 1) := by decide +kernel
theorem dX11_fits_54 : decode cX11_fits 54 = .ok (.aload_n 0, 1) := by decide +kernel
theorem dX11_fits_55 : decode cX11_fits 55 = .ok (.getfield 62, 3) := by decide +kernel
theorem dX11_fits_58 : decode cX11_fits 58 = .ok (.iconst 3, 1) := by decide +kernel
theorem dX11_fits_59 : decode cX11_fits 59 = .ok (.iload_n 2, 1) := by decide +kernel
theorem dX11_fits_60 : decode cX11_fits 60 = .ok (.imul, 1) := by decide +kernel
theorem dX11_fits_61 : decode cX11_fits 61 = .ok (.iload 6, 2) := by decide +kernel
theorem dX11_fits_63 : decode cX11_fits 63 = .ok (.iadd, 1) := by decide +kernel
theorem dX11_fits_64 : decode cX11_fits 64 = .ok (.iaload, 1) := by decide +kernel
theorem dX11_fits_65 : decode cX11_fits 65 = .ok (.aload_n 0, 1) := by decide +kernel
theorem dX11_fits_66 : decode cX11_fits 66 = .ok (.getfield 71, 3) := by decide +kernel
theorem dX11_fits_69 : decode cX11_fits 69 = .ok (.iconst 3, 1) := by decide +kernel
theorem dX11_fits_70 : decode cX11_fits 70 = .ok (.bipush 50, 2) := by decide +kernel
theorem dX11_fits_72 : decode cX11_fits 72 = .ok (.iload_n 3, 1) := by decide +kernel
theorem dX11_fits_73 : decode cX11_fits 73 = .ok (.imul, 1) := by decide +kernel
theorem dX11_fits_74 : decode cX11_fits 74 = .ok (.iload 4, 2) := by decide +kernel
theorem dX11_fits_76 : decode cX11_fits 76 = .ok (.iadd, 1) := by decide +kernel
theorem dX11_fits_77 : decode cX11_fits 77 = .ok (.imul, 1) := by decide +kernel
theorem dX11_fits_78 : decode cX11_fits 78 = .ok (.iload 6, 2) := by decide +kernel
theorem dX11_fits_80 : decode cX11_fits 80 = .ok (.iadd, 1) := by decide +kernel
theorem dX11_fits_81 : decode cX11_fits 81 = .ok (.iaload, 1) := by decide +kernel
theorem dX11_fits_82 : decode cX11_fits 82 = .ok (.invokevirtual 196, 3) := by decide +kernel
theorem dX11_fits_85 : decode cX11_fits 85 = .ok (.istore 5, 2) := by decide +kernel
theorem dX11_fits_87 : decode cX11_fits 87 = .ok (.iinc 6 1, 3) := by decide +kernel
theorem dX11_fits_90 : decode cX11_fits 90 = .ok (.goto (-59), 3) := by decide +kernel
theorem dX11_fits_93 : decode cX11_fits 93 = .ok (.iload 5, 2) := by decide +kernel
theorem dX11_fits_95 : decode cX11_fits 95 = .ok (.ifCond .ne 8, 3) := by decide +kernel
theorem dX11_fits_98 : decode cX11_fits 98 = .ok (.aload_n 0, 1) := by decide +kernel
theorem dX11_fits_99 : decode cX11_fits 99 = .ok (.iload_n 1, 1) := by decide +kernel
theorem dX11_fits_100 : decode cX11_fits 100 = .ok (.invokevirtual 199, 3) := by decide +kernel
theorem dX11_fits_103 : decode cX11_fits 103 = .ok (.iload 5, 2) := by decide +kernel
theorem dX11_fits_105 : decode cX11_fits 105 = .ok (.ireturn, 1) := by decide +kernel
theorem dX11_has_0 : decode cX11_has 0 = .ok (.iconst 0, 1) := by decide +kernel
theorem dX11_has_1 : decode cX11_has 1 = .ok (.istore_n 3, 1) := by decide +kernel
theorem dX11_has_2 : decode cX11_has 2 = .ok (.iconst 0, 1) := by decide +kernel
theorem dX11_has_3 : decode cX11_has 3 = .ok (.istore 4, 2) := by decide +kernel
theorem dX11_has_5 : decode cX11_has 5 = .ok (.iload 4, 2) := by decide +kernel
theorem dX11_has_7 : decode cX11_has 7 = .ok (.aload_n 0, 1) := by decide +kernel
theorem dX11_has_8 : decode cX11_has 8 = .ok (.getfield 65, 3) := by decide +kernel
theorem dX11_has_11 : decode cX11_has 11 = .ok (.iload_n 2, 1) := by decide +kernel
theorem dX11_has_12 : decode cX11_has 12 = .ok (.iaload, 1) := by decide +kernel
theorem dX11_has_13 : decode cX11_has 13 = .ok (.if_icmp .ge 124, 3) := by decide +kernel
theorem dX11_has_16 : decode cX11_has 16 = .ok (.aload_n 0, 1) := by decide +kernel
theorem dX11_has_17 : decode cX11_has 17 = .ok (.getfield 68, 3) := by decide +kernel
theorem dX11_has_20 : decode cX11_has 20 = .ok (.bipush 50, 2) := by decide +kernel
theorem dX11_has_22 : decode cX11_has 22 = .ok (.iload_n 2, 1) := by decide +kernel
theorem dX11_has_23 : decode cX11_has 23 = .ok (.imul, 1) := by decide +kernel
theorem dX11_has_24 : decode cX11_has 24 = .ok (.iload 4, 2) := by decide +kernel
theorem dX11_has_26 : decode cX11_has 26 = .ok (.iadd, 1) := by decide +kernel
theorem dX11_has_27 : decode cX11_has 27 = .ok (.iaload, 1) := by decide +kernel
theorem dX11_has_28 : decode cX11_has 28 = .ok (.aload_n 0, 1) := by decide +kernel
theorem dX11_has_29 : decode cX11_has 29 = .ok (.getfield 59, 3) := by decide +kernel
theorem dX11_has_32 : decode cX11_has 32 = .ok (.iload_n 1, 1) := by decide +kernel
theorem dX11_has_33 : decode cX11_has 33 = .ok (.iaload, 1) := by decide +kernel
theorem dX11_has_34 : decode cX11_has 34 = .ok (.if_icmp .ne 7, 3) := by decide +kernel
theorem dX11_has_37 : decode cX11_has 37 = .ok (.iconst 1, 1) := by decide +kernel
theorem dX11_has_38 : decode cX11_has 38 = .ok (.goto 4, 3) := by decide +kernel
theorem dX11_has_41 : decode cX11_has 41 = .ok (.iconst 0, 1) := by decide +kernel
theorem dX11_has_42 : decode cX11_has 42 = .ok (.istore 5, 2) := by decide +kernel
theorem dX11_has_44 : decode cX11_has 44 = .ok (.iconst 0, 1) := by decide +kernel
theorem dX11_has_45 : decode cX11_has 45 = .ok (.istore 6, 2) := by decide +kernel
theorem dX11_has_47 : decode cX11_has 47 = .ok (.iload 5, 2) := by decide +kernel
theorem dX11_has_49 : decode cX11_has 49 = .ok (.ifCond .eq 67, 3) := by decide +kernel
theorem dX11_has_52 : decode cX11_has 52 = .ok (.iload 6, 2) := by decide +kernel
theorem dX11_has_54 : decode cX11_has 54 = .ok (.aload_n 0, 1) := by decide +kernel
theorem dX11_has_55 : decode cX11_has 55 = .ok (.getfield 13, 3) := by decide +kernel
theorem dX11_has_58 : decode cX11_has 58 = .ok (.aload_n 0, 1) := by decide +kernel
theorem dX11_has_59 : decode cX11_has 59 = .ok (.getfield 59, 3) := by decide +kernel
theorem dX11_has_62 : decode cX11_has 62 = .ok (.iload_n 1, 1) := by decide +kernel
theorem dX11_has_63 : decode cX11_has 63 = .ok (.iaload, 1) := by decide +kernel
theorem dX11_has_64 : decode cX11_has 64 = .ok (.iaload, 1) := by decide +kernel
theorem dX11_has_65 : decode cX11_has 65 = .ok (.if_icmp .ge 51, 3) := by decide +kernel
theorem dX11_has_68 : decode cX11_has 68 = .ok (.aload_n 0, 1) := by decide +kernel
theorem dX11_has_69 : decode cX11_has 69 = .ok (.getfield 71, 3) := by decide +kernel
theorem dX11_has_72 : decode cX11_has 72 = .ok (.iconst 3, 1) := by decide +kernel
theorem dX11_has_73 : decode cX11_has 73 = .ok (.bipush 50, 2) := by decide +kernel
theorem dX11_has_75 : decode cX11_has 75 = .ok (.iload_n 2, 1) := by decide +kernel
theorem dX11_has_76 : decode cX11_has 76 = .ok (.imul, 1) := by decide +kernel
theorem dX11_has_77 : decode cX11_has 77 = .ok (.iload 4, 2) := by decide +kernel
theorem dX11_has_79 : decode cX11_has 79 = .ok (.iadd, 1) := by decide +kernel
theorem dX11_has_80 : decode cX11_has 80 = .ok (.imul, 1) := by decide +kernel
theorem dX11_has_81 : decode cX11_has 81 = .ok (.iload 6, 2) := by decide +kernel
theorem dX11_has_83 : decode cX11_has 83 = .ok (.iadd, 1) := by decide +kernel
theorem dX11_has_84 : decode cX11_has 84 = .ok (.iaload, 1) := by decide +kernel
theorem dX11_has_85 : decode cX11_has 85 = .ok (.aload_n 0, 1) := by decide +kernel
theorem dX11_has_86 : decode cX11_has 86 = .ok (.aload_n 0, 1) := by decide +kernel
theorem dX11_has_87 : decode cX11_has 87 = .ok (.getfield 62, 3) := by decide +kernel
theorem dX11_has_90 : decode cX11_has 90 = .ok (.iconst 3, 1) := by decide +kernel
theorem dX11_has_91 : decode cX11_has 91 = .ok (.iload_n 1, 1) := by decide +kernel
theorem dX11_has_92 : decode cX11_has 92 = .ok (.imul, 1) := by decide +kernel
theorem dX11_has_93 : decode cX11_has 93 = .ok (.iload 6, 2) := by decide +kernel
theorem dX11_has_95 : decode cX11_has 95 = .ok (.iadd, 1) := by decide +kernel
theorem dX11_has_96 : decode cX11_has 96 = .ok (.iaload, 1) := by decide +kernel
theorem dX11_has_97 : decode cX11_has 97 = .ok (.invokevirtual 193, 3) := by decide +kernel
theorem dX11_has_100 : decode cX11_has 100 = .ok (.if_icmp .ne 7, 3) := by decide +kernel
theorem dX11_has_103 : decode cX11_has 103 = .ok (.iconst 1, 1) := by decide +kernel
theorem dX11_has_104 : decode cX11_has 104 = .ok (.goto 4, 3) := by decide +kernel
theorem dX11_has_107 : decode cX11_has 107 = .ok (.iconst 0, 1) := by decide +kernel
theorem dX11_has_108 : decode cX11_has 108 = .ok (.istore 5, 2) := by decide +kernel
theorem dX11_has_110 : decode cX11_has 110 = .ok (.iinc 6 1, 3) := by decide +kernel
theorem dX11_has_113 : decode cX11_has 113 = .ok (.goto (-66), 3) := by decide +kernel
theorem dX11_has_116 : decode cX11_has 116 = .ok (.iload_n 3, 1) := by decide +kernel
theorem dX11_has_117 : decode cX11_has 117 = .ok (.ifCond .ne 8, 3) := by decide +kernel
theorem dX11_has_120 : decode cX11_has 120 = .ok (.iload 5, 2) := by decide +kernel
theorem dX11_has_122 : decode cX11_has 122 = .ok (.ifCond .eq 7, 3) := by decide +kernel
theorem dX11_has_125 : decode cX11_has 125 = .ok (.iconst 1, 1) := by decide +kernel
theorem dX11_has_126 : decode cX11_has 126 = .ok (.goto 4, 3) := by decide +kernel
theorem dX11_has_129 : decode cX11_has 129 = .ok (.iconst 0, 1) := by decide +kernel
theorem dX11_has_130 : decode cX11_has 130 = .ok (.istore_n 3, 1) := by decide +kernel
theorem dX11_has_131 : decode cX11_has 131 = .ok (.iinc 4 1, 3) := by decide +kernel
theorem dX11_has_134 : decode cX11_has 134 = .ok (.goto (-129), 3) := by decide +kernel
theorem dX11_has_137 : decode cX11_has 137 = .ok (.iload_n 3, 1) := by decide +kernel
theorem dX11_has_138 : decode cX11_has 138 = .ok (.ireturn, 1) := by decide +kernel
theorem dX11_compares_0 : decode cX11_compares 0 = .ok (.iload_n 0, 1) := by decide +kernel
theorem dX11_compares_1 : decode cX11_compares 1 = .ok (.ifCond .ne 16, 3) := by decide +kernel
theorem dX11_compares_4 : decode cX11_compares 4 = .ok (.iload_n 1, 1) := by decide +kernel
theorem dX11_compares_5 : decode cX11_compares 5 = .ok (.iload_n 2, 1) := by decide +kernel
theorem dX11_compares_6 : decode cX11_compares 6 = .ok (.if_icmp .ne 7, 3) := by decide +kernel
theorem dX11_compares_9 : decode cX11_compares 9 = .ok (.iconst 1, 1) := by decide +kernel
theorem dX11_compares_10 : decode cX11_compares 10 = .ok (.goto 53, 3) := by decide +kernel
theorem dX11_compares_13 : decode cX11_compares 13 = .ok (.iconst 0, 1) := by decide +kernel
theorem dX11_compares_14 : decode cX11_compares 14 = .ok (.goto 49, 3) := by decide +kernel
theorem dX11_compares_17 : decode cX11_compares 17 = .ok (.iload_n 0, 1) := by decide +kernel
theorem dX11_compares_18 : decode cX11_compares 18 = .ok (.iconst 1, 1) := by decide +kernel
theorem dX11_compares_19 : decode cX11_compares 19 = .ok (.if_icmp .ne 16, 3) := by decide +kernel
theorem dX11_compares_22 : decode cX11_compares 22 = .ok (.iload_n 1, 1) := by decide +kernel
theorem dX11_compares_23 : decode cX11_compares 23 = .ok (.iload_n 2, 1) := by decide +kernel
theorem dX11_compares_24 : decode cX11_compares 24 = .ok (.if_icmp .eq 7, 3) := by decide +kernel
theorem dX11_compares_27 : decode cX11_compares 27 = .ok (.iconst 1, 1) := by decide +kernel
theorem dX11_compares_28 : decode cX11_compares 28 = .ok (.goto 35, 3) := by decide +kernel
theorem dX11_compares_31 : decode cX11_compares 31 = .ok (.iconst 0, 1) := by decide +kernel
theorem dX11_compares_32 : decode cX11_compares 32 = .ok (.goto 31, 3) := by decide +kernel
theorem dX11_compares_35 : decode cX11_compares 35 = .ok (.iload_n 0, 1) := by decide +kernel
theorem dX11_compares_36 : decode cX11_compares 36 = .ok (.iconst 2, 1) := by decide +kernel
theorem dX11_compares_37 : decode cX11_compares 37 = .ok (.if_icmp .ne 16, 3) := by decide +kernel
theorem dX11_compares_40 : decode cX11_compares 40 = .ok (.iload_n 1, 1) := by decide +kernel
theorem dX11_compares_41 : decode cX11_compares 41 = .ok (.iload_n 2, 1) := by decide +kernel
theorem dX11_compares_42 : decode cX11_compares 42 = .ok (.if_icmp .ge 7, 3) := by decide +kernel
theorem dX11_compares_45 : decode cX11_compares 45 = .ok (.iconst 1, 1) := by decide +kernel
theorem dX11_compares_46 : decode cX11_compares 46 = .ok (.goto 17, 3) := by decide +kernel
theorem dX11_compares_49 : decode cX11_compares 49 = .ok (.iconst 0, 1) := by decide +kernel
theorem dX11_compares_50 : decode cX11_compares 50 = .ok (.goto 13, 3) := by decide +kernel
theorem dX11_compares_53 : decode cX11_compares 53 = .ok (.iload_n 1, 1) := by decide +kernel
theorem dX11_compares_54 : decode cX11_compares 54 = .ok (.iload_n 2, 1) := by decide +kernel
theorem dX11_compares_55 : decode cX11_compares 55 = .ok (.if_icmp .gt 7, 3) := by decide +kernel
theorem dX11_compares_58 : decode cX11_compares 58 = .ok (.iconst 1, 1) := by decide +kernel
theorem dX11_compares_59 : decode cX11_compares 59 = .ok (.goto 4, 3) := by decide +kernel
theorem dX11_compares_62 : decode cX11_compares 62 = .ok (.iconst 0, 1) := by decide +kernel
theorem dX11_compares_63 : decode cX11_compares 63 = .ok (.ireturn, 1) := by decide +kernel
theorem dX11_tries_0 : decode cX11_tries 0 = .ok (.iconst 5, 1) := by decide +kernel
theorem dX11_tries_1 : decode cX11_tries 1 = .ok (.iload_n 1, 1) := by decide +kernel
theorem dX11_tries_2 : decode cX11_tries 2 = .ok (.imul, 1) := by decide +kernel
theorem dX11_tries_3 : decode cX11_tries 3 = .ok (.iload_n 2, 1) := by decide +kernel
theorem dX11_tries_4 : decode cX11_tries 4 = .ok (.iadd, 1) := by decide +kernel
theorem dX11_tries_5 : decode cX11_tries 5 = .ok (.istore 4, 2) := by decide +kernel
theorem dX11_tries_7 : decode cX11_tries 7 = .ok (.aload_n 0, 1) := by decide +kernel
theorem dX11_tries_8 : decode cX11_tries 8 = .ok (.iload_n 2, 1) := by decide +kernel
theorem dX11_tries_9 : decode cX11_tries 9 = .ok (.invokevirtual 199, 3) := by decide +kernel
theorem dX11_tries_12 : decode cX11_tries 12 = .ok (.aload_n 0, 1) := by decide +kernel
theorem dX11_tries_13 : decode cX11_tries 13 = .ok (.getfield 56, 3) := by decide +kernel
theorem dX11_tries_16 : decode cX11_tries 16 = .ok (.iload 4, 2) := by decide +kernel
theorem dX11_tries_18 : decode cX11_tries 18 = .ok (.iaload, 1) := by decide +kernel
theorem dX11_tries_19 : decode cX11_tries 19 = .ok (.ifCond .ne 51, 3) := by decide +kernel
theorem dX11_tries_22 : decode cX11_tries 22 = .ok (.aload_n 0, 1) := by decide +kernel
theorem dX11_tries_23 : decode cX11_tries 23 = .ok (.getfield 80, 3) := by decide +kernel
theorem dX11_tries_26 : decode cX11_tries 26 = .ok (.iload_n 2, 1) := by decide +kernel
theorem dX11_tries_27 : decode cX11_tries 27 = .ok (.iaload, 1) := by decide +kernel
theorem dX11_tries_28 : decode cX11_tries 28 = .ok (.aload_n 0, 1) := by decide +kernel
theorem dX11_tries_29 : decode cX11_tries 29 = .ok (.getfield 65, 3) := by decide +kernel
theorem dX11_tries_32 : decode cX11_tries 32 = .ok (.iload_n 3, 1) := by decide +kernel
theorem dX11_tries_33 : decode cX11_tries 33 = .ok (.iaload, 1) := by decide +kernel
theorem dX11_tries_34 : decode cX11_tries 34 = .ok (.if_icmp .ge 34, 3) := by decide +kernel
theorem dX11_tries_37 : decode cX11_tries 37 = .ok (.aload_n 0, 1) := by decide +kernel
theorem dX11_tries_38 : decode cX11_tries 38 = .ok (.getfield 80, 3) := by decide +kernel
theorem dX11_tries_41 : decode cX11_tries 41 = .ok (.iload_n 2, 1) := by decide +kernel
theorem dX11_tries_42 : decode cX11_tries 42 = .ok (.dup2, 1) := by decide +kernel
theorem dX11_tries_43 : decode cX11_tries 43 = .ok (.iaload, 1) := by decide +kernel
theorem dX11_tries_44 : decode cX11_tries 44 = .ok (.iconst 1, 1) := by decide +kernel
theorem dX11_tries_45 : decode cX11_tries 45 = .ok (.iadd, 1) := by decide +kernel
theorem dX11_tries_46 : decode cX11_tries 46 = .ok (.iastore, 1) := by decide +kernel
theorem dX11_tries_47 : decode cX11_tries 47 = .ok (.aload_n 0, 1) := by decide +kernel
theorem dX11_tries_48 : decode cX11_tries 48 = .ok (.iload_n 2, 1) := by decide +kernel
theorem dX11_tries_49 : decode cX11_tries 49 = .ok (.iload 4, 2) := by decide +kernel
theorem dX11_tries_51 : decode cX11_tries 51 = .ok (.iload_n 3, 1) := by decide +kernel
theorem dX11_tries_52 : decode cX11_tries 52 = .ok (.aload_n 0, 1) := by decide +kernel
theorem dX11_tries_53 : decode cX11_tries 53 = .ok (.getfield 80, 3) := by decide +kernel
theorem dX11_tries_56 : decode cX11_tries 56 = .ok (.iload_n 2, 1) := by decide +kernel
theorem dX11_tries_57 : decode cX11_tries 57 = .ok (.iaload, 1) := by decide +kernel
theorem dX11_tries_58 : decode cX11_tries 58 = .ok (.iconst 1, 1) := by decide +kernel
theorem dX11_tries_59 : decode cX11_tries 59 = .ok (.isub, 1) := by decide +kernel
theorem dX11_tries_60 : decode cX11_tries 60 = .ok (.invokevirtual 202, 3) := by decide +kernel
theorem dX11_tries_63 : decode cX11_tries 63 = .ok (.ifCond .eq (-41), 3) := by decide +kernel
theorem dX11_tries_66 : decode cX11_tries 66 = .ok (.iconst 1, 1) := by decide +kernel
theorem dX11_tries_67 : decode cX11_tries 67 = .ok (.ireturn, 1) := by decide +kernel
theorem dX11_tries_68 : decode cX11_tries 68 = .ok (.iconst 0, 1) := by decide +kernel
theorem dX11_tries_69 : decode cX11_tries 69 = .ok (.ireturn, 1) := by decide +kernel
theorem dX11_tries_70 : decode cX11_tries 70 = .ok (.aload_n 0, 1) := by decide +kernel
theorem dX11_tries_71 : decode cX11_tries 71 = .ok (.getfield 80, 3) := by decide +kernel
theorem dX11_tries_74 : decode cX11_tries 74 = .ok (.iload_n 2, 1) := by decide +kernel
theorem dX11_tries_75 : decode cX11_tries 75 = .ok (.iaload, 1) := by decide +kernel
theorem dX11_tries_76 : decode cX11_tries 76 = .ok (.ifCond .le 5, 3) := by decide +kernel
theorem dX11_tries_79 : decode cX11_tries 79 = .ok (.iconst 0, 1) := by decide +kernel
theorem dX11_tries_80 : decode cX11_tries 80 = .ok (.ireturn, 1) := by decide +kernel
theorem dX11_tries_81 : decode cX11_tries 81 = .ok (.aload_n 0, 1) := by decide +kernel
theorem dX11_tries_82 : decode cX11_tries 82 = .ok (.getfield 80, 3) := by decide +kernel
theorem dX11_tries_85 : decode cX11_tries 85 = .ok (.iload_n 2, 1) := by decide +kernel
theorem dX11_tries_86 : decode cX11_tries 86 = .ok (.iconst 1, 1) := by decide +kernel
theorem dX11_tries_87 : decode cX11_tries 87 = .ok (.iastore, 1) := by decide +kernel
theorem dX11_tries_88 : decode cX11_tries 88 = .ok (.aload_n 0, 1) := by decide +kernel
theorem dX11_tries_89 : decode cX11_tries 89 = .ok (.getfield 62, 3) := by decide +kernel
theorem dX11_tries_92 : decode cX11_tries 92 = .ok (.iconst 3, 1) := by decide +kernel
theorem dX11_tries_93 : decode cX11_tries 93 = .ok (.iload 4, 2) := by decide +kernel
theorem dX11_tries_95 : decode cX11_tries 95 = .ok (.imul, 1) := by decide +kernel
theorem dX11_tries_96 : decode cX11_tries 96 = .ok (.iaload, 1) := by decide +kernel
theorem dX11_tries_97 : decode cX11_tries 97 = .ok (.istore 5, 2) := by decide +kernel
theorem dX11_tries_99 : decode cX11_tries 99 = .ok (.aload_n 0, 1) := by decide +kernel
theorem dX11_tries_100 : decode cX11_tries 100 = .ok (.getfield 62, 3) := by decide +kernel
theorem dX11_tries_103 : decode cX11_tries 103 = .ok (.iconst 3, 1) := by decide +kernel
theorem dX11_tries_104 : decode cX11_tries 104 = .ok (.iload 4, 2) := by decide +kernel
theorem dX11_tries_106 : decode cX11_tries 106 = .ok (.imul, 1) := by decide +kernel
theorem dX11_tries_107 : decode cX11_tries 107 = .ok (.iconst 1, 1) := by decide +kernel
theorem dX11_tries_108 : decode cX11_tries 108 = .ok (.iadd, 1) := by decide +kernel
theorem dX11_tries_109 : decode cX11_tries 109 = .ok (.iaload, 1) := by decide +kernel
theorem dX11_tries_110 : decode cX11_tries 110 = .ok (.istore 6, 2) := by decide +kernel
theorem dX11_tries_112 : decode cX11_tries 112 = .ok (.aload_n 0, 1) := by decide +kernel
theorem dX11_tries_113 : decode cX11_tries 113 = .ok (.getfield 56, 3) := by decide +kernel
theorem dX11_tries_116 : decode cX11_tries 116 = .ok (.iload 4, 2) := by decide +kernel
theorem dX11_tries_118 : decode cX11_tries 118 = .ok (.iaload, 1) := by decide +kernel
theorem dX11_tries_119 : decode cX11_tries 119 = .ok (.iconst 1, 1) := by decide +kernel
theorem dX11_tries_120 : decode cX11_tries 120 = .ok (.if_icmp .ne 19, 3) := by decide +kernel
theorem dX11_tries_123 : decode cX11_tries 123 = .ok (.aload_n 0, 1) := by decide +kernel
theorem dX11_tries_124 : decode cX11_tries 124 = .ok (.iload 4, 2) := by decide +kernel
theorem dX11_tries_126 : decode cX11_tries 126 = .ok (.iload_n 3, 1) := by decide +kernel
theorem dX11_tries_127 : decode cX11_tries 127 = .ok (.invokevirtual 205, 3) := by decide +kernel
theorem dX11_tries_130 : decode cX11_tries 130 = .ok (.ifCond .ne 7, 3) := by decide +kernel
theorem dX11_tries_133 : decode cX11_tries 133 = .ok (.iconst 1, 1) := by decide +kernel
theorem dX11_tries_134 : decode cX11_tries 134 = .ok (.goto 4, 3) := by decide +kernel
theorem dX11_tries_137 : decode cX11_tries 137 = .ok (.iconst 0, 1) := by decide +kernel
theorem dX11_tries_138 : decode cX11_tries 138 = .ok (.ireturn, 1) := by decide +kernel
theorem dX11_tries_139 : decode cX11_tries 139 = .ok (.aload_n 0, 1) := by decide +kernel
theorem dX11_tries_140 : decode cX11_tries 140 = .ok (.getfield 56, 3) := by decide +kernel
theorem dX11_tries_143 : decode cX11_tries 143 = .ok (.iload 4, 2) := by decide +kernel
theorem dX11_tries_145 : decode cX11_tries 145 = .ok (.iaload, 1) := by decide +kernel
theorem dX11_tries_146 : decode cX11_tries 146 = .ok (.iconst 2, 1) := by decide +kernel
theorem dX11_tries_147 : decode cX11_tries 147 = .ok (.if_icmp .ne 26, 3) := by decide +kernel
theorem dX11_tries_150 : decode cX11_tries 150 = .ok (.aload_n 0, 1) := by decide +kernel
theorem dX11_tries_151 : decode cX11_tries 151 = .ok (.getfield 59, 3) := by decide +kernel
theorem dX11_tries_154 : decode cX11_tries 154 = .ok (.iload 4, 2) := by decide +kernel
theorem dX11_tries_156 : decode cX11_tries 156 = .ok (.iaload, 1) := by decide +kernel
theorem dX11_tries_157 : decode cX11_tries 157 = .ok (.aload_n 0, 1) := by decide +kernel
theorem dX11_tries_158 : decode cX11_tries 158 = .ok (.iload 5, 2) := by decide +kernel
theorem dX11_tries_160 : decode cX11_tries 160 = .ok (.invokevirtual 193, 3) := by decide +kernel
theorem dX11_tries_163 : decode cX11_tries 163 = .ok (.aload_n 0, 1) := by decide +kernel
theorem dX11_tries_164 : decode cX11_tries 164 = .ok (.iload 6, 2) := by decide +kernel
theorem dX11_tries_166 : decode cX11_tries 166 = .ok (.invokevirtual 193, 3) := by decide +kernel
theorem dX11_tries_169 : decode cX11_tries 169 = .ok (.invokestatic 208, 3) := by decide +kernel
theorem dX11_tries_172 : decode cX11_tries 172 = .ok (.ireturn, 1) := by decide +kernel
theorem dX11_tries_173 : decode cX11_tries 173 = .ok (.aload_n 0, 1) := by decide +kernel
theorem dX11_tries_174 : decode cX11_tries 174 = .ok (.iload 6, 2) := by decide +kernel
theorem dX11_tries_176 : decode cX11_tries 176 = .ok (.invokevirtual 193, 3) := by decide +kernel
theorem dX11_tries_179 : decode cX11_tries 179 = .ok (.aload_n 0, 1) := by decide +kernel
theorem dX11_tries_180 : decode cX11_tries 180 = .ok (.aload_n 0, 1) := by decide +kernel
theorem dX11_tries_181 : decode cX11_tries 181 = .ok (.getfield 62, 3) := by decide +kernel
theorem dX11_tries_184 : decode cX11_tries 184 = .ok (.iconst 3, 1) := by decide +kernel
theorem dX11_tries_185 : decode cX11_tries 185 = .ok (.iload 4, 2) := by decide +kernel
theorem dX11_tries_187 : decode cX11_tries 187 = .ok (.imul, 1) := by decide +kernel
theorem dX11_tries_188 : decode cX11_tries 188 = .ok (.iconst 2, 1) := by decide +kernel
theorem dX11_tries_189 : decode cX11_tries 189 = .ok (.iadd, 1) := by decide +kernel
theorem dX11_tries_190 : decode cX11_tries 190 = .ok (.iaload, 1) := by decide +kernel
theorem dX11_tries_191 : decode cX11_tries 191 = .ok (.invokevirtual 193, 3) := by decide +kernel
theorem dX11_tries_194 : decode cX11_tries 194 = .ok (.iadd, 1) := by decide +kernel
theorem dX11_tries_195 : decode cX11_tries 195 = .ok (.istore 7, 2) := by decide +kernel
theorem dX11_tries_197 : decode cX11_tries 197 = .ok (.aload_n 0, 1) := by decide +kernel
theorem dX11_tries_198 : decode cX11_tries 198 = .ok (.iload_n 2, 1) := by decide +kernel
theorem dX11_tries_199 : decode cX11_tries 199 = .ok (.iload 5, 2) := by decide +kernel
theorem dX11_tries_201 : decode cX11_tries 201 = .ok (.iload 7, 2) := by decide +kernel
theorem dX11_tries_203 : decode cX11_tries 203 = .ok (.bipush 127, 2) := by decide +kernel
theorem dX11_tries_205 : decode cX11_tries 205 = .ok (.if_icmp .le 8, 3) := by decide +kernel
theorem dX11_tries_208 : decode cX11_tries 208 = .ok (.bipush 127, 2) := by decide +kernel
theorem dX11_tries_210 : decode cX11_tries 210 = .ok (.goto 5, 3) := by decide +kernel
theorem dX11_tries_213 : decode cX11_tries 213 = .ok (.iload 7, 2) := by decide +kernel
theorem dX11_tries_215 : decode cX11_tries 215 = .ok (.invokevirtual 196, 3) := by decide +kernel
theorem dX11_tries_218 : decode cX11_tries 218 = .ok (.ireturn, 1) := by decide +kernel
theorem dX11_next_0 : decode cX11_next 0 = .ok (.aload_n 0, 1) := by decide +kernel
theorem dX11_next_1 : decode cX11_next 1 = .ok (.getfield 186, 3) := by decide +kernel
theorem dX11_next_4 : decode cX11_next 4 = .ok (.ifCond .eq 13, 3) := by decide +kernel
theorem dX11_next_7 : decode cX11_next 7 = .ok (.aload_n 0, 1) := by decide +kernel
theorem dX11_next_8 : decode cX11_next 8 = .ok (.iload_n 2, 1) := by decide +kernel
theorem dX11_next_9 : decode cX11_next 9 = .ok (.iconst 1, 1) := by decide +kernel
theorem dX11_next_10 : decode cX11_next 10 = .ok (.isub, 1) := by decide +kernel
theorem dX11_next_11 : decode cX11_next 11 = .ok (.putfield 211, 3) := by decide +kernel
theorem dX11_next_14 : decode cX11_next 14 = .ok (.goto 20, 3) := by decide +kernel
theorem dX11_next_17 : decode cX11_next 17 = .ok (.aload_n 0, 1) := by decide +kernel
theorem dX11_next_18 : decode cX11_next 18 = .ok (.iconst 1, 1) := by decide +kernel
theorem dX11_next_19 : decode cX11_next 19 = .ok (.putfield 186, 3) := by decide +kernel
theorem dX11_next_22 : decode cX11_next 22 = .ok (.aload_n 0, 1) := by decide +kernel
theorem dX11_next_23 : decode cX11_next 23 = .ok (.iconst 0, 1) := by decide +kernel
theorem dX11_next_24 : decode cX11_next 24 = .ok (.putfield 211, 3) := by decide +kernel
theorem dX11_next_27 : decode cX11_next 27 = .ok (.aload_n 0, 1) := by decide +kernel
theorem dX11_next_28 : decode cX11_next 28 = .ok (.getfield 80, 3) := by decide +kernel
theorem dX11_next_31 : decode cX11_next 31 = .ok (.iconst 0, 1) := by decide +kernel
theorem dX11_next_32 : decode cX11_next 32 = .ok (.iconst 0, 1) := by decide +kernel
theorem dX11_next_33 : decode cX11_next 33 = .ok (.iastore, 1) := by decide +kernel
theorem dX11_next_34 : decode cX11_next 34 = .ok (.aload_n 0, 1) := by decide +kernel
theorem dX11_next_35 : decode cX11_next 35 = .ok (.getfield 211, 3) := by decide +kernel
theorem dX11_next_38 : decode cX11_next 38 = .ok (.ifCond .lt 68, 3) := by decide +kernel
theorem dX11_next_41 : decode cX11_next 41 = .ok (.aload_n 0, 1) := by decide +kernel
theorem dX11_next_42 : decode cX11_next 42 = .ok (.getfield 211, 3) := by decide +kernel
theorem dX11_next_45 : decode cX11_next 45 = .ok (.iload_n 2, 1) := by decide +kernel
theorem dX11_next_46 : decode cX11_next 46 = .ok (.if_icmp .ge 60, 3) := by decide +kernel
theorem dX11_next_49 : decode cX11_next 49 = .ok (.aload_n 0, 1) := by decide +kernel
theorem dX11_next_50 : decode cX11_next 50 = .ok (.iload_n 1, 1) := by decide +kernel
theorem dX11_next_51 : decode cX11_next 51 = .ok (.aload_n 0, 1) := by decide +kernel
theorem dX11_next_52 : decode cX11_next 52 = .ok (.getfield 211, 3) := by decide +kernel
theorem dX11_next_55 : decode cX11_next 55 = .ok (.iload_n 3, 1) := by decide +kernel
theorem dX11_next_56 : decode cX11_next 56 = .ok (.invokevirtual 214, 3) := by decide +kernel
theorem dX11_next_59 : decode cX11_next 59 = .ok (.ifCond .eq 34, 3) := by decide +kernel
theorem dX11_next_62 : decode cX11_next 62 = .ok (.aload_n 0, 1) := by decide +kernel
theorem dX11_next_63 : decode cX11_next 63 = .ok (.dup, 1) := by decide +kernel
theorem dX11_next_64 : decode cX11_next 64 = .ok (.getfield 211, 3) := by decide +kernel
theorem dX11_next_67 : decode cX11_next 67 = .ok (.iconst 1, 1) := by decide +kernel
theorem dX11_next_68 : decode cX11_next 68 = .ok (.iadd, 1) := by decide +kernel
theorem dX11_next_69 : decode cX11_next 69 = .ok (.putfield 211, 3) := by decide +kernel
theorem dX11_next_72 : decode cX11_next 72 = .ok (.aload_n 0, 1) := by decide +kernel
theorem dX11_next_73 : decode cX11_next 73 = .ok (.getfield 211, 3) := by decide +kernel
theorem dX11_next_76 : decode cX11_next 76 = .ok (.iload_n 2, 1) := by decide +kernel
theorem dX11_next_77 : decode cX11_next 77 = .ok (.if_icmp .ge (-43), 3) := by decide +kernel
theorem dX11_next_80 : decode cX11_next 80 = .ok (.aload_n 0, 1) := by decide +kernel
theorem dX11_next_81 : decode cX11_next 81 = .ok (.getfield 80, 3) := by decide +kernel
theorem dX11_next_84 : decode cX11_next 84 = .ok (.aload_n 0, 1) := by decide +kernel
theorem dX11_next_85 : decode cX11_next 85 = .ok (.getfield 211, 3) := by decide +kernel
theorem dX11_next_88 : decode cX11_next 88 = .ok (.iconst 0, 1) := by decide +kernel
theorem dX11_next_89 : decode cX11_next 89 = .ok (.iastore, 1) := by decide +kernel
theorem dX11_next_90 : decode cX11_next 90 = .ok (.goto (-56), 3) := by decide +kernel
theorem dX11_next_93 : decode cX11_next 93 = .ok (.aload_n 0, 1) := by decide +kernel
theorem dX11_next_94 : decode cX11_next 94 = .ok (.dup, 1) := by decide +kernel
theorem dX11_next_95 : decode cX11_next 95 = .ok (.getfield 211, 3) := by decide +kernel
theorem dX11_next_98 : decode cX11_next 98 = .ok (.iconst 1, 1) := by decide +kernel
theorem dX11_next_99 : decode cX11_next 99 = .ok (.isub, 1) := by decide +kernel
theorem dX11_next_100 : decode cX11_next 100 = .ok (.putfield 211, 3) := by decide +kernel
theorem dX11_next_103 : decode cX11_next 103 = .ok (.goto (-69), 3) := by decide +kernel
theorem dX11_next_106 : decode cX11_next 106 = .ok (.aload_n 0, 1) := by decide +kernel
theorem dX11_next_107 : decode cX11_next 107 = .ok (.getfield 211, 3) := by decide +kernel
theorem dX11_next_110 : decode cX11_next 110 = .ok (.ifCond .lt 7, 3) := by decide +kernel
theorem dX11_next_113 : decode cX11_next 113 = .ok (.iconst 1, 1) := by decide +kernel
theorem dX11_next_114 : decode cX11_next 114 = .ok (.goto 4, 3) := by decide +kernel
theorem dX11_next_117 : decode cX11_next 117 = .ok (.iconst 0, 1) := by decide +kernel
theorem dX11_next_118 : decode cX11_next 118 = .ok (.ireturn, 1) := by decide +kernel
theorem dX11_place_0 : decode cX11_place 0 = .ok (.aload_n 0, 1) := by decide +kernel
theorem dX11_place_1 : decode cX11_place 1 = .ok (.getfield 17, 3) := by decide +kernel
theorem dX11_place_4 : decode cX11_place 4 = .ok (.iload_n 2, 1) := by decide +kernel
theorem dX11_place_5 : decode cX11_place 5 = .ok (.iaload, 1) := by decide +kernel
theorem dX11_place_6 : decode cX11_place 6 = .ok (.ifCond .ne 12, 3) := by decide +kernel
theorem dX11_place_9 : decode cX11_place 9 = .ok (.aload_n 0, 1) := by decide +kernel
theorem dX11_place_10 : decode cX11_place 10 = .ok (.getfield 13, 3) := by decide +kernel
theorem dX11_place_13 : decode cX11_place 13 = .ok (.iload_n 2, 1) := by decide +kernel
theorem dX11_place_14 : decode cX11_place 14 = .ok (.iaload, 1) := by decide +kernel
theorem dX11_place_15 : decode cX11_place 15 = .ok (.goto 11, 3) := by decide +kernel
theorem dX11_place_18 : decode cX11_place 18 = .ok (.aload_n 0, 1) := by decide +kernel
theorem dX11_place_19 : decode cX11_place 19 = .ok (.getfield 13, 3) := by decide +kernel
theorem dX11_place_22 : decode cX11_place 22 = .ok (.iload_n 2, 1) := by decide +kernel
theorem dX11_place_23 : decode cX11_place 23 = .ok (.iaload, 1) := by decide +kernel
theorem dX11_place_24 : decode cX11_place 24 = .ok (.iconst 1, 1) := by decide +kernel
theorem dX11_place_25 : decode cX11_place 25 = .ok (.isub, 1) := by decide +kernel
theorem dX11_place_26 : decode cX11_place 26 = .ok (.istore 6, 2) := by decide +kernel
theorem dX11_place_28 : decode cX11_place 28 = .ok (.iconst (-1), 1) := by decide +kernel
theorem dX11_place_29 : decode cX11_place 29 = .ok (.istore 7, 2) := by decide +kernel
theorem dX11_place_31 : decode cX11_place 31 = .ok (.iconst 0, 1) := by decide +kernel
theorem dX11_place_32 : decode cX11_place 32 = .ok (.istore 8, 2) := by decide +kernel
theorem dX11_place_34 : decode cX11_place 34 = .ok (.iload 8, 2) := by decide +kernel
theorem dX11_place_36 : decode cX11_place 36 = .ok (.aload_n 0, 1) := by decide +kernel
theorem dX11_place_37 : decode cX11_place 37 = .ok (.getfield 65, 3) := by decide +kernel
theorem dX11_place_40 : decode cX11_place 40 = .ok (.iload_n 1, 1) := by decide +kernel
theorem dX11_place_41 : decode cX11_place 41 = .ok (.iaload, 1) := by decide +kernel
theorem dX11_place_42 : decode cX11_place 42 = .ok (.if_icmp .ge 113, 3) := by decide +kernel
theorem dX11_place_45 : decode cX11_place 45 = .ok (.bipush 50, 2) := by decide +kernel
theorem dX11_place_47 : decode cX11_place 47 = .ok (.iload_n 1, 1) := by decide +kernel
theorem dX11_place_48 : decode cX11_place 48 = .ok (.imul, 1) := by decide +kernel
theorem dX11_place_49 : decode cX11_place 49 = .ok (.iload 8, 2) := by decide +kernel
theorem dX11_place_51 : decode cX11_place 51 = .ok (.iadd, 1) := by decide +kernel
theorem dX11_place_52 : decode cX11_place 52 = .ok (.istore 9, 2) := by decide +kernel
theorem dX11_place_54 : decode cX11_place 54 = .ok (.aload_n 0, 1) := by decide +kernel
theorem dX11_place_55 : decode cX11_place 55 = .ok (.getfield 68, 3) := by decide +kernel
theorem dX11_place_58 : decode cX11_place 58 = .ok (.iload 9, 2) := by decide +kernel
theorem dX11_place_60 : decode cX11_place 60 = .ok (.iaload, 1) := by decide +kernel
theorem dX11_place_61 : decode cX11_place 61 = .ok (.iload_n 2, 1) := by decide +kernel
theorem dX11_place_62 : decode cX11_place 62 = .ok (.if_icmp .ne 70, 3) := by decide +kernel
theorem dX11_place_65 : decode cX11_place 65 = .ok (.iload 6, 2) := by decide +kernel
theorem dX11_place_67 : decode cX11_place 67 = .ok (.iconst 1, 1) := by decide +kernel
theorem dX11_place_68 : decode cX11_place 68 = .ok (.if_icmp .lt 16, 3) := by decide +kernel
theorem dX11_place_71 : decode cX11_place 71 = .ok (.aload_n 0, 1) := by decide +kernel
theorem dX11_place_72 : decode cX11_place 72 = .ok (.getfield 71, 3) := by decide +kernel
theorem dX11_place_75 : decode cX11_place 75 = .ok (.iconst 3, 1) := by decide +kernel
theorem dX11_place_76 : decode cX11_place 76 = .ok (.iload 9, 2) := by decide +kernel
theorem dX11_place_78 : decode cX11_place 78 = .ok (.imul, 1) := by decide +kernel
theorem dX11_place_79 : decode cX11_place 79 = .ok (.iaload, 1) := by decide +kernel
theorem dX11_place_80 : decode cX11_place 80 = .ok (.iload_n 3, 1) := by decide +kernel
theorem dX11_place_81 : decode cX11_place 81 = .ok (.if_icmp .ne 51, 3) := by decide +kernel
theorem dX11_place_84 : decode cX11_place 84 = .ok (.iload 6, 2) := by decide +kernel
theorem dX11_place_86 : decode cX11_place 86 = .ok (.iconst 2, 1) := by decide +kernel
theorem dX11_place_87 : decode cX11_place 87 = .ok (.if_icmp .lt 19, 3) := by decide +kernel
theorem dX11_place_90 : decode cX11_place 90 = .ok (.aload_n 0, 1) := by decide +kernel
theorem dX11_place_91 : decode cX11_place 91 = .ok (.getfield 71, 3) := by decide +kernel
theorem dX11_place_94 : decode cX11_place 94 = .ok (.iconst 3, 1) := by decide +kernel
theorem dX11_place_95 : decode cX11_place 95 = .ok (.iload 9, 2) := by decide +kernel
theorem dX11_place_97 : decode cX11_place 97 = .ok (.imul, 1) := by decide +kernel
theorem dX11_place_98 : decode cX11_place 98 = .ok (.iconst 1, 1) := by decide +kernel
theorem dX11_place_99 : decode cX11_place 99 = .ok (.iadd, 1) := by decide +kernel
theorem dX11_place_100 : decode cX11_place 100 = .ok (.iaload, 1) := by decide +kernel
theorem dX11_place_101 : decode cX11_place 101 = .ok (.iload 4, 2) := by decide +kernel
theorem dX11_place_103 : decode cX11_place 103 = .ok (.if_icmp .ne 29, 3) := by decide +kernel
theorem dX11_place_106 : decode cX11_place 106 = .ok (.iload 6, 2) := by decide +kernel
theorem dX11_place_108 : decode cX11_place 108 = .ok (.iconst 3, 1) := by decide +kernel
theorem dX11_place_109 : decode cX11_place 109 = .ok (.if_icmp .lt 19, 3) := by decide +kernel
theorem dX11_place_112 : decode cX11_place 112 = .ok (.aload_n 0, 1) := by decide +kernel
theorem dX11_place_113 : decode cX11_place 113 = .ok (.getfield 71, 3) := by decide +kernel
theorem dX11_place_116 : decode cX11_place 116 = .ok (.iconst 3, 1) := by decide +kernel
theorem dX11_place_117 : decode cX11_place 117 = .ok (.iload 9, 2) := by decide +kernel
theorem dX11_place_119 : decode cX11_place 119 = .ok (.imul, 1) := by decide +kernel
theorem dX11_place_120 : decode cX11_place 120 = .ok (.iconst 2, 1) := by decide +kernel
theorem dX11_place_121 : decode cX11_place 121 = .ok (.iadd, 1) := by decide +kernel
theorem dX11_place_122 : decode cX11_place 122 = .ok (.iaload, 1) := by decide +kernel
theorem dX11_place_123 : decode cX11_place 123 = .ok (.iload 5, 2) := by decide +kernel
theorem dX11_place_125 : decode cX11_place 125 = .ok (.if_icmp .ne 7, 3) := by decide +kernel
theorem dX11_place_128 : decode cX11_place 128 = .ok (.iconst 1, 1) := by decide +kernel
theorem dX11_place_129 : decode cX11_place 129 = .ok (.goto 4, 3) := by decide +kernel
theorem dX11_place_132 : decode cX11_place 132 = .ok (.iconst 0, 1) := by decide +kernel
theorem dX11_place_133 : decode cX11_place 133 = .ok (.istore 10, 2) := by decide +kernel
theorem dX11_place_135 : decode cX11_place 135 = .ok (.iload 10, 2) := by decide +kernel
theorem dX11_place_137 : decode cX11_place 137 = .ok (.ifCond .eq 8, 3) := by decide +kernel
theorem dX11_place_140 : decode cX11_place 140 = .ok (.iload 8, 2) := by decide +kernel
theorem dX11_place_142 : decode cX11_place 142 = .ok (.goto 5, 3) := by decide +kernel
theorem dX11_place_145 : decode cX11_place 145 = .ok (.iload 7, 2) := by decide +kernel
theorem dX11_place_147 : decode cX11_place 147 = .ok (.istore 7, 2) := by decide +kernel
theorem dX11_place_149 : decode cX11_place 149 = .ok (.iinc 8 1, 3) := by decide +kernel
theorem dX11_place_152 : decode cX11_place 152 = .ok (.goto (-118), 3) := by decide +kernel
theorem dX11_place_155 : decode cX11_place 155 = .ok (.iload 7, 2) := by decide +kernel
theorem dX11_place_157 : decode cX11_place 157 = .ok (.ireturn, 1) := by decide +kernel
theorem dX11_merged_0 : decode cX11_merged 0 = .ok (.iload_n 0, 1) := by decide +kernel
theorem dX11_merged_1 : decode cX11_merged 1 = .ok (.iconst 1, 1) := by decide +kernel
theorem dX11_merged_2 : decode cX11_merged 2 = .ok (.if_icmp .ne 16, 3) := by decide +kernel
theorem dX11_merged_5 : decode cX11_merged 5 = .ok (.iload_n 2, 1) := by decide +kernel
theorem dX11_merged_6 : decode cX11_merged 6 = .ok (.iload_n 1, 1) := by decide +kernel
theorem dX11_merged_7 : decode cX11_merged 7 = .ok (.if_icmp .ge 7, 3) := by decide +kernel
theorem dX11_merged_10 : decode cX11_merged 10 = .ok (.iload_n 2, 1) := by decide +kernel
theorem dX11_merged_11 : decode cX11_merged 11 = .ok (.goto 28, 3) := by decide +kernel
theorem dX11_merged_14 : decode cX11_merged 14 = .ok (.iload_n 1, 1) := by decide +kernel
theorem dX11_merged_15 : decode cX11_merged 15 = .ok (.goto 24, 3) := by decide +kernel
theorem dX11_merged_18 : decode cX11_merged 18 = .ok (.iload_n 0, 1) := by decide +kernel
theorem dX11_merged_19 : decode cX11_merged 19 = .ok (.iconst 2, 1) := by decide +kernel
theorem dX11_merged_20 : decode cX11_merged 20 = .ok (.if_icmp .ne 16, 3) := by decide +kernel
theorem dX11_merged_23 : decode cX11_merged 23 = .ok (.iload_n 2, 1) := by decide +kernel
theorem dX11_merged_24 : decode cX11_merged 24 = .ok (.iload_n 1, 1) := by decide +kernel
theorem dX11_merged_25 : decode cX11_merged 25 = .ok (.if_icmp .le 7, 3) := by decide +kernel
theorem dX11_merged_28 : decode cX11_merged 28 = .ok (.iload_n 2, 1) := by decide +kernel
theorem dX11_merged_29 : decode cX11_merged 29 = .ok (.goto 10, 3) := by decide +kernel
theorem dX11_merged_32 : decode cX11_merged 32 = .ok (.iload_n 1, 1) := by decide +kernel
theorem dX11_merged_33 : decode cX11_merged 33 = .ok (.goto 6, 3) := by decide +kernel
theorem dX11_merged_36 : decode cX11_merged 36 = .ok (.iload_n 1, 1) := by decide +kernel
theorem dX11_merged_37 : decode cX11_merged 37 = .ok (.iload_n 2, 1) := by decide +kernel
theorem dX11_merged_38 : decode cX11_merged 38 = .ok (.ior, 1) := by decide +kernel
theorem dX11_merged_39 : decode cX11_merged 39 = .ok (.ireturn, 1) := by decide +kernel
theorem dX11_take_0 : decode cX11_take 0 = .ok (.aload_n 0, 1) := by decide +kernel
theorem dX11_take_1 : decode cX11_take 1 = .ok (.iload_n 1, 1) := by decide +kernel
theorem dX11_take_2 : decode cX11_take 2 = .ok (.iload_n 2, 1) := by decide +kernel
theorem dX11_take_3 : decode cX11_take 3 = .ok (.iload_n 3, 1) := by decide +kernel
theorem dX11_take_4 : decode cX11_take 4 = .ok (.iload 4, 2) := by decide +kernel
theorem dX11_take_6 : decode cX11_take 6 = .ok (.iload 5, 2) := by decide +kernel
theorem dX11_take_8 : decode cX11_take 8 = .ok (.invokevirtual 217, 3) := by decide +kernel
theorem dX11_take_11 : decode cX11_take 11 = .ok (.istore 6, 2) := by decide +kernel
theorem dX11_take_13 : decode cX11_take 13 = .ok (.iload 6, 2) := by decide +kernel
theorem dX11_take_15 : decode cX11_take 15 = .ok (.iconst (-1), 1) := by decide +kernel
theorem dX11_take_16 : decode cX11_take 16 = .ok (.if_icmp .eq 121, 3) := by decide +kernel
theorem dX11_take_19 : decode cX11_take 19 = .ok (.iconst 3, 1) := by decide +kernel
theorem dX11_take_20 : decode cX11_take 20 = .ok (.bipush 50, 2) := by decide +kernel
theorem dX11_take_22 : decode cX11_take 22 = .ok (.iload_n 1, 1) := by decide +kernel
theorem dX11_take_23 : decode cX11_take 23 = .ok (.imul, 1) := by decide +kernel
theorem dX11_take_24 : decode cX11_take 24 = .ok (.iload 6, 2) := by decide +kernel
theorem dX11_take_26 : decode cX11_take 26 = .ok (.iadd, 1) := by decide +kernel
theorem dX11_take_27 : decode cX11_take 27 = .ok (.imul, 1) := by decide +kernel
theorem dX11_take_28 : decode cX11_take 28 = .ok (.aload_n 0, 1) := by decide +kernel
theorem dX11_take_29 : decode cX11_take 29 = .ok (.getfield 13, 3) := by decide +kernel
theorem dX11_take_32 : decode cX11_take 32 = .ok (.iload_n 2, 1) := by decide +kernel
theorem dX11_take_33 : decode cX11_take 33 = .ok (.iaload, 1) := by decide +kernel
theorem dX11_take_34 : decode cX11_take 34 = .ok (.iadd, 1) := by decide +kernel
theorem dX11_take_35 : decode cX11_take 35 = .ok (.iconst 1, 1) := by decide +kernel
theorem dX11_take_36 : decode cX11_take 36 = .ok (.isub, 1) := by decide +kernel
theorem dX11_take_37 : decode cX11_take 37 = .ok (.istore 7, 2) := by decide +kernel
theorem dX11_take_39 : decode cX11_take 39 = .ok (.aload_n 0, 1) := by decide +kernel
theorem dX11_take_40 : decode cX11_take 40 = .ok (.getfield 13, 3) := by decide +kernel
theorem dX11_take_43 : decode cX11_take 43 = .ok (.iload_n 2, 1) := by decide +kernel
theorem dX11_take_44 : decode cX11_take 44 = .ok (.iaload, 1) := by decide +kernel
theorem dX11_take_45 : decode cX11_take 45 = .ok (.iconst 1, 1) := by decide +kernel
theorem dX11_take_46 : decode cX11_take 46 = .ok (.if_icmp .ne 7, 3) := by decide +kernel
theorem dX11_take_49 : decode cX11_take 49 = .ok (.iload_n 3, 1) := by decide +kernel
theorem dX11_take_50 : decode cX11_take 50 = .ok (.goto 20, 3) := by decide +kernel
theorem dX11_take_53 : decode cX11_take 53 = .ok (.aload_n 0, 1) := by decide +kernel
theorem dX11_take_54 : decode cX11_take 54 = .ok (.getfield 13, 3) := by decide +kernel
theorem dX11_take_57 : decode cX11_take 57 = .ok (.iload_n 2, 1) := by decide +kernel
theorem dX11_take_58 : decode cX11_take 58 = .ok (.iaload, 1) := by decide +kernel
theorem dX11_take_59 : decode cX11_take 59 = .ok (.iconst 2, 1) := by decide +kernel
theorem dX11_take_60 : decode cX11_take 60 = .ok (.if_icmp .ne 8, 3) := by decide +kernel
theorem dX11_take_63 : decode cX11_take 63 = .ok (.iload 4, 2) := by decide +kernel
theorem dX11_take_65 : decode cX11_take 65 = .ok (.goto 5, 3) := by decide +kernel
theorem dX11_take_68 : decode cX11_take 68 = .ok (.iload 5, 2) := by decide +kernel
theorem dX11_take_70 : decode cX11_take 70 = .ok (.istore 8, 2) := by decide +kernel
theorem dX11_take_72 : decode cX11_take 72 = .ok (.aload_n 0, 1) := by decide +kernel
theorem dX11_take_73 : decode cX11_take 73 = .ok (.getfield 17, 3) := by decide +kernel
theorem dX11_take_76 : decode cX11_take 76 = .ok (.iload_n 2, 1) := by decide +kernel
theorem dX11_take_77 : decode cX11_take 77 = .ok (.iaload, 1) := by decide +kernel
theorem dX11_take_78 : decode cX11_take 78 = .ok (.ifCond .ne 8, 3) := by decide +kernel
theorem dX11_take_81 : decode cX11_take 81 = .ok (.iload 8, 2) := by decide +kernel
theorem dX11_take_83 : decode cX11_take 83 = .ok (.goto 21, 3) := by decide +kernel
theorem dX11_take_86 : decode cX11_take 86 = .ok (.aload_n 0, 1) := by decide +kernel
theorem dX11_take_87 : decode cX11_take 87 = .ok (.getfield 17, 3) := by decide +kernel
theorem dX11_take_90 : decode cX11_take 90 = .ok (.iload_n 2, 1) := by decide +kernel
theorem dX11_take_91 : decode cX11_take 91 = .ok (.iaload, 1) := by decide +kernel
theorem dX11_take_92 : decode cX11_take 92 = .ok (.aload_n 0, 1) := by decide +kernel
theorem dX11_take_93 : decode cX11_take 93 = .ok (.getfield 71, 3) := by decide +kernel
theorem dX11_take_96 : decode cX11_take 96 = .ok (.iload 7, 2) := by decide +kernel
theorem dX11_take_98 : decode cX11_take 98 = .ok (.iaload, 1) := by decide +kernel
theorem dX11_take_99 : decode cX11_take 99 = .ok (.iload 8, 2) := by decide +kernel
theorem dX11_take_101 : decode cX11_take 101 = .ok (.invokestatic 220, 3) := by decide +kernel
theorem dX11_take_104 : decode cX11_take 104 = .ok (.istore 9, 2) := by decide +kernel
theorem dX11_take_106 : decode cX11_take 106 = .ok (.iload 9, 2) := by decide +kernel
theorem dX11_take_108 : decode cX11_take 108 = .ok (.aload_n 0, 1) := by decide +kernel
theorem dX11_take_109 : decode cX11_take 109 = .ok (.getfield 71, 3) := by decide +kernel
theorem dX11_take_112 : decode cX11_take 112 = .ok (.iload 7, 2) := by decide +kernel
theorem dX11_take_114 : decode cX11_take 114 = .ok (.iaload, 1) := by decide +kernel
