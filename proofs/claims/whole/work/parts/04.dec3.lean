theorem dX11_take_115 : decode cX11_take 115 = .ok (.if_icmp .eq 7, 3) := by decide +kernel
theorem dX11_take_118 : decode cX11_take 118 = .ok (.iconst 1, 1) := by decide +kernel
theorem dX11_take_119 : decode cX11_take 119 = .ok (.goto 4, 3) := by decide +kernel
theorem dX11_take_122 : decode cX11_take 122 = .ok (.iconst 0, 1) := by decide +kernel
theorem dX11_take_123 : decode cX11_take 123 = .ok (.istore 10, 2) := by decide +kernel
theorem dX11_take_125 : decode cX11_take 125 = .ok (.aload_n 0, 1) := by decide +kernel
theorem dX11_take_126 : decode cX11_take 126 = .ok (.getfield 71, 3) := by decide +kernel
theorem dX11_take_129 : decode cX11_take 129 = .ok (.iload 7, 2) := by decide +kernel
theorem dX11_take_131 : decode cX11_take 131 = .ok (.iload 9, 2) := by decide +kernel
theorem dX11_take_133 : decode cX11_take 133 = .ok (.iastore, 1) := by decide +kernel
theorem dX11_take_134 : decode cX11_take 134 = .ok (.iload 10, 2) := by decide +kernel
theorem dX11_take_136 : decode cX11_take 136 = .ok (.ireturn, 1) := by decide +kernel
theorem dX11_take_137 : decode cX11_take 137 = .ok (.bipush 50, 2) := by decide +kernel
theorem dX11_take_139 : decode cX11_take 139 = .ok (.iload_n 1, 1) := by decide +kernel
theorem dX11_take_140 : decode cX11_take 140 = .ok (.imul, 1) := by decide +kernel
theorem dX11_take_141 : decode cX11_take 141 = .ok (.aload_n 0, 1) := by decide +kernel
theorem dX11_take_142 : decode cX11_take 142 = .ok (.getfield 65, 3) := by decide +kernel
theorem dX11_take_145 : decode cX11_take 145 = .ok (.iload_n 1, 1) := by decide +kernel
theorem dX11_take_146 : decode cX11_take 146 = .ok (.iaload, 1) := by decide +kernel
theorem dX11_take_147 : decode cX11_take 147 = .ok (.iadd, 1) := by decide +kernel
theorem dX11_take_148 : decode cX11_take 148 = .ok (.istore 7, 2) := by decide +kernel
theorem dX11_take_150 : decode cX11_take 150 = .ok (.aload_n 0, 1) := by decide +kernel
theorem dX11_take_151 : decode cX11_take 151 = .ok (.getfield 68, 3) := by decide +kernel
theorem dX11_take_154 : decode cX11_take 154 = .ok (.iload 7, 2) := by decide +kernel
theorem dX11_take_156 : decode cX11_take 156 = .ok (.iload_n 2, 1) := by decide +kernel
theorem dX11_take_157 : decode cX11_take 157 = .ok (.iastore, 1) := by decide +kernel
theorem dX11_take_158 : decode cX11_take 158 = .ok (.aload_n 0, 1) := by decide +kernel
theorem dX11_take_159 : decode cX11_take 159 = .ok (.getfield 71, 3) := by decide +kernel
theorem dX11_take_162 : decode cX11_take 162 = .ok (.iconst 3, 1) := by decide +kernel
theorem dX11_take_163 : decode cX11_take 163 = .ok (.iload 7, 2) := by decide +kernel
theorem dX11_take_165 : decode cX11_take 165 = .ok (.imul, 1) := by decide +kernel
theorem dX11_take_166 : decode cX11_take 166 = .ok (.iload_n 3, 1) := by decide +kernel
theorem dX11_take_167 : decode cX11_take 167 = .ok (.iastore, 1) := by decide +kernel
theorem dX11_take_168 : decode cX11_take 168 = .ok (.aload_n 0, 1) := by decide +kernel
theorem dX11_take_169 : decode cX11_take 169 = .ok (.getfield 71, 3) := by decide +kernel
theorem dX11_take_172 : decode cX11_take 172 = .ok (.iconst 3, 1) := by decide +kernel
theorem dX11_take_173 : decode cX11_take 173 = .ok (.iload 7, 2) := by decide +kernel
theorem dX11_take_175 : decode cX11_take 175 = .ok (.imul, 1) := by decide +kernel
theorem dX11_take_176 : decode cX11_take 176 = .ok (.iconst 1, 1) := by decide +kernel
theorem dX11_take_177 : decode cX11_take 177 = .ok (.iadd, 1) := by decide +kernel
theorem dX11_take_178 : decode cX11_take 178 = .ok (.iload 4, 2) := by decide +kernel
theorem dX11_take_180 : decode cX11_take 180 = .ok (.iastore, 1) := by decide +kernel
theorem dX11_take_181 : decode cX11_take 181 = .ok (.aload_n 0, 1) := by decide +kernel
theorem dX11_take_182 : decode cX11_take 182 = .ok (.getfield 71, 3) := by decide +kernel
theorem dX11_take_185 : decode cX11_take 185 = .ok (.iconst 3, 1) := by decide +kernel
theorem dX11_take_186 : decode cX11_take 186 = .ok (.iload 7, 2) := by decide +kernel
theorem dX11_take_188 : decode cX11_take 188 = .ok (.imul, 1) := by decide +kernel
theorem dX11_take_189 : decode cX11_take 189 = .ok (.iconst 2, 1) := by decide +kernel
theorem dX11_take_190 : decode cX11_take 190 = .ok (.iadd, 1) := by decide +kernel
theorem dX11_take_191 : decode cX11_take 191 = .ok (.iload 5, 2) := by decide +kernel
theorem dX11_take_193 : decode cX11_take 193 = .ok (.iastore, 1) := by decide +kernel
theorem dX11_take_194 : decode cX11_take 194 = .ok (.aload_n 0, 1) := by decide +kernel
theorem dX11_take_195 : decode cX11_take 195 = .ok (.getfield 65, 3) := by decide +kernel
theorem dX11_take_198 : decode cX11_take 198 = .ok (.iload_n 1, 1) := by decide +kernel
theorem dX11_take_199 : decode cX11_take 199 = .ok (.dup2, 1) := by decide +kernel
theorem dX11_take_200 : decode cX11_take 200 = .ok (.iaload, 1) := by decide +kernel
theorem dX11_take_201 : decode cX11_take 201 = .ok (.iconst 1, 1) := by decide +kernel
theorem dX11_take_202 : decode cX11_take 202 = .ok (.iadd, 1) := by decide +kernel
theorem dX11_take_203 : decode cX11_take 203 = .ok (.iastore, 1) := by decide +kernel
theorem dX11_take_204 : decode cX11_take 204 = .ok (.iconst 1, 1) := by decide +kernel
theorem dX11_take_205 : decode cX11_take 205 = .ok (.ireturn, 1) := by decide +kernel
theorem dX11_holdsIn_0 : decode cX11_holdsIn 0 = .ok (.aload_n 0, 1) := by decide +kernel
theorem dX11_holdsIn_1 : decode cX11_holdsIn 1 = .ok (.getfield 41, 3) := by decide +kernel
theorem dX11_holdsIn_4 : decode cX11_holdsIn 4 = .ok (.iload_n 1, 1) := by decide +kernel
theorem dX11_holdsIn_5 : decode cX11_holdsIn 5 = .ok (.baload, 1) := by decide +kernel
theorem dX11_holdsIn_6 : decode cX11_holdsIn 6 = .ok (.ifCond .ne 34, 3) := by decide +kernel
theorem dX11_holdsIn_9 : decode cX11_holdsIn 9 = .ok (.iload_n 2, 1) := by decide +kernel
theorem dX11_holdsIn_10 : decode cX11_holdsIn 10 = .ok (.aload_n 0, 1) := by decide +kernel
theorem dX11_holdsIn_11 : decode cX11_holdsIn 11 = .ok (.getfield 35, 3) := by decide +kernel
theorem dX11_holdsIn_14 : decode cX11_holdsIn 14 = .ok (.iload_n 1, 1) := by decide +kernel
theorem dX11_holdsIn_15 : decode cX11_holdsIn 15 = .ok (.iaload, 1) := by decide +kernel
theorem dX11_holdsIn_16 : decode cX11_holdsIn 16 = .ok (.aload_n 0, 1) := by decide +kernel
theorem dX11_holdsIn_17 : decode cX11_holdsIn 17 = .ok (.getfield 38, 3) := by decide +kernel
theorem dX11_holdsIn_20 : decode cX11_holdsIn 20 = .ok (.iload_n 1, 1) := by decide +kernel
theorem dX11_holdsIn_21 : decode cX11_holdsIn 21 = .ok (.iaload, 1) := by decide +kernel
theorem dX11_holdsIn_22 : decode cX11_holdsIn 22 = .ok (.invokestatic 102, 3) := by decide +kernel
theorem dX11_holdsIn_25 : decode cX11_holdsIn 25 = .ok (.ifCond .eq 15, 3) := by decide +kernel
theorem dX11_holdsIn_28 : decode cX11_holdsIn 28 = .ok (.iload_n 3, 1) := by decide +kernel
theorem dX11_holdsIn_29 : decode cX11_holdsIn 29 = .ok (.iload_n 1, 1) := by decide +kernel
theorem dX11_holdsIn_30 : decode cX11_holdsIn 30 = .ok (.ishr, 1) := by decide +kernel
theorem dX11_holdsIn_31 : decode cX11_holdsIn 31 = .ok (.iconst 1, 1) := by decide +kernel
theorem dX11_holdsIn_32 : decode cX11_holdsIn 32 = .ok (.iand, 1) := by decide +kernel
theorem dX11_holdsIn_33 : decode cX11_holdsIn 33 = .ok (.ifCond .ne 7, 3) := by decide +kernel
theorem dX11_holdsIn_36 : decode cX11_holdsIn 36 = .ok (.iconst 1, 1) := by decide +kernel
theorem dX11_holdsIn_37 : decode cX11_holdsIn 37 = .ok (.goto 4, 3) := by decide +kernel
theorem dX11_holdsIn_40 : decode cX11_holdsIn 40 = .ok (.iconst 0, 1) := by decide +kernel
theorem dX11_holdsIn_41 : decode cX11_holdsIn 41 = .ok (.ireturn, 1) := by decide +kernel
theorem dX11_headValue_0 : decode cX11_headValue 0 = .ok (.iload_n 2, 1) := by decide +kernel
theorem dX11_headValue_1 : decode cX11_headValue 1 = .ok (.aload_n 0, 1) := by decide +kernel
theorem dX11_headValue_2 : decode cX11_headValue 2 = .ok (.getfield 13, 3) := by decide +kernel
theorem dX11_headValue_5 : decode cX11_headValue 5 = .ok (.aload_n 0, 1) := by decide +kernel
theorem dX11_headValue_6 : decode cX11_headValue 6 = .ok (.getfield 47, 3) := by decide +kernel
theorem dX11_headValue_9 : decode cX11_headValue 9 = .ok (.iload_n 1, 1) := by decide +kernel
theorem dX11_headValue_10 : decode cX11_headValue 10 = .ok (.iaload, 1) := by decide +kernel
theorem dX11_headValue_11 : decode cX11_headValue 11 = .ok (.iaload, 1) := by decide +kernel
theorem dX11_headValue_12 : decode cX11_headValue 12 = .ok (.if_icmp .ge 20, 3) := by decide +kernel
theorem dX11_headValue_15 : decode cX11_headValue 15 = .ok (.aload_n 0, 1) := by decide +kernel
theorem dX11_headValue_16 : decode cX11_headValue 16 = .ok (.aload_n 0, 1) := by decide +kernel
theorem dX11_headValue_17 : decode cX11_headValue 17 = .ok (.getfield 50, 3) := by decide +kernel
theorem dX11_headValue_20 : decode cX11_headValue 20 = .ok (.iconst 3, 1) := by decide +kernel
theorem dX11_headValue_21 : decode cX11_headValue 21 = .ok (.iload_n 1, 1) := by decide +kernel
theorem dX11_headValue_22 : decode cX11_headValue 22 = .ok (.imul, 1) := by decide +kernel
theorem dX11_headValue_23 : decode cX11_headValue 23 = .ok (.iload_n 2, 1) := by decide +kernel
theorem dX11_headValue_24 : decode cX11_headValue 24 = .ok (.iadd, 1) := by decide +kernel
theorem dX11_headValue_25 : decode cX11_headValue 25 = .ok (.iaload, 1) := by decide +kernel
theorem dX11_headValue_26 : decode cX11_headValue 26 = .ok (.invokevirtual 193, 3) := by decide +kernel
theorem dX11_headValue_29 : decode cX11_headValue 29 = .ok (.goto 4, 3) := by decide +kernel
theorem dX11_headValue_32 : decode cX11_headValue 32 = .ok (.iconst 0, 1) := by decide +kernel
theorem dX11_headValue_33 : decode cX11_headValue 33 = .ok (.ireturn, 1) := by decide +kernel
theorem dX11_build_0 : decode cX11_build 0 = .ok (.aload_n 0, 1) := by decide +kernel
theorem dX11_build_1 : decode cX11_build 1 = .ok (.getfield 65, 3) := by decide +kernel
theorem dX11_build_4 : decode cX11_build 4 = .ok (.iload_n 1, 1) := by decide +kernel
theorem dX11_build_5 : decode cX11_build 5 = .ok (.iconst 0, 1) := by decide +kernel
theorem dX11_build_6 : decode cX11_build 6 = .ok (.iastore, 1) := by decide +kernel
theorem dX11_build_7 : decode cX11_build 7 = .ok (.iconst 1, 1) := by decide +kernel
theorem dX11_build_8 : decode cX11_build 8 = .ok (.istore 4, 2) := by decide +kernel
theorem dX11_build_10 : decode cX11_build 10 = .ok (.iconst 0, 1) := by decide +kernel
theorem dX11_build_11 : decode cX11_build 11 = .ok (.istore 5, 2) := by decide +kernel
theorem dX11_build_13 : decode cX11_build 13 = .ok (.iload 5, 2) := by decide +kernel
theorem dX11_build_15 : decode cX11_build 15 = .ok (.bipush 10, 2) := by decide +kernel
theorem dX11_build_17 : decode cX11_build 17 = .ok (.if_icmp .ge 183, 3) := by decide +kernel
theorem dX11_build_20 : decode cX11_build 20 = .ok (.iload 4, 2) := by decide +kernel
theorem dX11_build_22 : decode cX11_build 22 = .ok (.ifCond .eq 178, 3) := by decide +kernel
theorem dX11_build_25 : decode cX11_build 25 = .ok (.iconst 0, 1) := by decide +kernel
theorem dX11_build_26 : decode cX11_build 26 = .ok (.istore 6, 2) := by decide +kernel
theorem dX11_build_28 : decode cX11_build 28 = .ok (.iload 6, 2) := by decide +kernel
theorem dX11_build_30 : decode cX11_build 30 = .ok (.aload_n 0, 1) := by decide +kernel
theorem dX11_build_31 : decode cX11_build 31 = .ok (.getfield 124, 3) := by decide +kernel
theorem dX11_build_34 : decode cX11_build 34 = .ok (.if_icmp .ge 104, 3) := by decide +kernel
theorem dX11_build_37 : decode cX11_build 37 = .ok (.iload 4, 2) := by decide +kernel
theorem dX11_build_39 : decode cX11_build 39 = .ok (.ifCond .eq 99, 3) := by decide +kernel
theorem dX11_build_42 : decode cX11_build 42 = .ok (.aload_n 0, 1) := by decide +kernel
theorem dX11_build_43 : decode cX11_build 43 = .ok (.getfield 23, 3) := by decide +kernel
theorem dX11_build_46 : decode cX11_build 46 = .ok (.aload_n 0, 1) := by decide +kernel
theorem dX11_build_47 : decode cX11_build 47 = .ok (.getfield 26, 3) := by decide +kernel
theorem dX11_build_50 : decode cX11_build 50 = .ok (.iload 6, 2) := by decide +kernel
theorem dX11_build_52 : decode cX11_build 52 = .ok (.iaload, 1) := by decide +kernel
theorem dX11_build_53 : decode cX11_build 53 = .ok (.iaload, 1) := by decide +kernel
theorem dX11_build_54 : decode cX11_build 54 = .ok (.iload 5, 2) := by decide +kernel
theorem dX11_build_56 : decode cX11_build 56 = .ok (.if_icmp .ne 76, 3) := by decide +kernel
theorem dX11_build_59 : decode cX11_build 59 = .ok (.aload_n 0, 1) := by decide +kernel
theorem dX11_build_60 : decode cX11_build 60 = .ok (.iload 6, 2) := by decide +kernel
theorem dX11_build_62 : decode cX11_build 62 = .ok (.iload_n 2, 1) := by decide +kernel
theorem dX11_build_63 : decode cX11_build 63 = .ok (.iload_n 3, 1) := by decide +kernel
theorem dX11_build_64 : decode cX11_build 64 = .ok (.invokevirtual 224, 3) := by decide +kernel
theorem dX11_build_67 : decode cX11_build 67 = .ok (.ifCond .eq 65, 3) := by decide +kernel
theorem dX11_build_70 : decode cX11_build 70 = .ok (.aload_n 0, 1) := by decide +kernel
theorem dX11_build_71 : decode cX11_build 71 = .ok (.iload_n 1, 1) := by decide +kernel
theorem dX11_build_72 : decode cX11_build 72 = .ok (.aload_n 0, 1) := by decide +kernel
theorem dX11_build_73 : decode cX11_build 73 = .ok (.getfield 26, 3) := by decide +kernel
theorem dX11_build_76 : decode cX11_build 76 = .ok (.iload 6, 2) := by decide +kernel
theorem dX11_build_78 : decode cX11_build 78 = .ok (.iaload, 1) := by decide +kernel
theorem dX11_build_79 : decode cX11_build 79 = .ok (.aload_n 0, 1) := by decide +kernel
theorem dX11_build_80 : decode cX11_build 80 = .ok (.getfield 29, 3) := by decide +kernel
theorem dX11_build_83 : decode cX11_build 83 = .ok (.iconst 3, 1) := by decide +kernel
theorem dX11_build_84 : decode cX11_build 84 = .ok (.iload 6, 2) := by decide +kernel
theorem dX11_build_86 : decode cX11_build 86 = .ok (.imul, 1) := by decide +kernel
theorem dX11_build_87 : decode cX11_build 87 = .ok (.iaload, 1) := by decide +kernel
theorem dX11_build_88 : decode cX11_build 88 = .ok (.aload_n 0, 1) := by decide +kernel
theorem dX11_build_89 : decode cX11_build 89 = .ok (.getfield 29, 3) := by decide +kernel
theorem dX11_build_92 : decode cX11_build 92 = .ok (.iconst 3, 1) := by decide +kernel
theorem dX11_build_93 : decode cX11_build 93 = .ok (.iload 6, 2) := by decide +kernel
theorem dX11_build_95 : decode cX11_build 95 = .ok (.imul, 1) := by decide +kernel
theorem dX11_build_96 : decode cX11_build 96 = .ok (.iconst 1, 1) := by decide +kernel
theorem dX11_build_97 : decode cX11_build 97 = .ok (.iadd, 1) := by decide +kernel
theorem dX11_build_98 : decode cX11_build 98 = .ok (.iaload, 1) := by decide +kernel
theorem dX11_build_99 : decode cX11_build 99 = .ok (.aload_n 0, 1) := by decide +kernel
theorem dX11_build_100 : decode cX11_build 100 = .ok (.getfield 29, 3) := by decide +kernel
theorem dX11_build_103 : decode cX11_build 103 = .ok (.iconst 3, 1) := by decide +kernel
theorem dX11_build_104 : decode cX11_build 104 = .ok (.iload 6, 2) := by decide +kernel
theorem dX11_build_106 : decode cX11_build 106 = .ok (.imul, 1) := by decide +kernel
theorem dX11_build_107 : decode cX11_build 107 = .ok (.iconst 2, 1) := by decide +kernel
theorem dX11_build_108 : decode cX11_build 108 = .ok (.iadd, 1) := by decide +kernel
theorem dX11_build_109 : decode cX11_build 109 = .ok (.iaload, 1) := by decide +kernel
theorem dX11_build_110 : decode cX11_build 110 = .ok (.invokevirtual 227, 3) := by decide +kernel
theorem dX11_build_113 : decode cX11_build 113 = .ok (.pop, 1) := by decide +kernel
theorem dX11_build_114 : decode cX11_build 114 = .ok (.aload_n 0, 1) := by decide +kernel
theorem dX11_build_115 : decode cX11_build 115 = .ok (.getfield 65, 3) := by decide +kernel
theorem dX11_build_118 : decode cX11_build 118 = .ok (.iload_n 1, 1) := by decide +kernel
theorem dX11_build_119 : decode cX11_build 119 = .ok (.iaload, 1) := by decide +kernel
theorem dX11_build_120 : decode cX11_build 120 = .ok (.bipush 48, 2) := by decide +kernel
theorem dX11_build_122 : decode cX11_build 122 = .ok (.if_icmp .gt 7, 3) := by decide +kernel
theorem dX11_build_125 : decode cX11_build 125 = .ok (.iconst 1, 1) := by decide +kernel
theorem dX11_build_126 : decode cX11_build 126 = .ok (.goto 4, 3) := by decide +kernel
theorem dX11_build_129 : decode cX11_build 129 = .ok (.iconst 0, 1) := by decide +kernel
theorem dX11_build_130 : decode cX11_build 130 = .ok (.istore 4, 2) := by decide +kernel
theorem dX11_build_132 : decode cX11_build 132 = .ok (.iinc 6 1, 3) := by decide +kernel
theorem dX11_build_135 : decode cX11_build 135 = .ok (.goto (-107), 3) := by decide +kernel
theorem dX11_build_138 : decode cX11_build 138 = .ok (.iload 4, 2) := by decide +kernel
theorem dX11_build_140 : decode cX11_build 140 = .ok (.istore 6, 2) := by decide +kernel
theorem dX11_build_142 : decode cX11_build 142 = .ok (.iload 6, 2) := by decide +kernel
theorem dX11_build_144 : decode cX11_build 144 = .ok (.ifCond .eq 50, 3) := by decide +kernel
theorem dX11_build_147 : decode cX11_build 147 = .ok (.aload_n 0, 1) := by decide +kernel
theorem dX11_build_148 : decode cX11_build 148 = .ok (.iload_n 1, 1) := by decide +kernel
theorem dX11_build_149 : decode cX11_build 149 = .ok (.iload 5, 2) := by decide +kernel
theorem dX11_build_151 : decode cX11_build 151 = .ok (.invokevirtual 231, 3) := by decide +kernel
theorem dX11_build_154 : decode cX11_build 154 = .ok (.istore 6, 2) := by decide +kernel
theorem dX11_build_156 : decode cX11_build 156 = .ok (.aload_n 0, 1) := by decide +kernel
theorem dX11_build_157 : decode cX11_build 157 = .ok (.getfield 65, 3) := by decide +kernel
theorem dX11_build_160 : decode cX11_build 160 = .ok (.iload_n 1, 1) := by decide +kernel
theorem dX11_build_161 : decode cX11_build 161 = .ok (.iaload, 1) := by decide +kernel
theorem dX11_build_162 : decode cX11_build 162 = .ok (.bipush 48, 2) := by decide +kernel
theorem dX11_build_164 : decode cX11_build 164 = .ok (.if_icmp .gt 7, 3) := by decide +kernel
theorem dX11_build_167 : decode cX11_build 167 = .ok (.iconst 1, 1) := by decide +kernel
theorem dX11_build_168 : decode cX11_build 168 = .ok (.goto 4, 3) := by decide +kernel
theorem dX11_build_171 : decode cX11_build 171 = .ok (.iconst 0, 1) := by decide +kernel
theorem dX11_build_172 : decode cX11_build 172 = .ok (.istore 4, 2) := by decide +kernel
theorem dX11_build_174 : decode cX11_build 174 = .ok (.iload 6, 2) := by decide +kernel
theorem dX11_build_176 : decode cX11_build 176 = .ok (.ifCond .eq 12, 3) := by decide +kernel
theorem dX11_build_179 : decode cX11_build 179 = .ok (.iload 4, 2) := by decide +kernel
theorem dX11_build_181 : decode cX11_build 181 = .ok (.ifCond .eq 7, 3) := by decide +kernel
theorem dX11_build_184 : decode cX11_build 184 = .ok (.iconst 1, 1) := by decide +kernel
theorem dX11_build_185 : decode cX11_build 185 = .ok (.goto 4, 3) := by decide +kernel
theorem dX11_build_188 : decode cX11_build 188 = .ok (.iconst 0, 1) := by decide +kernel
theorem dX11_build_189 : decode cX11_build 189 = .ok (.istore 6, 2) := by decide +kernel
theorem dX11_build_191 : decode cX11_build 191 = .ok (.goto (-49), 3) := by decide +kernel
theorem dX11_build_194 : decode cX11_build 194 = .ok (.iinc 5 1, 3) := by decide +kernel
theorem dX11_build_197 : decode cX11_build 197 = .ok (.goto (-184), 3) := by decide +kernel
theorem dX11_build_200 : decode cX11_build 200 = .ok (.iload 4, 2) := by decide +kernel
theorem dX11_build_202 : decode cX11_build 202 = .ok (.ireturn, 1) := by decide +kernel
theorem dX11_round_0 : decode cX11_round 0 = .ok (.iconst 0, 1) := by decide +kernel
theorem dX11_round_1 : decode cX11_round 1 = .ok (.istore_n 3, 1) := by decide +kernel
theorem dX11_round_2 : decode cX11_round 2 = .ok (.iconst 0, 1) := by decide +kernel
theorem dX11_round_3 : decode cX11_round 3 = .ok (.istore 4, 2) := by decide +kernel
theorem dX11_round_5 : decode cX11_round 5 = .ok (.iload 4, 2) := by decide +kernel
theorem dX11_round_7 : decode cX11_round 7 = .ok (.aload_n 0, 1) := by decide +kernel
theorem dX11_round_8 : decode cX11_round 8 = .ok (.getfield 159, 3) := by decide +kernel
theorem dX11_round_11 : decode cX11_round 11 = .ok (.if_icmp .ge 120, 3) := by decide +kernel
theorem dX11_round_14 : decode cX11_round 14 = .ok (.aload_n 0, 1) := by decide +kernel
theorem dX11_round_15 : decode cX11_round 15 = .ok (.getfield 44, 3) := by decide +kernel
theorem dX11_round_18 : decode cX11_round 18 = .ok (.iload 4, 2) := by decide +kernel
theorem dX11_round_20 : decode cX11_round 20 = .ok (.baload, 1) := by decide +kernel
theorem dX11_round_21 : decode cX11_round 21 = .ok (.ifCond .ne 104, 3) := by decide +kernel
theorem dX11_round_24 : decode cX11_round 24 = .ok (.aload_n 0, 1) := by decide +kernel
theorem dX11_round_25 : decode cX11_round 25 = .ok (.getfield 23, 3) := by decide +kernel
theorem dX11_round_28 : decode cX11_round 28 = .ok (.aload_n 0, 1) := by decide +kernel
theorem dX11_round_29 : decode cX11_round 29 = .ok (.getfield 47, 3) := by decide +kernel
theorem dX11_round_32 : decode cX11_round 32 = .ok (.iload 4, 2) := by decide +kernel
theorem dX11_round_34 : decode cX11_round 34 = .ok (.iaload, 1) := by decide +kernel
theorem dX11_round_35 : decode cX11_round 35 = .ok (.iaload, 1) := by decide +kernel
theorem dX11_round_36 : decode cX11_round 36 = .ok (.iload_n 2, 1) := by decide +kernel
theorem dX11_round_37 : decode cX11_round 37 = .ok (.if_icmp .ne 88, 3) := by decide +kernel
theorem dX11_round_40 : decode cX11_round 40 = .ok (.aload_n 0, 1) := by decide +kernel
theorem dX11_round_41 : decode cX11_round 41 = .ok (.invokevirtual 234, 3) := by decide +kernel
theorem dX11_round_44 : decode cX11_round 44 = .ok (.aload_n 0, 1) := by decide +kernel
theorem dX11_round_45 : decode cX11_round 45 = .ok (.getfield 65, 3) := by decide +kernel
theorem dX11_round_48 : decode cX11_round 48 = .ok (.iload_n 1, 1) := by decide +kernel
theorem dX11_round_49 : decode cX11_round 49 = .ok (.iaload, 1) := by decide +kernel
theorem dX11_round_50 : decode cX11_round 50 = .ok (.bipush 48, 2) := by decide +kernel
theorem dX11_round_52 : decode cX11_round 52 = .ok (.if_icmp .gt 73, 3) := by decide +kernel
theorem dX11_round_55 : decode cX11_round 55 = .ok (.aload_n 0, 1) := by decide +kernel
theorem dX11_round_56 : decode cX11_round 56 = .ok (.iload 4, 2) := by decide +kernel
theorem dX11_round_58 : decode cX11_round 58 = .ok (.aload_n 0, 1) := by decide +kernel
theorem dX11_round_59 : decode cX11_round 59 = .ok (.getfield 53, 3) := by decide +kernel
theorem dX11_round_62 : decode cX11_round 62 = .ok (.iload 4, 2) := by decide +kernel
theorem dX11_round_64 : decode cX11_round 64 = .ok (.iaload, 1) := by decide +kernel
theorem dX11_round_65 : decode cX11_round 65 = .ok (.iload_n 1, 1) := by decide +kernel
theorem dX11_round_66 : decode cX11_round 66 = .ok (.invokevirtual 237, 3) := by decide +kernel
theorem dX11_round_69 : decode cX11_round 69 = .ok (.ifCond .eq 56, 3) := by decide +kernel
theorem dX11_round_72 : decode cX11_round 72 = .ok (.aload_n 0, 1) := by decide +kernel
theorem dX11_round_73 : decode cX11_round 73 = .ok (.iload_n 1, 1) := by decide +kernel
theorem dX11_round_74 : decode cX11_round 74 = .ok (.aload_n 0, 1) := by decide +kernel
theorem dX11_round_75 : decode cX11_round 75 = .ok (.getfield 47, 3) := by decide +kernel
theorem dX11_round_78 : decode cX11_round 78 = .ok (.iload 4, 2) := by decide +kernel
theorem dX11_round_80 : decode cX11_round 80 = .ok (.iaload, 1) := by decide +kernel
theorem dX11_round_81 : decode cX11_round 81 = .ok (.aload_n 0, 1) := by decide +kernel
theorem dX11_round_82 : decode cX11_round 82 = .ok (.iload 4, 2) := by decide +kernel
theorem dX11_round_84 : decode cX11_round 84 = .ok (.iconst 0, 1) := by decide +kernel
theorem dX11_round_85 : decode cX11_round 85 = .ok (.invokevirtual 240, 3) := by decide +kernel
theorem dX11_round_88 : decode cX11_round 88 = .ok (.aload_n 0, 1) := by decide +kernel
theorem dX11_round_89 : decode cX11_round 89 = .ok (.iload 4, 2) := by decide +kernel
theorem dX11_round_91 : decode cX11_round 91 = .ok (.iconst 1, 1) := by decide +kernel
theorem dX11_round_92 : decode cX11_round 92 = .ok (.invokevirtual 240, 3) := by decide +kernel
theorem dX11_round_95 : decode cX11_round 95 = .ok (.aload_n 0, 1) := by decide +kernel
theorem dX11_round_96 : decode cX11_round 96 = .ok (.iload 4, 2) := by decide +kernel
theorem dX11_round_98 : decode cX11_round 98 = .ok (.iconst 2, 1) := by decide +kernel
theorem dX11_round_99 : decode cX11_round 99 = .ok (.invokevirtual 240, 3) := by decide +kernel
theorem dX11_round_102 : decode cX11_round 102 = .ok (.invokevirtual 227, 3) := by decide +kernel
theorem dX11_round_105 : decode cX11_round 105 = .ok (.istore 5, 2) := by decide +kernel
theorem dX11_round_107 : decode cX11_round 107 = .ok (.iload_n 3, 1) := by decide +kernel
theorem dX11_round_108 : decode cX11_round 108 = .ok (.ifCond .ne 8, 3) := by decide +kernel
theorem dX11_round_111 : decode cX11_round 111 = .ok (.iload 5, 2) := by decide +kernel
theorem dX11_round_113 : decode cX11_round 113 = .ok (.ifCond .eq 7, 3) := by decide +kernel
theorem dX11_round_116 : decode cX11_round 116 = .ok (.iconst 1, 1) := by decide +kernel
theorem dX11_round_117 : decode cX11_round 117 = .ok (.goto 4, 3) := by decide +kernel
theorem dX11_round_120 : decode cX11_round 120 = .ok (.iconst 0, 1) := by decide +kernel
theorem dX11_round_121 : decode cX11_round 121 = .ok (.istore_n 3, 1) := by decide +kernel
theorem dX11_round_122 : decode cX11_round 122 = .ok (.goto (-78), 3) := by decide +kernel
theorem dX11_round_125 : decode cX11_round 125 = .ok (.iinc 4 1, 3) := by decide +kernel
theorem dX11_round_128 : decode cX11_round 128 = .ok (.goto (-123), 3) := by decide +kernel
theorem dX11_round_131 : decode cX11_round 131 = .ok (.iload_n 3, 1) := by decide +kernel
theorem dX11_round_132 : decode cX11_round 132 = .ok (.ireturn, 1) := by decide +kernel
theorem dX11_buildAll_0 : decode cX11_buildAll 0 = .ok (.iconst 1, 1) := by decide +kernel
theorem dX11_buildAll_1 : decode cX11_buildAll 1 = .ok (.istore_n 1, 1) := by decide +kernel
theorem dX11_buildAll_2 : decode cX11_buildAll 2 = .ok (.iconst 0, 1) := by decide +kernel
theorem dX11_buildAll_3 : decode cX11_buildAll 3 = .ok (.istore_n 2, 1) := by decide +kernel
theorem dX11_buildAll_4 : decode cX11_buildAll 4 = .ok (.iload_n 2, 1) := by decide +kernel
theorem dX11_buildAll_5 : decode cX11_buildAll 5 = .ok (.iconst 4, 1) := by decide +kernel
theorem dX11_buildAll_6 : decode cX11_buildAll 6 = .ok (.if_icmp .ge 31, 3) := by decide +kernel
theorem dX11_buildAll_9 : decode cX11_buildAll 9 = .ok (.aload_n 0, 1) := by decide +kernel
theorem dX11_buildAll_10 : decode cX11_buildAll 10 = .ok (.iload_n 2, 1) := by decide +kernel
theorem dX11_buildAll_11 : decode cX11_buildAll 11 = .ok (.iload_n 2, 1) := by decide +kernel
theorem dX11_buildAll_12 : decode cX11_buildAll 12 = .ok (.iconst 0, 1) := by decide +kernel
theorem dX11_buildAll_13 : decode cX11_buildAll 13 = .ok (.invokevirtual 243, 3) := by decide +kernel
theorem dX11_buildAll_16 : decode cX11_buildAll 16 = .ok (.istore_n 3, 1) := by decide +kernel
theorem dX11_buildAll_17 : decode cX11_buildAll 17 = .ok (.iload_n 1, 1) := by decide +kernel
theorem dX11_buildAll_18 : decode cX11_buildAll 18 = .ok (.ifCond .eq 11, 3) := by decide +kernel
theorem dX11_buildAll_21 : decode cX11_buildAll 21 = .ok (.iload_n 3, 1) := by decide +kernel
theorem dX11_buildAll_22 : decode cX11_buildAll 22 = .ok (.ifCond .eq 7, 3) := by decide +kernel
theorem dX11_buildAll_25 : decode cX11_buildAll 25 = .ok (.iconst 1, 1) := by decide +kernel
theorem dX11_buildAll_26 : decode cX11_buildAll 26 = .ok (.goto 4, 3) := by decide +kernel
theorem dX11_buildAll_29 : decode cX11_buildAll 29 = .ok (.iconst 0, 1) := by decide +kernel
theorem dX11_buildAll_30 : decode cX11_buildAll 30 = .ok (.istore_n 1, 1) := by decide +kernel
theorem dX11_buildAll_31 : decode cX11_buildAll 31 = .ok (.iinc 2 1, 3) := by decide +kernel
theorem dX11_buildAll_34 : decode cX11_buildAll 34 = .ok (.goto (-30), 3) := by decide +kernel
theorem dX11_buildAll_37 : decode cX11_buildAll 37 = .ok (.iload_n 1, 1) := by decide +kernel
theorem dX11_buildAll_38 : decode cX11_buildAll 38 = .ok (.ireturn, 1) := by decide +kernel
theorem dX11_hasTuple_0 : decode cX11_hasTuple 0 = .ok (.aload_n 0, 1) := by decide +kernel
theorem dX11_hasTuple_1 : decode cX11_hasTuple 1 = .ok (.iload_n 1, 1) := by decide +kernel
theorem dX11_hasTuple_2 : decode cX11_hasTuple 2 = .ok (.iload_n 2, 1) := by decide +kernel
theorem dX11_hasTuple_3 : decode cX11_hasTuple 3 = .ok (.iload_n 3, 1) := by decide +kernel
theorem dX11_hasTuple_4 : decode cX11_hasTuple 4 = .ok (.iload 4, 2) := by decide +kernel
theorem dX11_hasTuple_6 : decode cX11_hasTuple 6 = .ok (.iload 5, 2) := by decide +kernel
theorem dX11_hasTuple_8 : decode cX11_hasTuple 8 = .ok (.invokevirtual 217, 3) := by decide +kernel
theorem dX11_hasTuple_11 : decode cX11_hasTuple 11 = .ok (.istore 6, 2) := by decide +kernel
theorem dX11_hasTuple_13 : decode cX11_hasTuple 13 = .ok (.iconst 3, 1) := by decide +kernel
theorem dX11_hasTuple_14 : decode cX11_hasTuple 14 = .ok (.bipush 50, 2) := by decide +kernel
theorem dX11_hasTuple_16 : decode cX11_hasTuple 16 = .ok (.iload_n 1, 1) := by decide +kernel
theorem dX11_hasTuple_17 : decode cX11_hasTuple 17 = .ok (.imul, 1) := by decide +kernel
theorem dX11_hasTuple_18 : decode cX11_hasTuple 18 = .ok (.iload 6, 2) := by decide +kernel
theorem dX11_hasTuple_20 : decode cX11_hasTuple 20 = .ok (.iadd, 1) := by decide +kernel
theorem dX11_hasTuple_21 : decode cX11_hasTuple 21 = .ok (.imul, 1) := by decide +kernel
theorem dX11_hasTuple_22 : decode cX11_hasTuple 22 = .ok (.istore 7, 2) := by decide +kernel
theorem dX11_hasTuple_24 : decode cX11_hasTuple 24 = .ok (.iload 6, 2) := by decide +kernel
theorem dX11_hasTuple_26 : decode cX11_hasTuple 26 = .ok (.iconst (-1), 1) := by decide +kernel
theorem dX11_hasTuple_27 : decode cX11_hasTuple 27 = .ok (.if_icmp .eq 46, 3) := by decide +kernel
theorem dX11_hasTuple_30 : decode cX11_hasTuple 30 = .ok (.aload_n 0, 1) := by decide +kernel
theorem dX11_hasTuple_31 : decode cX11_hasTuple 31 = .ok (.getfield 71, 3) := by decide +kernel
theorem dX11_hasTuple_34 : decode cX11_hasTuple 34 = .ok (.iload 7, 2) := by decide +kernel
theorem dX11_hasTuple_36 : decode cX11_hasTuple 36 = .ok (.iaload, 1) := by decide +kernel
theorem dX11_hasTuple_37 : decode cX11_hasTuple 37 = .ok (.iload_n 3, 1) := by decide +kernel
theorem dX11_hasTuple_38 : decode cX11_hasTuple 38 = .ok (.if_icmp .ne 35, 3) := by decide +kernel
theorem dX11_hasTuple_41 : decode cX11_hasTuple 41 = .ok (.aload_n 0, 1) := by decide +kernel
theorem dX11_hasTuple_42 : decode cX11_hasTuple 42 = .ok (.getfield 71, 3) := by decide +kernel
theorem dX11_hasTuple_45 : decode cX11_hasTuple 45 = .ok (.iload 7, 2) := by decide +kernel
theorem dX11_hasTuple_47 : decode cX11_hasTuple 47 = .ok (.iconst 1, 1) := by decide +kernel
theorem dX11_hasTuple_48 : decode cX11_hasTuple 48 = .ok (.iadd, 1) := by decide +kernel
theorem dX11_hasTuple_49 : decode cX11_hasTuple 49 = .ok (.iaload, 1) := by decide +kernel
theorem dX11_hasTuple_50 : decode cX11_hasTuple 50 = .ok (.iload 4, 2) := by decide +kernel
theorem dX11_hasTuple_52 : decode cX11_hasTuple 52 = .ok (.if_icmp .ne 21, 3) := by decide +kernel
theorem dX11_hasTuple_55 : decode cX11_hasTuple 55 = .ok (.aload_n 0, 1) := by decide +kernel
theorem dX11_hasTuple_56 : decode cX11_hasTuple 56 = .ok (.getfield 71, 3) := by decide +kernel
theorem dX11_hasTuple_59 : decode cX11_hasTuple 59 = .ok (.iload 7, 2) := by decide +kernel
theorem dX11_hasTuple_61 : decode cX11_hasTuple 61 = .ok (.iconst 2, 1) := by decide +kernel
theorem dX11_hasTuple_62 : decode cX11_hasTuple 62 = .ok (.iadd, 1) := by decide +kernel
theorem dX11_hasTuple_63 : decode cX11_hasTuple 63 = .ok (.iaload, 1) := by decide +kernel
theorem dX11_hasTuple_64 : decode cX11_hasTuple 64 = .ok (.iload 5, 2) := by decide +kernel
theorem dX11_hasTuple_66 : decode cX11_hasTuple 66 = .ok (.if_icmp .ne 7, 3) := by decide +kernel
theorem dX11_hasTuple_69 : decode cX11_hasTuple 69 = .ok (.iconst 1, 1) := by decide +kernel
theorem dX11_hasTuple_70 : decode cX11_hasTuple 70 = .ok (.goto 4, 3) := by decide +kernel
theorem dX11_hasTuple_73 : decode cX11_hasTuple 73 = .ok (.iconst 0, 1) := by decide +kernel
theorem dX11_hasTuple_74 : decode cX11_hasTuple 74 = .ok (.ireturn, 1) := by decide +kernel
theorem dX11_noRelation_0 : decode cX11_noRelation 0 = .ok (.aload_n 0, 1) := by decide +kernel
theorem dX11_noRelation_1 : decode cX11_noRelation 1 = .ok (.aload_n 0, 1) := by decide +kernel
theorem dX11_noRelation_2 : decode cX11_noRelation 2 = .ok (.iload_n 1, 1) := by decide +kernel
theorem dX11_noRelation_3 : decode cX11_noRelation 3 = .ok (.invokevirtual 117, 3) := by decide +kernel
theorem dX11_noRelation_6 : decode cX11_noRelation 6 = .ok (.ifCond .eq 7, 3) := by decide +kernel
theorem dX11_noRelation_9 : decode cX11_noRelation 9 = .ok (.iconst 0, 1) := by decide +kernel
theorem dX11_noRelation_10 : decode cX11_noRelation 10 = .ok (.goto 4, 3) := by decide +kernel
theorem dX11_noRelation_13 : decode cX11_noRelation 13 = .ok (.iconst 1, 1) := by decide +kernel
theorem dX11_noRelation_14 : decode cX11_noRelation 14 = .ok (.invokevirtual 113, 3) := by decide +kernel
theorem dX11_noRelation_17 : decode cX11_noRelation 17 = .ok (.ireturn, 1) := by decide +kernel
theorem dX11_holds_0 : decode cX11_holds 0 = .ok (.aload_n 0, 1) := by decide +kernel
theorem dX11_holds_1 : decode cX11_holds 1 = .ok (.iload_n 1, 1) := by decide +kernel
theorem dX11_holds_2 : decode cX11_holds 2 = .ok (.invokevirtual 246, 3) := by decide +kernel
theorem dX11_holds_5 : decode cX11_holds 5 = .ok (.ifCond .ne 23, 3) := by decide +kernel
theorem dX11_holds_8 : decode cX11_holds 8 = .ok (.aload_n 0, 1) := by decide +kernel
theorem dX11_holds_9 : decode cX11_holds 9 = .ok (.aload_n 0, 1) := by decide +kernel
theorem dX11_holds_10 : decode cX11_holds 10 = .ok (.getfield 131, 3) := by decide +kernel
theorem dX11_holds_13 : decode cX11_holds 13 = .ok (.iload_n 1, 1) := by decide +kernel
theorem dX11_holds_14 : decode cX11_holds 14 = .ok (.iload_n 2, 1) := by decide +kernel
theorem dX11_holds_15 : decode cX11_holds 15 = .ok (.iload_n 3, 1) := by decide +kernel
theorem dX11_holds_16 : decode cX11_holds 16 = .ok (.iload 4, 2) := by decide +kernel
theorem dX11_holds_18 : decode cX11_holds 18 = .ok (.invokevirtual 249, 3) := by decide +kernel
theorem dX11_holds_21 : decode cX11_holds 21 = .ok (.ifCond .eq 7, 3) := by decide +kernel
theorem dX11_holds_24 : decode cX11_holds 24 = .ok (.iconst 1, 1) := by decide +kernel
theorem dX11_holds_25 : decode cX11_holds 25 = .ok (.goto 4, 3) := by decide +kernel
theorem dX11_holds_28 : decode cX11_holds 28 = .ok (.iconst 0, 1) := by decide +kernel
theorem dX11_holds_29 : decode cX11_holds 29 = .ok (.ireturn, 1) := by decide +kernel
theorem dX11_holdsAt_0 : decode cX11_holdsAt 0 = .ok (.aload_n 0, 1) := by decide +kernel
theorem dX11_holdsAt_1 : decode cX11_holdsAt 1 = .ok (.aload_n 0, 1) := by decide +kernel
theorem dX11_holdsAt_2 : decode cX11_holdsAt 2 = .ok (.iload_n 1, 1) := by decide +kernel
theorem dX11_holdsAt_3 : decode cX11_holdsAt 3 = .ok (.invokevirtual 117, 3) := by decide +kernel
theorem dX11_holdsAt_6 : decode cX11_holdsAt 6 = .ok (.ifCond .ne 7, 3) := by decide +kernel
theorem dX11_holdsAt_9 : decode cX11_holdsAt 9 = .ok (.iconst 1, 1) := by decide +kernel
theorem dX11_holdsAt_10 : decode cX11_holdsAt 10 = .ok (.goto 18, 3) := by decide +kernel
theorem dX11_holdsAt_13 : decode cX11_holdsAt 13 = .ok (.iload 5, 2) := by decide +kernel
theorem dX11_holdsAt_15 : decode cX11_holdsAt 15 = .ok (.iconst 0, 1) := by decide +kernel
theorem dX11_holdsAt_16 : decode cX11_holdsAt 16 = .ok (.iconst 3, 1) := by decide +kernel
theorem dX11_holdsAt_17 : decode cX11_holdsAt 17 = .ok (.invokestatic 102, 3) := by decide +kernel
theorem dX11_holdsAt_20 : decode cX11_holdsAt 20 = .ok (.ifCond .eq 7, 3) := by decide +kernel
theorem dX11_holdsAt_23 : decode cX11_holdsAt 23 = .ok (.iconst 0, 1) := by decide +kernel
theorem dX11_holdsAt_24 : decode cX11_holdsAt 24 = .ok (.goto 4, 3) := by decide +kernel
theorem dX11_holdsAt_27 : decode cX11_holdsAt 27 = .ok (.iconst 2, 1) := by decide +kernel
theorem dX11_holdsAt_28 : decode cX11_holdsAt 28 = .ok (.invokevirtual 113, 3) := by decide +kernel
theorem dX11_holdsAt_31 : decode cX11_holdsAt 31 = .ok (.ifCond .ne 21, 3) := by decide +kernel
theorem dX11_holdsAt_34 : decode cX11_holdsAt 34 = .ok (.aload_n 0, 1) := by decide +kernel
theorem dX11_holdsAt_35 : decode cX11_holdsAt 35 = .ok (.iload 5, 2) := by decide +kernel
theorem dX11_holdsAt_37 : decode cX11_holdsAt 37 = .ok (.iload_n 1, 1) := by decide +kernel
theorem dX11_holdsAt_38 : decode cX11_holdsAt 38 = .ok (.iload_n 2, 1) := by decide +kernel
theorem dX11_holdsAt_39 : decode cX11_holdsAt 39 = .ok (.iload_n 3, 1) := by decide +kernel
theorem dX11_holdsAt_40 : decode cX11_holdsAt 40 = .ok (.iload 4, 2) := by decide +kernel
theorem dX11_holdsAt_42 : decode cX11_holdsAt 42 = .ok (.invokevirtual 249, 3) := by decide +kernel
theorem dX11_holdsAt_45 : decode cX11_holdsAt 45 = .ok (.ifCond .eq 7, 3) := by decide +kernel
theorem dX11_holdsAt_48 : decode cX11_holdsAt 48 = .ok (.iconst 1, 1) := by decide +kernel
theorem dX11_holdsAt_49 : decode cX11_holdsAt 49 = .ok (.goto 4, 3) := by decide +kernel
theorem dX11_holdsAt_52 : decode cX11_holdsAt 52 = .ok (.iconst 0, 1) := by decide +kernel
theorem dX11_holdsAt_53 : decode cX11_holdsAt 53 = .ok (.ireturn, 1) := by decide +kernel
theorem dX11_holdsAnew_0 : decode cX11_holdsAnew 0 = .ok (.aload_n 0, 1) := by decide +kernel
theorem dX11_holdsAnew_1 : decode cX11_holdsAnew 1 = .ok (.iload_n 1, 1) := by decide +kernel
theorem dX11_holdsAnew_2 : decode cX11_holdsAnew 2 = .ok (.iload_n 2, 1) := by decide +kernel
theorem dX11_holdsAnew_3 : decode cX11_holdsAnew 3 = .ok (.iload_n 3, 1) := by decide +kernel
theorem dX11_holdsAnew_4 : decode cX11_holdsAnew 4 = .ok (.iload 4, 2) := by decide +kernel
theorem dX11_holdsAnew_6 : decode cX11_holdsAnew 6 = .ok (.iload 5, 2) := by decide +kernel
theorem dX11_holdsAnew_8 : decode cX11_holdsAnew 8 = .ok (.invokevirtual 252, 3) := by decide +kernel
theorem dX11_holdsAnew_11 : decode cX11_holdsAnew 11 = .ok (.ireturn, 1) := by decide +kernel
theorem dX11_sizeOf_0 : decode cX11_sizeOf 0 = .ok (.iconst 0, 1) := by decide +kernel
theorem dX11_sizeOf_1 : decode cX11_sizeOf 1 = .ok (.istore_n 2, 1) := by decide +kernel
theorem dX11_sizeOf_2 : decode cX11_sizeOf 2 = .ok (.iconst 0, 1) := by decide +kernel
theorem dX11_sizeOf_3 : decode cX11_sizeOf 3 = .ok (.istore_n 3, 1) := by decide +kernel
theorem dX11_sizeOf_4 : decode cX11_sizeOf 4 = .ok (.iload_n 3, 1) := by decide +kernel
theorem dX11_sizeOf_5 : decode cX11_sizeOf 5 = .ok (.aload_n 0, 1) := by decide +kernel
theorem dX11_sizeOf_6 : decode cX11_sizeOf 6 = .ok (.getfield 65, 3) := by decide +kernel
theorem dX11_sizeOf_9 : decode cX11_sizeOf 9 = .ok (.aload_n 0, 1) := by decide +kernel
theorem dX11_sizeOf_10 : decode cX11_sizeOf 10 = .ok (.getfield 131, 3) := by decide +kernel
theorem dX11_sizeOf_13 : decode cX11_sizeOf 13 = .ok (.iaload, 1) := by decide +kernel
theorem dX11_sizeOf_14 : decode cX11_sizeOf 14 = .ok (.if_icmp .ge 35, 3) := by decide +kernel
theorem dX11_sizeOf_17 : decode cX11_sizeOf 17 = .ok (.iload_n 2, 1) := by decide +kernel
theorem dX11_sizeOf_18 : decode cX11_sizeOf 18 = .ok (.aload_n 0, 1) := by decide +kernel
theorem dX11_sizeOf_19 : decode cX11_sizeOf 19 = .ok (.getfield 68, 3) := by decide +kernel
theorem dX11_sizeOf_22 : decode cX11_sizeOf 22 = .ok (.bipush 50, 2) := by decide +kernel
theorem dX11_sizeOf_24 : decode cX11_sizeOf 24 = .ok (.aload_n 0, 1) := by decide +kernel
theorem dX11_sizeOf_25 : decode cX11_sizeOf 25 = .ok (.getfield 131, 3) := by decide +kernel
theorem dX11_sizeOf_28 : decode cX11_sizeOf 28 = .ok (.imul, 1) := by decide +kernel
theorem dX11_sizeOf_29 : decode cX11_sizeOf 29 = .ok (.iload_n 3, 1) := by decide +kernel
theorem dX11_sizeOf_30 : decode cX11_sizeOf 30 = .ok (.iadd, 1) := by decide +kernel
theorem dX11_sizeOf_31 : decode cX11_sizeOf 31 = .ok (.iaload, 1) := by decide +kernel
theorem dX11_sizeOf_32 : decode cX11_sizeOf 32 = .ok (.iload_n 1, 1) := by decide +kernel
theorem dX11_sizeOf_33 : decode cX11_sizeOf 33 = .ok (.if_icmp .ne 7, 3) := by decide +kernel
theorem dX11_sizeOf_36 : decode cX11_sizeOf 36 = .ok (.iconst 1, 1) := by decide +kernel
theorem dX11_sizeOf_37 : decode cX11_sizeOf 37 = .ok (.goto 4, 3) := by decide +kernel
theorem dX11_sizeOf_40 : decode cX11_sizeOf 40 = .ok (.iconst 0, 1) := by decide +kernel
theorem dX11_sizeOf_41 : decode cX11_sizeOf 41 = .ok (.iadd, 1) := by decide +kernel
theorem dX11_sizeOf_42 : decode cX11_sizeOf 42 = .ok (.istore_n 2, 1) := by decide +kernel
theorem dX11_sizeOf_43 : decode cX11_sizeOf 43 = .ok (.iinc 3 1, 3) := by decide +kernel
theorem dX11_sizeOf_46 : decode cX11_sizeOf 46 = .ok (.goto (-42), 3) := by decide +kernel
theorem dX11_sizeOf_49 : decode cX11_sizeOf 49 = .ok (.iload_n 2, 1) := by decide +kernel
theorem dX11_sizeOf_50 : decode cX11_sizeOf 50 = .ok (.ireturn, 1) := by decide +kernel
theorem dX11_size_0 : decode cX11_size 0 = .ok (.aload_n 0, 1) := by decide +kernel
theorem dX11_size_1 : decode cX11_size 1 = .ok (.iload_n 1, 1) := by decide +kernel
theorem dX11_size_2 : decode cX11_size 2 = .ok (.invokevirtual 246, 3) := by decide +kernel
theorem dX11_size_5 : decode cX11_size 5 = .ok (.ifCond .eq 7, 3) := by decide +kernel
theorem dX11_size_8 : decode cX11_size 8 = .ok (.iconst 0, 1) := by decide +kernel
theorem dX11_size_9 : decode cX11_size 9 = .ok (.goto 8, 3) := by decide +kernel
theorem dX11_size_12 : decode cX11_size 12 = .ok (.aload_n 0, 1) := by decide +kernel
theorem dX11_size_13 : decode cX11_size 13 = .ok (.iload_n 1, 1) := by decide +kernel
theorem dX11_size_14 : decode cX11_size 14 = .ok (.invokevirtual 255, 3) := by decide +kernel
theorem dX11_size_17 : decode cX11_size 17 = .ok (.ireturn, 1) := by decide +kernel
theorem dX11_told_0 : decode cX11_told 0 = .ok (.iconst 3, 1) := by decide +kernel
theorem dX11_told_1 : decode cX11_told 1 = .ok (.bipush 50, 2) := by decide +kernel
theorem dX11_told_3 : decode cX11_told 3 = .ok (.aload_n 0, 1) := by decide +kernel
theorem dX11_told_4 : decode cX11_told 4 = .ok (.getfield 131, 3) := by decide +kernel
theorem dX11_told_7 : decode cX11_told 7 = .ok (.imul, 1) := by decide +kernel
theorem dX11_told_8 : decode cX11_told 8 = .ok (.iload_n 1, 1) := by decide +kernel
theorem dX11_told_9 : decode cX11_told 9 = .ok (.iadd, 1) := by decide +kernel
theorem dX11_told_10 : decode cX11_told 10 = .ok (.imul, 1) := by decide +kernel
theorem dX11_told_11 : decode cX11_told 11 = .ok (.istore_n 2, 1) := by decide +kernel
theorem dX11_told_12 : decode cX11_told 12 = .ok (.sipush 16384, 3) := by decide +kernel
theorem dX11_told_15 : decode cX11_told 15 = .ok (.aload_n 0, 1) := by decide +kernel
theorem dX11_told_16 : decode cX11_told 16 = .ok (.getfield 71, 3) := by decide +kernel
theorem dX11_told_19 : decode cX11_told 19 = .ok (.iload_n 2, 1) := by decide +kernel
theorem dX11_told_20 : decode cX11_told 20 = .ok (.iaload, 1) := by decide +kernel
theorem dX11_told_21 : decode cX11_told 21 = .ok (.imul, 1) := by decide +kernel
theorem dX11_told_22 : decode cX11_told 22 = .ok (.sipush 128, 3) := by decide +kernel
theorem dX11_told_25 : decode cX11_told 25 = .ok (.aload_n 0, 1) := by decide +kernel
theorem dX11_told_26 : decode cX11_told 26 = .ok (.getfield 71, 3) := by decide +kernel
theorem dX11_told_29 : decode cX11_told 29 = .ok (.iload_n 2, 1) := by decide +kernel
theorem dX11_told_30 : decode cX11_told 30 = .ok (.iconst 1, 1) := by decide +kernel
theorem dX11_told_31 : decode cX11_told 31 = .ok (.iadd, 1) := by decide +kernel
theorem dX11_told_32 : decode cX11_told 32 = .ok (.iaload, 1) := by decide +kernel
theorem dX11_told_33 : decode cX11_told 33 = .ok (.imul, 1) := by decide +kernel
theorem dX11_told_34 : decode cX11_told 34 = .ok (.iadd, 1) := by decide +kernel
theorem dX11_told_35 : decode cX11_told 35 = .ok (.aload_n 0, 1) := by decide +kernel
theorem dX11_told_36 : decode cX11_told 36 = .ok (.getfield 71, 3) := by decide +kernel
theorem dX11_told_39 : decode cX11_told 39 = .ok (.iload_n 2, 1) := by decide +kernel
theorem dX11_told_40 : decode cX11_told 40 = .ok (.iconst 2, 1) := by decide +kernel
theorem dX11_told_41 : decode cX11_told 41 = .ok (.iadd, 1) := by decide +kernel
theorem dX11_told_42 : decode cX11_told 42 = .ok (.iaload, 1) := by decide +kernel
theorem dX11_told_43 : decode cX11_told 43 = .ok (.iadd, 1) := by decide +kernel
theorem dX11_told_44 : decode cX11_told 44 = .ok (.ireturn, 1) := by decide +kernel
theorem dX11_at_0 : decode cX11_at 0 = .ok (.aload_n 0, 1) := by decide +kernel
theorem dX11_at_1 : decode cX11_at 1 = .ok (.iload_n 1, 1) := by decide +kernel
theorem dX11_at_2 : decode cX11_at 2 = .ok (.invokevirtual 117, 3) := by decide +kernel
theorem dX11_at_5 : decode cX11_at 5 = .ok (.ifCond .eq 22, 3) := by decide +kernel
theorem dX11_at_8 : decode cX11_at 8 = .ok (.iload_n 2, 1) := by decide +kernel
theorem dX11_at_9 : decode cX11_at 9 = .ok (.iconst 0, 1) := by decide +kernel
theorem dX11_at_10 : decode cX11_at 10 = .ok (.aload_n 0, 1) := by decide +kernel
theorem dX11_at_11 : decode cX11_at 11 = .ok (.iload_n 1, 1) := by decide +kernel
theorem dX11_at_12 : decode cX11_at 12 = .ok (.invokevirtual 255, 3) := by decide +kernel
theorem dX11_at_15 : decode cX11_at 15 = .ok (.iconst 1, 1) := by decide +kernel
theorem dX11_at_16 : decode cX11_at 16 = .ok (.isub, 1) := by decide +kernel
theorem dX11_at_17 : decode cX11_at 17 = .ok (.invokestatic 102, 3) := by decide +kernel
theorem dX11_at_20 : decode cX11_at 20 = .ok (.ifCond .eq 7, 3) := by decide +kernel
theorem dX11_at_23 : decode cX11_at 23 = .ok (.iconst 1, 1) := by decide +kernel
theorem dX11_at_24 : decode cX11_at 24 = .ok (.goto 4, 3) := by decide +kernel
theorem dX11_at_27 : decode cX11_at 27 = .ok (.iconst 0, 1) := by decide +kernel
theorem dX11_at_28 : decode cX11_at 28 = .ok (.istore_n 3, 1) := by decide +kernel
theorem dX11_at_29 : decode cX11_at 29 = .ok (.aload_n 0, 1) := by decide +kernel
theorem dX11_at_30 : decode cX11_at 30 = .ok (.iload_n 3, 1) := by decide +kernel
theorem dX11_at_31 : decode cX11_at 31 = .ok (.ifCond .eq 7, 3) := by decide +kernel
theorem dX11_at_34 : decode cX11_at 34 = .ok (.iconst 0, 1) := by decide +kernel
theorem dX11_at_35 : decode cX11_at 35 = .ok (.goto 4, 3) := by decide +kernel
theorem dX11_at_38 : decode cX11_at 38 = .ok (.iconst 1, 1) := by decide +kernel
theorem dX11_at_39 : decode cX11_at 39 = .ok (.invokevirtual 113, 3) := by decide +kernel
theorem dX11_at_42 : decode cX11_at 42 = .ok (.ifCond .eq 5, 3) := by decide +kernel
theorem dX11_at_45 : decode cX11_at 45 = .ok (.iconst 0, 1) := by decide +kernel
theorem dX11_at_46 : decode cX11_at 46 = .ok (.ireturn, 1) := by decide +kernel
theorem dX11_at_47 : decode cX11_at 47 = .ok (.iconst 0, 1) := by decide +kernel
theorem dX11_at_48 : decode cX11_at 48 = .ok (.istore 4, 2) := by decide +kernel
theorem dX11_at_50 : decode cX11_at 50 = .ok (.iconst 0, 1) := by decide +kernel
theorem dX11_at_51 : decode cX11_at 51 = .ok (.istore 5, 2) := by decide +kernel
theorem dX11_at_53 : decode cX11_at 53 = .ok (.iload 5, 2) := by decide +kernel
theorem dX11_at_55 : decode cX11_at 55 = .ok (.aload_n 0, 1) := by decide +kernel
theorem dX11_at_56 : decode cX11_at 56 = .ok (.getfield 65, 3) := by decide +kernel
theorem dX11_at_59 : decode cX11_at 59 = .ok (.aload_n 0, 1) := by decide +kernel
theorem dX11_at_60 : decode cX11_at 60 = .ok (.getfield 131, 3) := by decide +kernel
theorem dX11_at_63 : decode cX11_at 63 = .ok (.iaload, 1) := by decide +kernel
theorem dX11_at_64 : decode cX11_at 64 = .ok (.if_icmp .ge 117, 3) := by decide +kernel
theorem dX11_at_67 : decode cX11_at 67 = .ok (.iconst 0, 1) := by decide +kernel
theorem dX11_at_68 : decode cX11_at 68 = .ok (.istore 6, 2) := by decide +kernel
theorem dX11_at_70 : decode cX11_at 70 = .ok (.iconst 0, 1) := by decide +kernel
theorem dX11_at_71 : decode cX11_at 71 = .ok (.istore 7, 2) := by decide +kernel
theorem dX11_at_73 : decode cX11_at 73 = .ok (.iload 7, 2) := by decide +kernel
theorem dX11_at_75 : decode cX11_at 75 = .ok (.aload_n 0, 1) := by decide +kernel
theorem dX11_at_76 : decode cX11_at 76 = .ok (.getfield 65, 3) := by decide +kernel
theorem dX11_at_79 : decode cX11_at 79 = .ok (.aload_n 0, 1) := by decide +kernel
theorem dX11_at_80 : decode cX11_at 80 = .ok (.getfield 131, 3) := by decide +kernel
theorem dX11_at_83 : decode cX11_at 83 = .ok (.iaload, 1) := by decide +kernel
theorem dX11_at_84 : decode cX11_at 84 = .ok (.if_icmp .ge 53, 3) := by decide +kernel
theorem dX11_at_87 : decode cX11_at 87 = .ok (.iload 6, 2) := by decide +kernel
theorem dX11_at_89 : decode cX11_at 89 = .ok (.aload_n 0, 1) := by decide +kernel
theorem dX11_at_90 : decode cX11_at 90 = .ok (.getfield 68, 3) := by decide +kernel
theorem dX11_at_93 : decode cX11_at 93 = .ok (.bipush 50, 2) := by decide +kernel
theorem dX11_at_95 : decode cX11_at 95 = .ok (.aload_n 0, 1) := by decide +kernel
theorem dX11_at_96 : decode cX11_at 96 = .ok (.getfield 131, 3) := by decide +kernel
theorem dX11_at_99 : decode cX11_at 99 = .ok (.imul, 1) := by decide +kernel
theorem dX11_at_100 : decode cX11_at 100 = .ok (.iload 7, 2) := by decide +kernel
theorem dX11_at_102 : decode cX11_at 102 = .ok (.iadd, 1) := by decide +kernel
theorem dX11_at_103 : decode cX11_at 103 = .ok (.iaload, 1) := by decide +kernel
theorem dX11_at_104 : decode cX11_at 104 = .ok (.iload_n 1, 1) := by decide +kernel
theorem dX11_at_105 : decode cX11_at 105 = .ok (.if_icmp .ne 22, 3) := by decide +kernel
theorem dX11_at_108 : decode cX11_at 108 = .ok (.aload_n 0, 1) := by decide +kernel
theorem dX11_at_109 : decode cX11_at 109 = .ok (.iload 7, 2) := by decide +kernel
theorem dX11_at_111 : decode cX11_at 111 = .ok (.invokevirtual 258, 3) := by decide +kernel
theorem dX11_at_114 : decode cX11_at 114 = .ok (.aload_n 0, 1) := by decide +kernel
theorem dX11_at_115 : decode cX11_at 115 = .ok (.iload 5, 2) := by decide +kernel
theorem dX11_at_117 : decode cX11_at 117 = .ok (.invokevirtual 258, 3) := by decide +kernel
theorem dX11_at_120 : decode cX11_at 120 = .ok (.if_icmp .ge 7, 3) := by decide +kernel
theorem dX11_at_123 : decode cX11_at 123 = .ok (.iconst 1, 1) := by decide +kernel
theorem dX11_at_124 : decode cX11_at 124 = .ok (.goto 4, 3) := by decide +kernel
theorem dX11_at_127 : decode cX11_at 127 = .ok (.iconst 0, 1) := by decide +kernel
theorem dX11_at_128 : decode cX11_at 128 = .ok (.iadd, 1) := by decide +kernel
theorem dX11_at_129 : decode cX11_at 129 = .ok (.istore 6, 2) := by decide +kernel
theorem dX11_at_131 : decode cX11_at 131 = .ok (.iinc 7 1, 3) := by decide +kernel
theorem dX11_at_134 : decode cX11_at 134 = .ok (.goto (-61), 3) := by decide +kernel
theorem dX11_at_137 : decode cX11_at 137 = .ok (.aload_n 0, 1) := by decide +kernel
theorem dX11_at_138 : decode cX11_at 138 = .ok (.getfield 68, 3) := by decide +kernel
theorem dX11_at_141 : decode cX11_at 141 = .ok (.bipush 50, 2) := by decide +kernel
theorem dX11_at_143 : decode cX11_at 143 = .ok (.aload_n 0, 1) := by decide +kernel
theorem dX11_at_144 : decode cX11_at 144 = .ok (.getfield 131, 3) := by decide +kernel
theorem dX11_at_147 : decode cX11_at 147 = .ok (.imul, 1) := by decide +kernel
theorem dX11_at_148 : decode cX11_at 148 = .ok (.iload 5, 2) := by decide +kernel
theorem dX11_at_150 : decode cX11_at 150 = .ok (.iadd, 1) := by decide +kernel
theorem dX11_at_151 : decode cX11_at 151 = .ok (.iaload, 1) := by decide +kernel
theorem dX11_at_152 : decode cX11_at 152 = .ok (.iload_n 1, 1) := by decide +kernel
theorem dX11_at_153 : decode cX11_at 153 = .ok (.if_icmp .ne 18, 3) := by decide +kernel
theorem dX11_at_156 : decode cX11_at 156 = .ok (.iload 6, 2) := by decide +kernel
theorem dX11_at_158 : decode cX11_at 158 = .ok (.iload_n 2, 1) := by decide +kernel
theorem dX11_at_159 : decode cX11_at 159 = .ok (.if_icmp .ne 12, 3) := by decide +kernel
theorem dX11_at_162 : decode cX11_at 162 = .ok (.aload_n 0, 1) := by decide +kernel
theorem dX11_at_163 : decode cX11_at 163 = .ok (.iload 5, 2) := by decide +kernel
theorem dX11_at_165 : decode cX11_at 165 = .ok (.invokevirtual 258, 3) := by decide +kernel
theorem dX11_at_168 : decode cX11_at 168 = .ok (.goto 5, 3) := by decide +kernel
theorem dX11_at_171 : decode cX11_at 171 = .ok (.iload 4, 2) := by decide +kernel
theorem dX11_at_173 : decode cX11_at 173 = .ok (.istore 4, 2) := by decide +kernel
theorem dX11_at_175 : decode cX11_at 175 = .ok (.iinc 5 1, 3) := by decide +kernel
theorem dX11_at_178 : decode cX11_at 178 = .ok (.goto (-125), 3) := by decide +kernel
theorem dX11_at_181 : decode cX11_at 181 = .ok (.iload 4, 2) := by decide +kernel
theorem dX11_at_183 : decode cX11_at 183 = .ok (.ireturn, 1) := by decide +kernel
theorem dX11_stratum_0 : decode cX11_stratum 0 = .ok (.aload_n 0, 1) := by decide +kernel
theorem dX11_stratum_1 : decode cX11_stratum 1 = .ok (.iload_n 1, 1) := by decide +kernel
theorem dX11_stratum_2 : decode cX11_stratum 2 = .ok (.invokevirtual 246, 3) := by decide +kernel
theorem dX11_stratum_5 : decode cX11_stratum 5 = .ok (.ifCond .eq 7, 3) := by decide +kernel
theorem dX11_stratum_8 : decode cX11_stratum 8 = .ok (.iconst 0, 1) := by decide +kernel
theorem dX11_stratum_9 : decode cX11_stratum 9 = .ok (.goto 9, 3) := by decide +kernel
theorem dX11_stratum_12 : decode cX11_stratum 12 = .ok (.aload_n 0, 1) := by decide +kernel
theorem dX11_stratum_13 : decode cX11_stratum 13 = .ok (.getfield 23, 3) := by decide +kernel
theorem dX11_stratum_16 : decode cX11_stratum 16 = .ok (.iload_n 1, 1) := by decide +kernel
theorem dX11_stratum_17 : decode cX11_stratum 17 = .ok (.iaload, 1) := by decide +kernel
theorem dX11_stratum_18 : decode cX11_stratum 18 = .ok (.ireturn, 1) := by decide +kernel
theorem dX11_ways_0 : decode cX11_ways 0 = .ok (.aload_n 0, 1) := by decide +kernel
theorem dX11_ways_1 : decode cX11_ways 1 = .ok (.iload_n 1, 1) := by decide +kernel
theorem dX11_ways_2 : decode cX11_ways 2 = .ok (.invokevirtual 246, 3) := by decide +kernel
theorem dX11_ways_5 : decode cX11_ways 5 = .ok (.ifCond .ne 19, 3) := by decide +kernel
theorem dX11_ways_8 : decode cX11_ways 8 = .ok (.aload_n 0, 1) := by decide +kernel
theorem dX11_ways_9 : decode cX11_ways 9 = .ok (.aload_n 0, 1) := by decide +kernel
theorem dX11_ways_10 : decode cX11_ways 10 = .ok (.getfield 131, 3) := by decide +kernel
theorem dX11_ways_13 : decode cX11_ways 13 = .ok (.iload_n 1, 1) := by decide +kernel
theorem dX11_ways_14 : decode cX11_ways 14 = .ok (.iload_n 2, 1) := by decide +kernel
theorem dX11_ways_15 : decode cX11_ways 15 = .ok (.iload_n 3, 1) := by decide +kernel
theorem dX11_ways_16 : decode cX11_ways 16 = .ok (.iload 4, 2) := by decide +kernel
theorem dX11_ways_18 : decode cX11_ways 18 = .ok (.invokevirtual 249, 3) := by decide +kernel
theorem dX11_ways_21 : decode cX11_ways 21 = .ok (.ifCond .ne 5, 3) := by decide +kernel
theorem dX11_ways_24 : decode cX11_ways 24 = .ok (.iconst 0, 1) := by decide +kernel
theorem dX11_ways_25 : decode cX11_ways 25 = .ok (.ireturn, 1) := by decide +kernel
theorem dX11_ways_26 : decode cX11_ways 26 = .ok (.aload_n 0, 1) := by decide +kernel
theorem dX11_ways_27 : decode cX11_ways 27 = .ok (.aload_n 0, 1) := by decide +kernel
theorem dX11_ways_28 : decode cX11_ways 28 = .ok (.getfield 131, 3) := by decide +kernel
theorem dX11_ways_31 : decode cX11_ways 31 = .ok (.iload_n 1, 1) := by decide +kernel
theorem dX11_ways_32 : decode cX11_ways 32 = .ok (.iload_n 2, 1) := by decide +kernel
theorem dX11_ways_33 : decode cX11_ways 33 = .ok (.iload_n 3, 1) := by decide +kernel
theorem dX11_ways_34 : decode cX11_ways 34 = .ok (.iload 4, 2) := by decide +kernel
theorem dX11_ways_36 : decode cX11_ways 36 = .ok (.invokevirtual 217, 3) := by decide +kernel
theorem dX11_ways_39 : decode cX11_ways 39 = .ok (.istore 5, 2) := by decide +kernel
theorem dX11_ways_41 : decode cX11_ways 41 = .ok (.iconst 0, 1) := by decide +kernel
theorem dX11_ways_42 : decode cX11_ways 42 = .ok (.istore 6, 2) := by decide +kernel
theorem dX11_ways_44 : decode cX11_ways 44 = .ok (.iconst 0, 1) := by decide +kernel
theorem dX11_ways_45 : decode cX11_ways 45 = .ok (.istore 7, 2) := by decide +kernel
theorem dX11_ways_47 : decode cX11_ways 47 = .ok (.iload 7, 2) := by decide +kernel
theorem dX11_ways_49 : decode cX11_ways 49 = .ok (.aload_n 0, 1) := by decide +kernel
theorem dX11_ways_50 : decode cX11_ways 50 = .ok (.getfield 124, 3) := by decide +kernel
theorem dX11_ways_53 : decode cX11_ways 53 = .ok (.if_icmp .ge 89, 3) := by decide +kernel
theorem dX11_ways_56 : decode cX11_ways 56 = .ok (.iload 6, 2) := by decide +kernel
theorem dX11_ways_58 : decode cX11_ways 58 = .ok (.aload_n 0, 1) := by decide +kernel
theorem dX11_ways_59 : decode cX11_ways 59 = .ok (.getfield 26, 3) := by decide +kernel
theorem dX11_ways_62 : decode cX11_ways 62 = .ok (.iload 7, 2) := by decide +kernel
theorem dX11_ways_64 : decode cX11_ways 64 = .ok (.iaload, 1) := by decide +kernel
theorem dX11_ways_65 : decode cX11_ways 65 = .ok (.iload_n 1, 1) := by decide +kernel
theorem dX11_ways_66 : decode cX11_ways 66 = .ok (.if_icmp .ne 66, 3) := by decide +kernel
theorem dX11_ways_69 : decode cX11_ways 69 = .ok (.aload_n 0, 1) := by decide +kernel
theorem dX11_ways_70 : decode cX11_ways 70 = .ok (.iload 7, 2) := by decide +kernel
theorem dX11_ways_72 : decode cX11_ways 72 = .ok (.aload_n 0, 1) := by decide +kernel
theorem dX11_ways_73 : decode cX11_ways 73 = .ok (.getfield 131, 3) := by decide +kernel
theorem dX11_ways_76 : decode cX11_ways 76 = .ok (.iconst 0, 1) := by decide +kernel
theorem dX11_ways_77 : decode cX11_ways 77 = .ok (.invokevirtual 224, 3) := by decide +kernel
theorem dX11_ways_80 : decode cX11_ways 80 = .ok (.ifCond .eq 52, 3) := by decide +kernel
theorem dX11_ways_83 : decode cX11_ways 83 = .ok (.aload_n 0, 1) := by decide +kernel
theorem dX11_ways_84 : decode cX11_ways 84 = .ok (.aload_n 0, 1) := by decide +kernel
theorem dX11_ways_85 : decode cX11_ways 85 = .ok (.getfield 131, 3) := by decide +kernel
theorem dX11_ways_88 : decode cX11_ways 88 = .ok (.iload_n 1, 1) := by decide +kernel
theorem dX11_ways_89 : decode cX11_ways 89 = .ok (.aload_n 0, 1) := by decide +kernel
theorem dX11_ways_90 : decode cX11_ways 90 = .ok (.getfield 29, 3) := by decide +kernel
theorem dX11_ways_93 : decode cX11_ways 93 = .ok (.iconst 3, 1) := by decide +kernel
theorem dX11_ways_94 : decode cX11_ways 94 = .ok (.iload 7, 2) := by decide +kernel
theorem dX11_ways_96 : decode cX11_ways 96 = .ok (.imul, 1) := by decide +kernel
theorem dX11_ways_97 : decode cX11_ways 97 = .ok (.iaload, 1) := by decide +kernel
theorem dX11_ways_98 : decode cX11_ways 98 = .ok (.aload_n 0, 1) := by decide +kernel
theorem dX11_ways_99 : decode cX11_ways 99 = .ok (.getfield 29, 3) := by decide +kernel
theorem dX11_ways_102 : decode cX11_ways 102 = .ok (.iconst 3, 1) := by decide +kernel
theorem dX11_ways_103 : decode cX11_ways 103 = .ok (.iload 7, 2) := by decide +kernel
theorem dX11_ways_105 : decode cX11_ways 105 = .ok (.imul, 1) := by decide +kernel
theorem dX11_ways_106 : decode cX11_ways 106 = .ok (.iconst 1, 1) := by decide +kernel
theorem dX11_ways_107 : decode cX11_ways 107 = .ok (.iadd, 1) := by decide +kernel
theorem dX11_ways_108 : decode cX11_ways 108 = .ok (.iaload, 1) := by decide +kernel
theorem dX11_ways_109 : decode cX11_ways 109 = .ok (.aload_n 0, 1) := by decide +kernel
theorem dX11_ways_110 : decode cX11_ways 110 = .ok (.getfield 29, 3) := by decide +kernel
theorem dX11_ways_113 : decode cX11_ways 113 = .ok (.iconst 3, 1) := by decide +kernel
theorem dX11_ways_114 : decode cX11_ways 114 = .ok (.iload 7, 2) := by decide +kernel
theorem dX11_ways_116 : decode cX11_ways 116 = .ok (.imul, 1) := by decide +kernel
theorem dX11_ways_117 : decode cX11_ways 117 = .ok (.iconst 2, 1) := by decide +kernel
theorem dX11_ways_118 : decode cX11_ways 118 = .ok (.iadd, 1) := by decide +kernel
theorem dX11_ways_119 : decode cX11_ways 119 = .ok (.iaload, 1) := by decide +kernel
theorem dX11_ways_120 : decode cX11_ways 120 = .ok (.invokevirtual 217, 3) := by decide +kernel
theorem dX11_ways_123 : decode cX11_ways 123 = .ok (.iload 5, 2) := by decide +kernel
theorem dX11_ways_125 : decode cX11_ways 125 = .ok (.if_icmp .ne 7, 3) := by decide +kernel
theorem dX11_ways_128 : decode cX11_ways 128 = .ok (.iconst 1, 1) := by decide +kernel
theorem dX11_ways_129 : decode cX11_ways 129 = .ok (.goto 4, 3) := by decide +kernel
theorem dX11_ways_132 : decode cX11_ways 132 = .ok (.iconst 0, 1) := by decide +kernel
theorem dX11_ways_133 : decode cX11_ways 133 = .ok (.iadd, 1) := by decide +kernel
theorem dX11_ways_134 : decode cX11_ways 134 = .ok (.istore 6, 2) := by decide +kernel
theorem dX11_ways_136 : decode cX11_ways 136 = .ok (.iinc 7 1, 3) := by decide +kernel
theorem dX11_ways_139 : decode cX11_ways 139 = .ok (.goto (-92), 3) := by decide +kernel
theorem dX11_ways_142 : decode cX11_ways 142 = .ok (.iconst 0, 1) := by decide +kernel
theorem dX11_ways_143 : decode cX11_ways 143 = .ok (.istore 7, 2) := by decide +kernel
theorem dX11_ways_145 : decode cX11_ways 145 = .ok (.iload 7, 2) := by decide +kernel
theorem dX11_ways_147 : decode cX11_ways 147 = .ok (.aload_n 0, 1) := by decide +kernel
theorem dX11_ways_148 : decode cX11_ways 148 = .ok (.getfield 159, 3) := by decide +kernel
theorem dX11_ways_151 : decode cX11_ways 151 = .ok (.if_icmp .ge 102, 3) := by decide +kernel
theorem dX11_ways_154 : decode cX11_ways 154 = .ok (.aload_n 0, 1) := by decide +kernel
theorem dX11_ways_155 : decode cX11_ways 155 = .ok (.invokevirtual 234, 3) := by decide +kernel
theorem dX11_ways_158 : decode cX11_ways 158 = .ok (.aload_n 0, 1) := by decide +kernel
theorem dX11_ways_159 : decode cX11_ways 159 = .ok (.getfield 44, 3) := by decide +kernel
theorem dX11_ways_162 : decode cX11_ways 162 = .ok (.iload 7, 2) := by decide +kernel
theorem dX11_ways_164 : decode cX11_ways 164 = .ok (.baload, 1) := by decide +kernel
theorem dX11_ways_165 : decode cX11_ways 165 = .ok (.ifCond .ne 82, 3) := by decide +kernel
theorem dX11_ways_168 : decode cX11_ways 168 = .ok (.aload_n 0, 1) := by decide +kernel
theorem dX11_ways_169 : decode cX11_ways 169 = .ok (.getfield 47, 3) := by decide +kernel
theorem dX11_ways_172 : decode cX11_ways 172 = .ok (.iload 7, 2) := by decide +kernel
theorem dX11_ways_174 : decode cX11_ways 174 = .ok (.iaload, 1) := by decide +kernel
theorem dX11_ways_175 : decode cX11_ways 175 = .ok (.iload_n 1, 1) := by decide +kernel
theorem dX11_ways_176 : decode cX11_ways 176 = .ok (.if_icmp .ne 71, 3) := by decide +kernel
theorem dX11_ways_179 : decode cX11_ways 179 = .ok (.aload_n 0, 1) := by decide +kernel
theorem dX11_ways_180 : decode cX11_ways 180 = .ok (.iload 7, 2) := by decide +kernel
theorem dX11_ways_182 : decode cX11_ways 182 = .ok (.aload_n 0, 1) := by decide +kernel
theorem dX11_ways_183 : decode cX11_ways 183 = .ok (.getfield 53, 3) := by decide +kernel
theorem dX11_ways_186 : decode cX11_ways 186 = .ok (.iload 7, 2) := by decide +kernel
theorem dX11_ways_188 : decode cX11_ways 188 = .ok (.iaload, 1) := by decide +kernel
theorem dX11_ways_189 : decode cX11_ways 189 = .ok (.aload_n 0, 1) := by decide +kernel
theorem dX11_ways_190 : decode cX11_ways 190 = .ok (.getfield 131, 3) := by decide +kernel
theorem dX11_ways_193 : decode cX11_ways 193 = .ok (.invokevirtual 237, 3) := by decide +kernel
theorem dX11_ways_196 : decode cX11_ways 196 = .ok (.ifCond .eq 51, 3) := by decide +kernel
theorem dX11_ways_199 : decode cX11_ways 199 = .ok (.iload 6, 2) := by decide +kernel
theorem dX11_ways_201 : decode cX11_ways 201 = .ok (.aload_n 0, 1) := by decide +kernel
theorem dX11_ways_202 : decode cX11_ways 202 = .ok (.aload_n 0, 1) := by decide +kernel
theorem dX11_ways_203 : decode cX11_ways 203 = .ok (.getfield 131, 3) := by decide +kernel
theorem dX11_ways_206 : decode cX11_ways 206 = .ok (.iload_n 1, 1) := by decide +kernel
theorem dX11_ways_207 : decode cX11_ways 207 = .ok (.aload_n 0, 1) := by decide +kernel
theorem dX11_ways_208 : decode cX11_ways 208 = .ok (.iload 7, 2) := by decide +kernel
theorem dX11_ways_210 : decode cX11_ways 210 = .ok (.iconst 0, 1) := by decide +kernel
theorem dX11_ways_211 : decode cX11_ways 211 = .ok (.invokevirtual 240, 3) := by decide +kernel
theorem dX11_ways_214 : decode cX11_ways 214 = .ok (.aload_n 0, 1) := by decide +kernel
theorem dX11_ways_215 : decode cX11_ways 215 = .ok (.iload 7, 2) := by decide +kernel
theorem dX11_ways_217 : decode cX11_ways 217 = .ok (.iconst 1, 1) := by decide +kernel
theorem dX11_ways_218 : decode cX11_ways 218 = .ok (.invokevirtual 240, 3) := by decide +kernel
theorem dX11_ways_221 : decode cX11_ways 221 = .ok (.aload_n 0, 1) := by decide +kernel
theorem dX11_ways_222 : decode cX11_ways 222 = .ok (.iload 7, 2) := by decide +kernel
theorem dX11_ways_224 : decode cX11_ways 224 = .ok (.iconst 2, 1) := by decide +kernel
theorem dX11_ways_225 : decode cX11_ways 225 = .ok (.invokevirtual 240, 3) := by decide +kernel
theorem dX11_ways_228 : decode cX11_ways 228 = .ok (.invokevirtual 217, 3) := by decide +kernel
theorem dX11_ways_231 : decode cX11_ways 231 = .ok (.iload 5, 2) := by decide +kernel
theorem dX11_ways_233 : decode cX11_ways 233 = .ok (.if_icmp .ne 7, 3) := by decide +kernel
theorem dX11_ways_236 : decode cX11_ways 236 = .ok (.iconst 1, 1) := by decide +kernel
theorem dX11_ways_237 : decode cX11_ways 237 = .ok (.goto 4, 3) := by decide +kernel
theorem dX11_ways_240 : decode cX11_ways 240 = .ok (.iconst 0, 1) := by decide +kernel
theorem dX11_ways_241 : decode cX11_ways 241 = .ok (.iadd, 1) := by decide +kernel
theorem dX11_ways_242 : decode cX11_ways 242 = .ok (.istore 6, 2) := by decide +kernel
theorem dX11_ways_244 : decode cX11_ways 244 = .ok (.goto (-86), 3) := by decide +kernel
theorem dX11_ways_247 : decode cX11_ways 247 = .ok (.iinc 7 1, 3) := by decide +kernel
theorem dX11_ways_250 : decode cX11_ways 250 = .ok (.goto (-105), 3) := by decide +kernel
theorem dX11_ways_253 : decode cX11_ways 253 = .ok (.iload 6, 2) := by decide +kernel
theorem dX11_ways_255 : decode cX11_ways 255 = .ok (.ireturn, 1) := by decide +kernel
theorem dX11_costOf_0 : decode cX11_costOf 0 = .ok (.iconst 1, 1) := by decide +kernel
theorem dX11_costOf_1 : decode cX11_costOf 1 = .ok (.istore_n 2, 1) := by decide +kernel
theorem dX11_costOf_2 : decode cX11_costOf 2 = .ok (.iconst 5, 1) := by decide +kernel
theorem dX11_costOf_3 : decode cX11_costOf 3 = .ok (.iload_n 1, 1) := by decide +kernel
theorem dX11_costOf_4 : decode cX11_costOf 4 = .ok (.imul, 1) := by decide +kernel
theorem dX11_costOf_5 : decode cX11_costOf 5 = .ok (.istore_n 3, 1) := by decide +kernel
theorem dX11_costOf_6 : decode cX11_costOf 6 = .ok (.iload_n 3, 1) := by decide +kernel
theorem dX11_costOf_7 : decode cX11_costOf 7 = .ok (.iconst 5, 1) := by decide +kernel
theorem dX11_costOf_8 : decode cX11_costOf 8 = .ok (.iload_n 1, 1) := by decide +kernel
theorem dX11_costOf_9 : decode cX11_costOf 9 = .ok (.imul, 1) := by decide +kernel
theorem dX11_costOf_10 : decode cX11_costOf 10 = .ok (.aload_n 0, 1) := by decide +kernel
theorem dX11_costOf_11 : decode cX11_costOf 11 = .ok (.getfield 53, 3) := by decide +kernel
theorem dX11_costOf_14 : decode cX11_costOf 14 = .ok (.iload_n 1, 1) := by decide +kernel
theorem dX11_costOf_15 : decode cX11_costOf 15 = .ok (.iaload, 1) := by decide +kernel
theorem dX11_costOf_16 : decode cX11_costOf 16 = .ok (.iadd, 1) := by decide +kernel
theorem dX11_costOf_17 : decode cX11_costOf 17 = .ok (.if_icmp .ge 130, 3) := by decide +kernel
theorem dX11_costOf_20 : decode cX11_costOf 20 = .ok (.aload_n 0, 1) := by decide +kernel
theorem dX11_costOf_21 : decode cX11_costOf 21 = .ok (.getfield 56, 3) := by decide +kernel
theorem dX11_costOf_24 : decode cX11_costOf 24 = .ok (.iload_n 3, 1) := by decide +kernel
theorem dX11_costOf_25 : decode cX11_costOf 25 = .ok (.iaload, 1) := by decide +kernel
theorem dX11_costOf_26 : decode cX11_costOf 26 = .ok (.ifCond .ne 115, 3) := by decide +kernel
theorem dX11_costOf_29 : decode cX11_costOf 29 = .ok (.aload_n 0, 1) := by decide +kernel
theorem dX11_costOf_30 : decode cX11_costOf 30 = .ok (.aload_n 0, 1) := by decide +kernel
theorem dX11_costOf_31 : decode cX11_costOf 31 = .ok (.getfield 62, 3) := by decide +kernel
theorem dX11_costOf_34 : decode cX11_costOf 34 = .ok (.iconst 3, 1) := by decide +kernel
theorem dX11_costOf_35 : decode cX11_costOf 35 = .ok (.iload_n 3, 1) := by decide +kernel
theorem dX11_costOf_36 : decode cX11_costOf 36 = .ok (.imul, 1) := by decide +kernel
theorem dX11_costOf_37 : decode cX11_costOf 37 = .ok (.iaload, 1) := by decide +kernel
theorem dX11_costOf_38 : decode cX11_costOf 38 = .ok (.invokevirtual 193, 3) := by decide +kernel
theorem dX11_costOf_41 : decode cX11_costOf 41 = .ok (.istore 4, 2) := by decide +kernel
theorem dX11_costOf_43 : decode cX11_costOf 43 = .ok (.aload_n 0, 1) := by decide +kernel
theorem dX11_costOf_44 : decode cX11_costOf 44 = .ok (.getfield 13, 3) := by decide +kernel
theorem dX11_costOf_47 : decode cX11_costOf 47 = .ok (.aload_n 0, 1) := by decide +kernel
theorem dX11_costOf_48 : decode cX11_costOf 48 = .ok (.getfield 59, 3) := by decide +kernel
theorem dX11_costOf_51 : decode cX11_costOf 51 = .ok (.iload_n 3, 1) := by decide +kernel
theorem dX11_costOf_52 : decode cX11_costOf 52 = .ok (.iaload, 1) := by decide +kernel
theorem dX11_costOf_53 : decode cX11_costOf 53 = .ok (.iaload, 1) := by decide +kernel
theorem dX11_costOf_54 : decode cX11_costOf 54 = .ok (.iconst 1, 1) := by decide +kernel
theorem dX11_costOf_55 : decode cX11_costOf 55 = .ok (.if_icmp .le 20, 3) := by decide +kernel
theorem dX11_costOf_58 : decode cX11_costOf 58 = .ok (.aload_n 0, 1) := by decide +kernel
theorem dX11_costOf_59 : decode cX11_costOf 59 = .ok (.aload_n 0, 1) := by decide +kernel
theorem dX11_costOf_60 : decode cX11_costOf 60 = .ok (.getfield 62, 3) := by decide +kernel
theorem dX11_costOf_63 : decode cX11_costOf 63 = .ok (.iconst 3, 1) := by decide +kernel
theorem dX11_costOf_64 : decode cX11_costOf 64 = .ok (.iload_n 3, 1) := by decide +kernel
theorem dX11_costOf_65 : decode cX11_costOf 65 = .ok (.imul, 1) := by decide +kernel
theorem dX11_costOf_66 : decode cX11_costOf 66 = .ok (.iconst 1, 1) := by decide +kernel
theorem dX11_costOf_67 : decode cX11_costOf 67 = .ok (.iadd, 1) := by decide +kernel
theorem dX11_costOf_68 : decode cX11_costOf 68 = .ok (.iaload, 1) := by decide +kernel
theorem dX11_costOf_69 : decode cX11_costOf 69 = .ok (.invokevirtual 193, 3) := by decide +kernel
theorem dX11_costOf_72 : decode cX11_costOf 72 = .ok (.goto 4, 3) := by decide +kernel
theorem dX11_costOf_75 : decode cX11_costOf 75 = .ok (.iconst 0, 1) := by decide +kernel
theorem dX11_costOf_76 : decode cX11_costOf 76 = .ok (.istore 5, 2) := by decide +kernel
theorem dX11_costOf_78 : decode cX11_costOf 78 = .ok (.aload_n 0, 1) := by decide +kernel
theorem dX11_costOf_79 : decode cX11_costOf 79 = .ok (.getfield 13, 3) := by decide +kernel
theorem dX11_costOf_82 : decode cX11_costOf 82 = .ok (.aload_n 0, 1) := by decide +kernel
theorem dX11_costOf_83 : decode cX11_costOf 83 = .ok (.getfield 59, 3) := by decide +kernel
theorem dX11_costOf_86 : decode cX11_costOf 86 = .ok (.iload_n 3, 1) := by decide +kernel
theorem dX11_costOf_87 : decode cX11_costOf 87 = .ok (.iaload, 1) := by decide +kernel
theorem dX11_costOf_88 : decode cX11_costOf 88 = .ok (.iaload, 1) := by decide +kernel
theorem dX11_costOf_89 : decode cX11_costOf 89 = .ok (.iconst 2, 1) := by decide +kernel
theorem dX11_costOf_90 : decode cX11_costOf 90 = .ok (.if_icmp .le 20, 3) := by decide +kernel
theorem dX11_costOf_93 : decode cX11_costOf 93 = .ok (.aload_n 0, 1) := by decide +kernel
theorem dX11_costOf_94 : decode cX11_costOf 94 = .ok (.aload_n 0, 1) := by decide +kernel
theorem dX11_costOf_95 : decode cX11_costOf 95 = .ok (.getfield 62, 3) := by decide +kernel
theorem dX11_costOf_98 : decode cX11_costOf 98 = .ok (.iconst 3, 1) := by decide +kernel
theorem dX11_costOf_99 : decode cX11_costOf 99 = .ok (.iload_n 3, 1) := by decide +kernel
theorem dX11_costOf_100 : decode cX11_costOf 100 = .ok (.imul, 1) := by decide +kernel
theorem dX11_costOf_101 : decode cX11_costOf 101 = .ok (.iconst 2, 1) := by decide +kernel
theorem dX11_costOf_102 : decode cX11_costOf 102 = .ok (.iadd, 1) := by decide +kernel
theorem dX11_costOf_103 : decode cX11_costOf 103 = .ok (.iaload, 1) := by decide +kernel
theorem dX11_costOf_104 : decode cX11_costOf 104 = .ok (.invokevirtual 193, 3) := by decide +kernel
theorem dX11_costOf_107 : decode cX11_costOf 107 = .ok (.goto 4, 3) := by decide +kernel
theorem dX11_costOf_110 : decode cX11_costOf 110 = .ok (.iconst 0, 1) := by decide +kernel
theorem dX11_costOf_111 : decode cX11_costOf 111 = .ok (.istore 6, 2) := by decide +kernel
theorem dX11_costOf_113 : decode cX11_costOf 113 = .ok (.iload_n 2, 1) := by decide +kernel
theorem dX11_costOf_114 : decode cX11_costOf 114 = .ok (.aload_n 0, 1) := by decide +kernel
theorem dX11_costOf_115 : decode cX11_costOf 115 = .ok (.getfield 83, 3) := by decide +kernel
theorem dX11_costOf_118 : decode cX11_costOf 118 = .ok (.aload_n 0, 1) := by decide +kernel
theorem dX11_costOf_119 : decode cX11_costOf 119 = .ok (.aload_n 0, 1) := by decide +kernel
theorem dX11_costOf_120 : decode cX11_costOf 120 = .ok (.getfield 131, 3) := by decide +kernel
theorem dX11_costOf_123 : decode cX11_costOf 123 = .ok (.aload_n 0, 1) := by decide +kernel
theorem dX11_costOf_124 : decode cX11_costOf 124 = .ok (.getfield 59, 3) := by decide +kernel
theorem dX11_costOf_127 : decode cX11_costOf 127 = .ok (.iload_n 3, 1) := by decide +kernel
theorem dX11_costOf_128 : decode cX11_costOf 128 = .ok (.iaload, 1) := by decide +kernel
theorem dX11_costOf_129 : decode cX11_costOf 129 = .ok (.iload 4, 2) := by decide +kernel
theorem dX11_costOf_131 : decode cX11_costOf 131 = .ok (.iload 5, 2) := by decide +kernel
theorem dX11_costOf_133 : decode cX11_costOf 133 = .ok (.iload 6, 2) := by decide +kernel
theorem dX11_costOf_135 : decode cX11_costOf 135 = .ok (.invokevirtual 217, 3) := by decide +kernel
theorem dX11_costOf_138 : decode cX11_costOf 138 = .ok (.iaload, 1) := by decide +kernel
theorem dX11_costOf_139 : decode cX11_costOf 139 = .ok (.iadd, 1) := by decide +kernel
theorem dX11_costOf_140 : decode cX11_costOf 140 = .ok (.istore_n 2, 1) := by decide +kernel
theorem dX11_costOf_141 : decode cX11_costOf 141 = .ok (.iinc 3 1, 3) := by decide +kernel
theorem dX11_costOf_144 : decode cX11_costOf 144 = .ok (.goto (-138), 3) := by decide +kernel
theorem dX11_costOf_147 : decode cX11_costOf 147 = .ok (.iload_n 2, 1) := by decide +kernel
theorem dX11_costOf_148 : decode cX11_costOf 148 = .ok (.ireturn, 1) := by decide +kernel
theorem dX11_lower_0 : decode cX11_lower 0 = .ok (.iload_n 2, 1) := by decide +kernel
theorem dX11_lower_1 : decode cX11_lower 1 = .ok (.aload_n 0, 1) := by decide +kernel
theorem dX11_lower_2 : decode cX11_lower 2 = .ok (.getfield 83, 3) := by decide +kernel
theorem dX11_lower_5 : decode cX11_lower 5 = .ok (.iload_n 1, 1) := by decide +kernel
theorem dX11_lower_6 : decode cX11_lower 6 = .ok (.iaload, 1) := by decide +kernel
theorem dX11_lower_7 : decode cX11_lower 7 = .ok (.if_icmp .ge 7, 3) := by decide +kernel
theorem dX11_lower_10 : decode cX11_lower 10 = .ok (.iconst 1, 1) := by decide +kernel
theorem dX11_lower_11 : decode cX11_lower 11 = .ok (.goto 4, 3) := by decide +kernel
theorem dX11_lower_14 : decode cX11_lower 14 = .ok (.iconst 0, 1) := by decide +kernel
theorem dX11_lower_15 : decode cX11_lower 15 = .ok (.istore_n 3, 1) := by decide +kernel
theorem dX11_lower_16 : decode cX11_lower 16 = .ok (.aload_n 0, 1) := by decide +kernel
theorem dX11_lower_17 : decode cX11_lower 17 = .ok (.getfield 83, 3) := by decide +kernel
theorem dX11_lower_20 : decode cX11_lower 20 = .ok (.iload_n 1, 1) := by decide +kernel
theorem dX11_lower_21 : decode cX11_lower 21 = .ok (.iload_n 3, 1) := by decide +kernel
theorem dX11_lower_22 : decode cX11_lower 22 = .ok (.ifCond .eq 7, 3) := by decide +kernel
theorem dX11_lower_25 : decode cX11_lower 25 = .ok (.iload_n 2, 1) := by decide +kernel
theorem dX11_lower_26 : decode cX11_lower 26 = .ok (.goto 9, 3) := by decide +kernel
theorem dX11_lower_29 : decode cX11_lower 29 = .ok (.aload_n 0, 1) := by decide +kernel
theorem dX11_lower_30 : decode cX11_lower 30 = .ok (.getfield 83, 3) := by decide +kernel
theorem dX11_lower_33 : decode cX11_lower 33 = .ok (.iload_n 1, 1) := by decide +kernel
theorem dX11_lower_34 : decode cX11_lower 34 = .ok (.iaload, 1) := by decide +kernel
theorem dX11_lower_35 : decode cX11_lower 35 = .ok (.iastore, 1) := by decide +kernel
theorem dX11_lower_36 : decode cX11_lower 36 = .ok (.iload_n 3, 1) := by decide +kernel
theorem dX11_lower_37 : decode cX11_lower 37 = .ok (.ireturn, 1) := by decide +kernel
theorem dX11_findCosts_0 : decode cX11_findCosts 0 = .ok (.iconst 0, 1) := by decide +kernel
theorem dX11_findCosts_1 : decode cX11_findCosts 1 = .ok (.istore_n 1, 1) := by decide +kernel
theorem dX11_findCosts_2 : decode cX11_findCosts 2 = .ok (.iload_n 1, 1) := by decide +kernel
theorem dX11_findCosts_3 : decode cX11_findCosts 3 = .ok (.aload_n 0, 1) := by decide +kernel
theorem dX11_findCosts_4 : decode cX11_findCosts 4 = .ok (.getfield 65, 3) := by decide +kernel
theorem dX11_findCosts_7 : decode cX11_findCosts 7 = .ok (.aload_n 0, 1) := by decide +kernel
theorem dX11_findCosts_8 : decode cX11_findCosts 8 = .ok (.getfield 131, 3) := by decide +kernel
theorem dX11_findCosts_11 : decode cX11_findCosts 11 = .ok (.iaload, 1) := by decide +kernel
theorem dX11_findCosts_12 : decode cX11_findCosts 12 = .ok (.if_icmp .ge 18, 3) := by decide +kernel
theorem dX11_findCosts_15 : decode cX11_findCosts 15 = .ok (.aload_n 0, 1) := by decide +kernel
theorem dX11_findCosts_16 : decode cX11_findCosts 16 = .ok (.getfield 83, 3) := by decide +kernel
theorem dX11_findCosts_19 : decode cX11_findCosts 19 = .ok (.iload_n 1, 1) := by decide +kernel
theorem dX11_findCosts_20 : decode cX11_findCosts 20 = .ok (.ldc_w 261, 3) := by decide +kernel
theorem dX11_findCosts_23 : decode cX11_findCosts 23 = .ok (.iastore, 1) := by decide +kernel
theorem dX11_findCosts_24 : decode cX11_findCosts 24 = .ok (.iinc 1 1, 3) := by decide +kernel
theorem dX11_findCosts_27 : decode cX11_findCosts 27 = .ok (.goto (-25), 3) := by decide +kernel
theorem dX11_findCosts_30 : decode cX11_findCosts 30 = .ok (.iconst 0, 1) := by decide +kernel
theorem dX11_findCosts_31 : decode cX11_findCosts 31 = .ok (.istore_n 1, 1) := by decide +kernel
theorem dX11_findCosts_32 : decode cX11_findCosts 32 = .ok (.iload_n 1, 1) := by decide +kernel
theorem dX11_findCosts_33 : decode cX11_findCosts 33 = .ok (.aload_n 0, 1) := by decide +kernel
theorem dX11_findCosts_34 : decode cX11_findCosts 34 = .ok (.getfield 124, 3) := by decide +kernel
theorem dX11_findCosts_37 : decode cX11_findCosts 37 = .ok (.if_icmp .ge 75, 3) := by decide +kernel
theorem dX11_findCosts_40 : decode cX11_findCosts 40 = .ok (.aload_n 0, 1) := by decide +kernel
theorem dX11_findCosts_41 : decode cX11_findCosts 41 = .ok (.iload_n 1, 1) := by decide +kernel
theorem dX11_findCosts_42 : decode cX11_findCosts 42 = .ok (.aload_n 0, 1) := by decide +kernel
theorem dX11_findCosts_43 : decode cX11_findCosts 43 = .ok (.getfield 131, 3) := by decide +kernel
theorem dX11_findCosts_46 : decode cX11_findCosts 46 = .ok (.iconst 0, 1) := by decide +kernel
theorem dX11_findCosts_47 : decode cX11_findCosts 47 = .ok (.invokevirtual 224, 3) := by decide +kernel
theorem dX11_findCosts_50 : decode cX11_findCosts 50 = .ok (.ifCond .eq 56, 3) := by decide +kernel
theorem dX11_findCosts_53 : decode cX11_findCosts 53 = .ok (.aload_n 0, 1) := by decide +kernel
theorem dX11_findCosts_54 : decode cX11_findCosts 54 = .ok (.aload_n 0, 1) := by decide +kernel
theorem dX11_findCosts_55 : decode cX11_findCosts 55 = .ok (.aload_n 0, 1) := by decide +kernel
theorem dX11_findCosts_56 : decode cX11_findCosts 56 = .ok (.getfield 131, 3) := by decide +kernel
theorem dX11_findCosts_59 : decode cX11_findCosts 59 = .ok (.aload_n 0, 1) := by decide +kernel
theorem dX11_findCosts_60 : decode cX11_findCosts 60 = .ok (.getfield 26, 3) := by decide +kernel
theorem dX11_findCosts_63 : decode cX11_findCosts 63 = .ok (.iload_n 1, 1) := by decide +kernel
theorem dX11_findCosts_64 : decode cX11_findCosts 64 = .ok (.iaload, 1) := by decide +kernel
theorem dX11_findCosts_65 : decode cX11_findCosts 65 = .ok (.aload_n 0, 1) := by decide +kernel
theorem dX11_findCosts_66 : decode cX11_findCosts 66 = .ok (.getfield 29, 3) := by decide +kernel
theorem dX11_findCosts_69 : decode cX11_findCosts 69 = .ok (.iconst 3, 1) := by decide +kernel
theorem dX11_findCosts_70 : decode cX11_findCosts 70 = .ok (.iload_n 1, 1) := by decide +kernel
theorem dX11_findCosts_71 : decode cX11_findCosts 71 = .ok (.imul, 1) := by decide +kernel
theorem dX11_findCosts_72 : decode cX11_findCosts 72 = .ok (.iaload, 1) := by decide +kernel
theorem dX11_findCosts_73 : decode cX11_findCosts 73 = .ok (.aload_n 0, 1) := by decide +kernel
theorem dX11_findCosts_74 : decode cX11_findCosts 74 = .ok (.getfield 29, 3) := by decide +kernel
theorem dX11_findCosts_77 : decode cX11_findCosts 77 = .ok (.iconst 3, 1) := by decide +kernel
theorem dX11_findCosts_78 : decode cX11_findCosts 78 = .ok (.iload_n 1, 1) := by decide +kernel
theorem dX11_findCosts_79 : decode cX11_findCosts 79 = .ok (.imul, 1) := by decide +kernel
theorem dX11_findCosts_80 : decode cX11_findCosts 80 = .ok (.iconst 1, 1) := by decide +kernel
theorem dX11_findCosts_81 : decode cX11_findCosts 81 = .ok (.iadd, 1) := by decide +kernel
theorem dX11_findCosts_82 : decode cX11_findCosts 82 = .ok (.iaload, 1) := by decide +kernel
theorem dX11_findCosts_83 : decode cX11_findCosts 83 = .ok (.aload_n 0, 1) := by decide +kernel
theorem dX11_findCosts_84 : decode cX11_findCosts 84 = .ok (.getfield 29, 3) := by decide +kernel
theorem dX11_findCosts_87 : decode cX11_findCosts 87 = .ok (.iconst 3, 1) := by decide +kernel
theorem dX11_findCosts_88 : decode cX11_findCosts 88 = .ok (.iload_n 1, 1) := by decide +kernel
theorem dX11_findCosts_89 : decode cX11_findCosts 89 = .ok (.imul, 1) := by decide +kernel
theorem dX11_findCosts_90 : decode cX11_findCosts 90 = .ok (.iconst 2, 1) := by decide +kernel
theorem dX11_findCosts_91 : decode cX11_findCosts 91 = .ok (.iadd, 1) := by decide +kernel
theorem dX11_findCosts_92 : decode cX11_findCosts 92 = .ok (.iaload, 1) := by decide +kernel
theorem dX11_findCosts_93 : decode cX11_findCosts 93 = .ok (.invokevirtual 217, 3) := by decide +kernel
theorem dX11_findCosts_96 : decode cX11_findCosts 96 = .ok (.aload_n 0, 1) := by decide +kernel
theorem dX11_findCosts_97 : decode cX11_findCosts 97 = .ok (.getfield 32, 3) := by decide +kernel
theorem dX11_findCosts_100 : decode cX11_findCosts 100 = .ok (.iload_n 1, 1) := by decide +kernel
theorem dX11_findCosts_101 : decode cX11_findCosts 101 = .ok (.iaload, 1) := by decide +kernel
theorem dX11_findCosts_102 : decode cX11_findCosts 102 = .ok (.invokevirtual 262, 3) := by decide +kernel
theorem dX11_findCosts_105 : decode cX11_findCosts 105 = .ok (.pop, 1) := by decide +kernel
theorem dX11_findCosts_106 : decode cX11_findCosts 106 = .ok (.iinc 1 1, 3) := by decide +kernel
theorem dX11_findCosts_109 : decode cX11_findCosts 109 = .ok (.goto (-77), 3) := by decide +kernel
theorem dX11_findCosts_112 : decode cX11_findCosts 112 = .ok (.iconst 1, 1) := by decide +kernel
theorem dX11_findCosts_113 : decode cX11_findCosts 113 = .ok (.istore_n 1, 1) := by decide +kernel
theorem dX11_findCosts_114 : decode cX11_findCosts 114 = .ok (.iload_n 1, 1) := by decide +kernel
theorem dX11_findCosts_115 : decode cX11_findCosts 115 = .ok (.ifCond .eq 118, 3) := by decide +kernel
theorem dX11_findCosts_118 : decode cX11_findCosts 118 = .ok (.iconst 0, 1) := by decide +kernel
theorem dX11_findCosts_119 : decode cX11_findCosts 119 = .ok (.istore_n 1, 1) := by decide +kernel
theorem dX11_findCosts_120 : decode cX11_findCosts 120 = .ok (.iconst 0, 1) := by decide +kernel
theorem dX11_findCosts_121 : decode cX11_findCosts 121 = .ok (.istore_n 2, 1) := by decide +kernel
theorem dX11_findCosts_122 : decode cX11_findCosts 122 = .ok (.iload_n 2, 1) := by decide +kernel
theorem dX11_findCosts_123 : decode cX11_findCosts 123 = .ok (.aload_n 0, 1) := by decide +kernel
theorem dX11_findCosts_124 : decode cX11_findCosts 124 = .ok (.getfield 159, 3) := by decide +kernel
theorem dX11_findCosts_127 : decode cX11_findCosts 127 = .ok (.if_icmp .ge 103, 3) := by decide +kernel
theorem dX11_findCosts_130 : decode cX11_findCosts 130 = .ok (.aload_n 0, 1) := by decide +kernel
theorem dX11_findCosts_131 : decode cX11_findCosts 131 = .ok (.invokevirtual 234, 3) := by decide +kernel
theorem dX11_findCosts_134 : decode cX11_findCosts 134 = .ok (.aload_n 0, 1) := by decide +kernel
theorem dX11_findCosts_135 : decode cX11_findCosts 135 = .ok (.getfield 44, 3) := by decide +kernel
theorem dX11_findCosts_138 : decode cX11_findCosts 138 = .ok (.iload_n 2, 1) := by decide +kernel
theorem dX11_findCosts_139 : decode cX11_findCosts 139 = .ok (.baload, 1) := by decide +kernel
theorem dX11_findCosts_140 : decode cX11_findCosts 140 = .ok (.ifCond .ne 84, 3) := by decide +kernel
theorem dX11_findCosts_143 : decode cX11_findCosts 143 = .ok (.aload_n 0, 1) := by decide +kernel
theorem dX11_findCosts_144 : decode cX11_findCosts 144 = .ok (.iload_n 2, 1) := by decide +kernel
theorem dX11_findCosts_145 : decode cX11_findCosts 145 = .ok (.aload_n 0, 1) := by decide +kernel
theorem dX11_findCosts_146 : decode cX11_findCosts 146 = .ok (.getfield 53, 3) := by decide +kernel
theorem dX11_findCosts_149 : decode cX11_findCosts 149 = .ok (.iload_n 2, 1) := by decide +kernel
theorem dX11_findCosts_150 : decode cX11_findCosts 150 = .ok (.iaload, 1) := by decide +kernel
theorem dX11_findCosts_151 : decode cX11_findCosts 151 = .ok (.aload_n 0, 1) := by decide +kernel
theorem dX11_findCosts_152 : decode cX11_findCosts 152 = .ok (.getfield 131, 3) := by decide +kernel
theorem dX11_findCosts_155 : decode cX11_findCosts 155 = .ok (.invokevirtual 237, 3) := by decide +kernel
theorem dX11_findCosts_158 : decode cX11_findCosts 158 = .ok (.ifCond .eq 66, 3) := by decide +kernel
theorem dX11_findCosts_161 : decode cX11_findCosts 161 = .ok (.aload_n 0, 1) := by decide +kernel
theorem dX11_findCosts_162 : decode cX11_findCosts 162 = .ok (.aload_n 0, 1) := by decide +kernel
theorem dX11_findCosts_163 : decode cX11_findCosts 163 = .ok (.getfield 131, 3) := by decide +kernel
theorem dX11_findCosts_166 : decode cX11_findCosts 166 = .ok (.aload_n 0, 1) := by decide +kernel
theorem dX11_findCosts_167 : decode cX11_findCosts 167 = .ok (.getfield 47, 3) := by decide +kernel
theorem dX11_findCosts_170 : decode cX11_findCosts 170 = .ok (.iload_n 2, 1) := by decide +kernel
theorem dX11_findCosts_171 : decode cX11_findCosts 171 = .ok (.iaload, 1) := by decide +kernel
theorem dX11_findCosts_172 : decode cX11_findCosts 172 = .ok (.aload_n 0, 1) := by decide +kernel
theorem dX11_findCosts_173 : decode cX11_findCosts 173 = .ok (.iload_n 2, 1) := by decide +kernel
theorem dX11_findCosts_174 : decode cX11_findCosts 174 = .ok (.iconst 0, 1) := by decide +kernel
theorem dX11_findCosts_175 : decode cX11_findCosts 175 = .ok (.invokevirtual 240, 3) := by decide +kernel
theorem dX11_findCosts_178 : decode cX11_findCosts 178 = .ok (.aload_n 0, 1) := by decide +kernel
theorem dX11_findCosts_179 : decode cX11_findCosts 179 = .ok (.iload_n 2, 1) := by decide +kernel
theorem dX11_findCosts_180 : decode cX11_findCosts 180 = .ok (.iconst 1, 1) := by decide +kernel
theorem dX11_findCosts_181 : decode cX11_findCosts 181 = .ok (.invokevirtual 240, 3) := by decide +kernel
theorem dX11_findCosts_184 : decode cX11_findCosts 184 = .ok (.aload_n 0, 1) := by decide +kernel
theorem dX11_findCosts_185 : decode cX11_findCosts 185 = .ok (.iload_n 2, 1) := by decide +kernel
theorem dX11_findCosts_186 : decode cX11_findCosts 186 = .ok (.iconst 2, 1) := by decide +kernel
theorem dX11_findCosts_187 : decode cX11_findCosts 187 = .ok (.invokevirtual 240, 3) := by decide +kernel
theorem dX11_findCosts_190 : decode cX11_findCosts 190 = .ok (.invokevirtual 217, 3) := by decide +kernel
theorem dX11_findCosts_193 : decode cX11_findCosts 193 = .ok (.istore_n 3, 1) := by decide +kernel
theorem dX11_findCosts_194 : decode cX11_findCosts 194 = .ok (.aload_n 0, 1) := by decide +kernel
theorem dX11_findCosts_195 : decode cX11_findCosts 195 = .ok (.iload_n 3, 1) := by decide +kernel
theorem dX11_findCosts_196 : decode cX11_findCosts 196 = .ok (.aload_n 0, 1) := by decide +kernel
theorem dX11_findCosts_197 : decode cX11_findCosts 197 = .ok (.iload_n 2, 1) := by decide +kernel
theorem dX11_findCosts_198 : decode cX11_findCosts 198 = .ok (.invokevirtual 265, 3) := by decide +kernel
theorem dX11_findCosts_201 : decode cX11_findCosts 201 = .ok (.invokevirtual 262, 3) := by decide +kernel
theorem dX11_findCosts_204 : decode cX11_findCosts 204 = .ok (.istore 4, 2) := by decide +kernel
theorem dX11_findCosts_206 : decode cX11_findCosts 206 = .ok (.iload_n 1, 1) := by decide +kernel
theorem dX11_findCosts_207 : decode cX11_findCosts 207 = .ok (.ifCond .ne 8, 3) := by decide +kernel
theorem dX11_findCosts_210 : decode cX11_findCosts 210 = .ok (.iload 4, 2) := by decide +kernel
theorem dX11_findCosts_212 : decode cX11_findCosts 212 = .ok (.ifCond .eq 7, 3) := by decide +kernel
theorem dX11_findCosts_215 : decode cX11_findCosts 215 = .ok (.iconst 1, 1) := by decide +kernel
theorem dX11_findCosts_216 : decode cX11_findCosts 216 = .ok (.goto 4, 3) := by decide +kernel
theorem dX11_findCosts_219 : decode cX11_findCosts 219 = .ok (.iconst 0, 1) := by decide +kernel
theorem dX11_findCosts_220 : decode cX11_findCosts 220 = .ok (.istore_n 1, 1) := by decide +kernel
theorem dX11_findCosts_221 : decode cX11_findCosts 221 = .ok (.goto (-87), 3) := by decide +kernel
theorem dX11_findCosts_224 : decode cX11_findCosts 224 = .ok (.iinc 2 1, 3) := by decide +kernel
theorem dX11_findCosts_227 : decode cX11_findCosts 227 = .ok (.goto (-105), 3) := by decide +kernel
theorem dX11_findCosts_230 : decode cX11_findCosts 230 = .ok (.goto (-116), 3) := by decide +kernel
theorem dX11_findCosts_233 : decode cX11_findCosts 233 = .ok (.return_, 1) := by decide +kernel
theorem dX11_cheapest_0 : decode cX11_cheapest 0 = .ok (.aload_n 0, 1) := by decide +kernel
theorem dX11_cheapest_1 : decode cX11_cheapest 1 = .ok (.iload_n 1, 1) := by decide +kernel
theorem dX11_cheapest_2 : decode cX11_cheapest 2 = .ok (.invokevirtual 246, 3) := by decide +kernel
theorem dX11_cheapest_5 : decode cX11_cheapest 5 = .ok (.ifCond .eq 5, 3) := by decide +kernel
theorem dX11_cheapest_8 : decode cX11_cheapest 8 = .ok (.iconst 0, 1) := by decide +kernel
theorem dX11_cheapest_9 : decode cX11_cheapest 9 = .ok (.ireturn, 1) := by decide +kernel
theorem dX11_cheapest_10 : decode cX11_cheapest 10 = .ok (.aload_n 0, 1) := by decide +kernel
theorem dX11_cheapest_11 : decode cX11_cheapest 11 = .ok (.aload_n 0, 1) := by decide +kernel
theorem dX11_cheapest_12 : decode cX11_cheapest 12 = .ok (.getfield 131, 3) := by decide +kernel
theorem dX11_cheapest_15 : decode cX11_cheapest 15 = .ok (.iload_n 1, 1) := by decide +kernel
theorem dX11_cheapest_16 : decode cX11_cheapest 16 = .ok (.iload_n 2, 1) := by decide +kernel
theorem dX11_cheapest_17 : decode cX11_cheapest 17 = .ok (.iload_n 3, 1) := by decide +kernel
theorem dX11_cheapest_18 : decode cX11_cheapest 18 = .ok (.iload 4, 2) := by decide +kernel
theorem dX11_cheapest_20 : decode cX11_cheapest 20 = .ok (.invokevirtual 249, 3) := by decide +kernel
theorem dX11_cheapest_23 : decode cX11_cheapest 23 = .ok (.ifCond .ne 5, 3) := by decide +kernel
theorem dX11_cheapest_26 : decode cX11_cheapest 26 = .ok (.iconst (-1), 1) := by decide +kernel
theorem dX11_cheapest_27 : decode cX11_cheapest 27 = .ok (.ireturn, 1) := by decide +kernel
theorem dX11_cheapest_28 : decode cX11_cheapest 28 = .ok (.aload_n 0, 1) := by decide +kernel
theorem dX11_cheapest_29 : decode cX11_cheapest 29 = .ok (.invokevirtual 268, 3) := by decide +kernel
theorem dX11_cheapest_32 : decode cX11_cheapest 32 = .ok (.aload_n 0, 1) := by decide +kernel
theorem dX11_cheapest_33 : decode cX11_cheapest 33 = .ok (.getfield 83, 3) := by decide +kernel
theorem dX11_cheapest_36 : decode cX11_cheapest 36 = .ok (.aload_n 0, 1) := by decide +kernel
theorem dX11_cheapest_37 : decode cX11_cheapest 37 = .ok (.aload_n 0, 1) := by decide +kernel
theorem dX11_cheapest_38 : decode cX11_cheapest 38 = .ok (.getfield 131, 3) := by decide +kernel
theorem dX11_cheapest_41 : decode cX11_cheapest 41 = .ok (.iload_n 1, 1) := by decide +kernel
theorem dX11_cheapest_42 : decode cX11_cheapest 42 = .ok (.iload_n 2, 1) := by decide +kernel
theorem dX11_cheapest_43 : decode cX11_cheapest 43 = .ok (.iload_n 3, 1) := by decide +kernel
theorem dX11_cheapest_44 : decode cX11_cheapest 44 = .ok (.iload 4, 2) := by decide +kernel
theorem dX11_cheapest_46 : decode cX11_cheapest 46 = .ok (.invokevirtual 217, 3) := by decide +kernel
theorem dX11_cheapest_49 : decode cX11_cheapest 49 = .ok (.iaload, 1) := by decide +kernel
theorem dX11_cheapest_50 : decode cX11_cheapest 50 = .ok (.ireturn, 1) := by decide +kernel
theorem dX11_needed_0 : decode cX11_needed 0 = .ok (.aload_n 0, 1) := by decide +kernel
theorem dX11_needed_1 : decode cX11_needed 1 = .ok (.iload_n 1, 1) := by decide +kernel
theorem dX11_needed_2 : decode cX11_needed 2 = .ok (.invokevirtual 246, 3) := by decide +kernel
theorem dX11_needed_5 : decode cX11_needed 5 = .ok (.ifCond .ne 19, 3) := by decide +kernel
theorem dX11_needed_8 : decode cX11_needed 8 = .ok (.aload_n 0, 1) := by decide +kernel
theorem dX11_needed_9 : decode cX11_needed 9 = .ok (.aload_n 0, 1) := by decide +kernel
theorem dX11_needed_10 : decode cX11_needed 10 = .ok (.getfield 131, 3) := by decide +kernel
theorem dX11_needed_13 : decode cX11_needed 13 = .ok (.iload_n 1, 1) := by decide +kernel
theorem dX11_needed_14 : decode cX11_needed 14 = .ok (.iload_n 2, 1) := by decide +kernel
theorem dX11_needed_15 : decode cX11_needed 15 = .ok (.iload_n 3, 1) := by decide +kernel
theorem dX11_needed_16 : decode cX11_needed 16 = .ok (.iload 4, 2) := by decide +kernel
theorem dX11_needed_18 : decode cX11_needed 18 = .ok (.invokevirtual 249, 3) := by decide +kernel
theorem dX11_needed_21 : decode cX11_needed 21 = .ok (.ifCond .ne 5, 3) := by decide +kernel
theorem dX11_needed_24 : decode cX11_needed 24 = .ok (.iconst 0, 1) := by decide +kernel
theorem dX11_needed_25 : decode cX11_needed 25 = .ok (.ireturn, 1) := by decide +kernel
theorem dX11_needed_26 : decode cX11_needed 26 = .ok (.iconst 0, 1) := by decide +kernel
theorem dX11_needed_27 : decode cX11_needed 27 = .ok (.istore 5, 2) := by decide +kernel
theorem dX11_needed_29 : decode cX11_needed 29 = .ok (.iconst 0, 1) := by decide +kernel
theorem dX11_needed_30 : decode cX11_needed 30 = .ok (.istore 6, 2) := by decide +kernel
theorem dX11_needed_32 : decode cX11_needed 32 = .ok (.iload 6, 2) := by decide +kernel
theorem dX11_needed_34 : decode cX11_needed 34 = .ok (.aload_n 0, 1) := by decide +kernel
theorem dX11_needed_35 : decode cX11_needed 35 = .ok (.getfield 124, 3) := by decide +kernel
theorem dX11_needed_38 : decode cX11_needed 38 = .ok (.if_icmp .ge 61, 3) := by decide +kernel
theorem dX11_needed_41 : decode cX11_needed 41 = .ok (.aload_n 0, 1) := by decide +kernel
theorem dX11_needed_42 : decode cX11_needed 42 = .ok (.iload 6, 2) := by decide +kernel
theorem dX11_needed_44 : decode cX11_needed 44 = .ok (.aload_n 0, 1) := by decide +kernel
theorem dX11_needed_45 : decode cX11_needed 45 = .ok (.getfield 131, 3) := by decide +kernel
theorem dX11_needed_48 : decode cX11_needed 48 = .ok (.iconst 0, 1) := by decide +kernel
theorem dX11_needed_49 : decode cX11_needed 49 = .ok (.invokevirtual 224, 3) := by decide +kernel
theorem dX11_needed_52 : decode cX11_needed 52 = .ok (.ifCond .eq 41, 3) := by decide +kernel
theorem dX11_needed_55 : decode cX11_needed 55 = .ok (.aload_n 0, 1) := by decide +kernel
theorem dX11_needed_56 : decode cX11_needed 56 = .ok (.iconst 4, 1) := by decide +kernel
theorem dX11_needed_57 : decode cX11_needed 57 = .ok (.aload_n 0, 1) := by decide +kernel
theorem dX11_needed_58 : decode cX11_needed 58 = .ok (.getfield 131, 3) := by decide +kernel
theorem dX11_needed_61 : decode cX11_needed 61 = .ok (.iconst 1, 1) := by decide +kernel
theorem dX11_needed_62 : decode cX11_needed 62 = .ok (.iload 6, 2) := by decide +kernel
theorem dX11_needed_64 : decode cX11_needed 64 = .ok (.ishl, 1) := by decide +kernel
theorem dX11_needed_65 : decode cX11_needed 65 = .ok (.invokevirtual 243, 3) := by decide +kernel
theorem dX11_needed_68 : decode cX11_needed 68 = .ok (.ifCond .eq 25, 3) := by decide +kernel
theorem dX11_needed_71 : decode cX11_needed 71 = .ok (.aload_n 0, 1) := by decide +kernel
theorem dX11_needed_72 : decode cX11_needed 72 = .ok (.iconst 4, 1) := by decide +kernel
theorem dX11_needed_73 : decode cX11_needed 73 = .ok (.iload_n 1, 1) := by decide +kernel
theorem dX11_needed_74 : decode cX11_needed 74 = .ok (.iload_n 2, 1) := by decide +kernel
theorem dX11_needed_75 : decode cX11_needed 75 = .ok (.iload_n 3, 1) := by decide +kernel
theorem dX11_needed_76 : decode cX11_needed 76 = .ok (.iload 4, 2) := by decide +kernel
theorem dX11_needed_78 : decode cX11_needed 78 = .ok (.invokevirtual 249, 3) := by decide +kernel
theorem dX11_needed_81 : decode cX11_needed 81 = .ok (.ifCond .ne 12, 3) := by decide +kernel
theorem dX11_needed_84 : decode cX11_needed 84 = .ok (.iload 5, 2) := by decide +kernel
theorem dX11_needed_86 : decode cX11_needed 86 = .ok (.iconst 1, 1) := by decide +kernel
theorem dX11_needed_87 : decode cX11_needed 87 = .ok (.iload 6, 2) := by decide +kernel
theorem dX11_needed_89 : decode cX11_needed 89 = .ok (.ishl, 1) := by decide +kernel
theorem dX11_needed_90 : decode cX11_needed 90 = .ok (.ior, 1) := by decide +kernel
theorem dX11_needed_91 : decode cX11_needed 91 = .ok (.istore 5, 2) := by decide +kernel
theorem dX11_needed_93 : decode cX11_needed 93 = .ok (.iinc 6 1, 3) := by decide +kernel
theorem dX11_needed_96 : decode cX11_needed 96 = .ok (.goto (-64), 3) := by decide +kernel
theorem dX11_needed_99 : decode cX11_needed 99 = .ok (.iload 5, 2) := by decide +kernel
theorem dX11_needed_101 : decode cX11_needed 101 = .ok (.ireturn, 1) := by decide +kernel
theorem dX11_giveHead_0 : decode cX11_giveHead 0 = .ok (.aload_n 0, 1) := by decide +kernel
theorem dX11_giveHead_1 : decode cX11_giveHead 1 = .ok (.getfield 47, 3) := by decide +kernel
theorem dX11_giveHead_4 : decode cX11_giveHead 4 = .ok (.iload_n 1, 1) := by decide +kernel
theorem dX11_giveHead_5 : decode cX11_giveHead 5 = .ok (.iaload, 1) := by decide +kernel
theorem dX11_giveHead_6 : decode cX11_giveHead 6 = .ok (.istore 5, 2) := by decide +kernel
theorem dX11_giveHead_8 : decode cX11_giveHead 8 = .ok (.aload_n 0, 1) := by decide +kernel
theorem dX11_giveHead_9 : decode cX11_giveHead 9 = .ok (.getfield 17, 3) := by decide +kernel
theorem dX11_giveHead_12 : decode cX11_giveHead 12 = .ok (.iload 5, 2) := by decide +kernel
theorem dX11_giveHead_14 : decode cX11_giveHead 14 = .ok (.iaload, 1) := by decide +kernel
theorem dX11_giveHead_15 : decode cX11_giveHead 15 = .ok (.ifCond .ne 13, 3) := by decide +kernel
theorem dX11_giveHead_18 : decode cX11_giveHead 18 = .ok (.aload_n 0, 1) := by decide +kernel
theorem dX11_giveHead_19 : decode cX11_giveHead 19 = .ok (.getfield 13, 3) := by decide +kernel
theorem dX11_giveHead_22 : decode cX11_giveHead 22 = .ok (.iload 5, 2) := by decide +kernel
theorem dX11_giveHead_24 : decode cX11_giveHead 24 = .ok (.iaload, 1) := by decide +kernel
theorem dX11_giveHead_25 : decode cX11_giveHead 25 = .ok (.goto 12, 3) := by decide +kernel
theorem dX11_giveHead_28 : decode cX11_giveHead 28 = .ok (.aload_n 0, 1) := by decide +kernel
theorem dX11_giveHead_29 : decode cX11_giveHead 29 = .ok (.getfield 13, 3) := by decide +kernel
theorem dX11_giveHead_32 : decode cX11_giveHead 32 = .ok (.iload 5, 2) := by decide +kernel
theorem dX11_giveHead_34 : decode cX11_giveHead 34 = .ok (.iaload, 1) := by decide +kernel
theorem dX11_giveHead_35 : decode cX11_giveHead 35 = .ok (.iconst 1, 1) := by decide +kernel
theorem dX11_giveHead_36 : decode cX11_giveHead 36 = .ok (.isub, 1) := by decide +kernel
theorem dX11_giveHead_37 : decode cX11_giveHead 37 = .ok (.istore 6, 2) := by decide +kernel
theorem dX11_giveHead_39 : decode cX11_giveHead 39 = .ok (.iconst 1, 1) := by decide +kernel
theorem dX11_giveHead_40 : decode cX11_giveHead 40 = .ok (.istore 7, 2) := by decide +kernel
theorem dX11_giveHead_42 : decode cX11_giveHead 42 = .ok (.aload_n 0, 1) := by decide +kernel
theorem dX11_giveHead_43 : decode cX11_giveHead 43 = .ok (.invokevirtual 234, 3) := by decide +kernel
theorem dX11_giveHead_46 : decode cX11_giveHead 46 = .ok (.iconst 0, 1) := by decide +kernel
theorem dX11_giveHead_47 : decode cX11_giveHead 47 = .ok (.istore 8, 2) := by decide +kernel
theorem dX11_giveHead_49 : decode cX11_giveHead 49 = .ok (.iload 8, 2) := by decide +kernel
theorem dX11_giveHead_51 : decode cX11_giveHead 51 = .ok (.iload 6, 2) := by decide +kernel
theorem dX11_giveHead_53 : decode cX11_giveHead 53 = .ok (.if_icmp .ge 71, 3) := by decide +kernel
theorem dX11_giveHead_56 : decode cX11_giveHead 56 = .ok (.iload 8, 2) := by decide +kernel
theorem dX11_giveHead_58 : decode cX11_giveHead 58 = .ok (.ifCond .ne 7, 3) := by decide +kernel
theorem dX11_giveHead_61 : decode cX11_giveHead 61 = .ok (.iload_n 2, 1) := by decide +kernel
theorem dX11_giveHead_62 : decode cX11_giveHead 62 = .ok (.goto 15, 3) := by decide +kernel
theorem dX11_giveHead_65 : decode cX11_giveHead 65 = .ok (.iload 8, 2) := by decide +kernel
theorem dX11_giveHead_67 : decode cX11_giveHead 67 = .ok (.iconst 1, 1) := by decide +kernel
theorem dX11_giveHead_68 : decode cX11_giveHead 68 = .ok (.if_icmp .ne 7, 3) := by decide +kernel
theorem dX11_giveHead_71 : decode cX11_giveHead 71 = .ok (.iload_n 3, 1) := by decide +kernel
theorem dX11_giveHead_72 : decode cX11_giveHead 72 = .ok (.goto 5, 3) := by decide +kernel
theorem dX11_giveHead_75 : decode cX11_giveHead 75 = .ok (.iload 4, 2) := by decide +kernel
theorem dX11_giveHead_77 : decode cX11_giveHead 77 = .ok (.istore 9, 2) := by decide +kernel
theorem dX11_giveHead_79 : decode cX11_giveHead 79 = .ok (.iload 7, 2) := by decide +kernel
theorem dX11_giveHead_81 : decode cX11_giveHead 81 = .ok (.ifCond .eq 34, 3) := by decide +kernel
theorem dX11_giveHead_84 : decode cX11_giveHead 84 = .ok (.iload 9, 2) := by decide +kernel
theorem dX11_giveHead_86 : decode cX11_giveHead 86 = .ok (.bipush (-9), 2) := by decide +kernel
theorem dX11_giveHead_88 : decode cX11_giveHead 88 = .ok (.if_icmp .eq 23, 3) := by decide +kernel
theorem dX11_giveHead_91 : decode cX11_giveHead 91 = .ok (.aload_n 0, 1) := by decide +kernel
theorem dX11_giveHead_92 : decode cX11_giveHead 92 = .ok (.aload_n 0, 1) := by decide +kernel
theorem dX11_giveHead_93 : decode cX11_giveHead 93 = .ok (.getfield 50, 3) := by decide +kernel
theorem dX11_giveHead_96 : decode cX11_giveHead 96 = .ok (.iconst 3, 1) := by decide +kernel
theorem dX11_giveHead_97 : decode cX11_giveHead 97 = .ok (.iload_n 1, 1) := by decide +kernel
theorem dX11_giveHead_98 : decode cX11_giveHead 98 = .ok (.imul, 1) := by decide +kernel
theorem dX11_giveHead_99 : decode cX11_giveHead 99 = .ok (.iload 8, 2) := by decide +kernel
theorem dX11_giveHead_101 : decode cX11_giveHead 101 = .ok (.iadd, 1) := by decide +kernel
theorem dX11_giveHead_102 : decode cX11_giveHead 102 = .ok (.iaload, 1) := by decide +kernel
theorem dX11_giveHead_103 : decode cX11_giveHead 103 = .ok (.iload 9, 2) := by decide +kernel
theorem dX11_giveHead_105 : decode cX11_giveHead 105 = .ok (.invokevirtual 271, 3) := by decide +kernel
theorem dX11_giveHead_108 : decode cX11_giveHead 108 = .ok (.ifCond .eq 7, 3) := by decide +kernel
theorem dX11_giveHead_111 : decode cX11_giveHead 111 = .ok (.iconst 1, 1) := by decide +kernel
theorem dX11_giveHead_112 : decode cX11_giveHead 112 = .ok (.goto 4, 3) := by decide +kernel
theorem dX11_giveHead_115 : decode cX11_giveHead 115 = .ok (.iconst 0, 1) := by decide +kernel
theorem dX11_giveHead_116 : decode cX11_giveHead 116 = .ok (.istore 7, 2) := by decide +kernel
theorem dX11_giveHead_118 : decode cX11_giveHead 118 = .ok (.iinc 8 1, 3) := by decide +kernel
theorem dX11_giveHead_121 : decode cX11_giveHead 121 = .ok (.goto (-72), 3) := by decide +kernel
theorem dX11_giveHead_124 : decode cX11_giveHead 124 = .ok (.iload 7, 2) := by decide +kernel
theorem dX11_giveHead_126 : decode cX11_giveHead 126 = .ok (.ireturn, 1) := by decide +kernel
theorem dX11_whyNot_0 : decode cX11_whyNot 0 = .ok (.aload_n 0, 1) := by decide +kernel
theorem dX11_whyNot_1 : decode cX11_whyNot 1 = .ok (.iload_n 1, 1) := by decide +kernel
theorem dX11_whyNot_2 : decode cX11_whyNot 2 = .ok (.invokevirtual 117, 3) := by decide +kernel
theorem dX11_whyNot_5 : decode cX11_whyNot 5 = .ok (.ifCond .eq 20, 3) := by decide +kernel
theorem dX11_whyNot_8 : decode cX11_whyNot 8 = .ok (.aload_n 0, 1) := by decide +kernel
theorem dX11_whyNot_9 : decode cX11_whyNot 9 = .ok (.iload_n 1, 1) := by decide +kernel
theorem dX11_whyNot_10 : decode cX11_whyNot 10 = .ok (.iload_n 2, 1) := by decide +kernel
theorem dX11_whyNot_11 : decode cX11_whyNot 11 = .ok (.iload_n 3, 1) := by decide +kernel
theorem dX11_whyNot_12 : decode cX11_whyNot 12 = .ok (.iload 4, 2) := by decide +kernel
theorem dX11_whyNot_14 : decode cX11_whyNot 14 = .ok (.iconst 0, 1) := by decide +kernel
theorem dX11_whyNot_15 : decode cX11_whyNot 15 = .ok (.invokevirtual 120, 3) := by decide +kernel
theorem dX11_whyNot_18 : decode cX11_whyNot 18 = .ok (.ifCond .eq 7, 3) := by decide +kernel
theorem dX11_whyNot_21 : decode cX11_whyNot 21 = .ok (.iconst 1, 1) := by decide +kernel
theorem dX11_whyNot_22 : decode cX11_whyNot 22 = .ok (.goto 4, 3) := by decide +kernel
theorem dX11_whyNot_25 : decode cX11_whyNot 25 = .ok (.iconst 0, 1) := by decide +kernel
theorem dX11_whyNot_26 : decode cX11_whyNot 26 = .ok (.istore 5, 2) := by decide +kernel
theorem dX11_whyNot_28 : decode cX11_whyNot 28 = .ok (.aload_n 0, 1) := by decide +kernel
theorem dX11_whyNot_29 : decode cX11_whyNot 29 = .ok (.aload_n 0, 1) := by decide +kernel
theorem dX11_whyNot_30 : decode cX11_whyNot 30 = .ok (.iload_n 1, 1) := by decide +kernel
theorem dX11_whyNot_31 : decode cX11_whyNot 31 = .ok (.invokevirtual 117, 3) := by decide +kernel
theorem dX11_whyNot_34 : decode cX11_whyNot 34 = .ok (.ifCond .ne 7, 3) := by decide +kernel
theorem dX11_whyNot_37 : decode cX11_whyNot 37 = .ok (.iconst 1, 1) := by decide +kernel
theorem dX11_whyNot_38 : decode cX11_whyNot 38 = .ok (.goto 33, 3) := by decide +kernel
theorem dX11_whyNot_41 : decode cX11_whyNot 41 = .ok (.iload 5, 2) := by decide +kernel
theorem dX11_whyNot_43 : decode cX11_whyNot 43 = .ok (.ifCond .ne 7, 3) := by decide +kernel
theorem dX11_whyNot_46 : decode cX11_whyNot 46 = .ok (.iconst 2, 1) := by decide +kernel
theorem dX11_whyNot_47 : decode cX11_whyNot 47 = .ok (.goto 24, 3) := by decide +kernel
theorem dX11_whyNot_50 : decode cX11_whyNot 50 = .ok (.aload_n 0, 1) := by decide +kernel
theorem dX11_whyNot_51 : decode cX11_whyNot 51 = .ok (.aload_n 0, 1) := by decide +kernel
theorem dX11_whyNot_52 : decode cX11_whyNot 52 = .ok (.getfield 131, 3) := by decide +kernel
theorem dX11_whyNot_55 : decode cX11_whyNot 55 = .ok (.iload_n 1, 1) := by decide +kernel
theorem dX11_whyNot_56 : decode cX11_whyNot 56 = .ok (.iload_n 2, 1) := by decide +kernel
theorem dX11_whyNot_57 : decode cX11_whyNot 57 = .ok (.iload_n 3, 1) := by decide +kernel
theorem dX11_whyNot_58 : decode cX11_whyNot 58 = .ok (.iload 4, 2) := by decide +kernel
theorem dX11_whyNot_60 : decode cX11_whyNot 60 = .ok (.invokevirtual 249, 3) := by decide +kernel
theorem dX11_whyNot_63 : decode cX11_whyNot 63 = .ok (.ifCond .eq 7, 3) := by decide +kernel
theorem dX11_whyNot_66 : decode cX11_whyNot 66 = .ok (.iconst 3, 1) := by decide +kernel
theorem dX11_whyNot_67 : decode cX11_whyNot 67 = .ok (.goto 4, 3) := by decide +kernel
theorem dX11_whyNot_70 : decode cX11_whyNot 70 = .ok (.iconst 0, 1) := by decide +kernel
theorem dX11_whyNot_71 : decode cX11_whyNot 71 = .ok (.invokevirtual 113, 3) := by decide +kernel
theorem dX11_whyNot_74 : decode cX11_whyNot 74 = .ok (.ifCond .eq 5, 3) := by decide +kernel
theorem dX11_whyNot_77 : decode cX11_whyNot 77 = .ok (.iconst 0, 1) := by decide +kernel
theorem dX11_whyNot_78 : decode cX11_whyNot 78 = .ok (.ireturn, 1) := by decide +kernel
theorem dX11_whyNot_79 : decode cX11_whyNot 79 = .ok (.iconst (-1), 1) := by decide +kernel
theorem dX11_whyNot_80 : decode cX11_whyNot 80 = .ok (.istore 6, 2) := by decide +kernel
theorem dX11_whyNot_82 : decode cX11_whyNot 82 = .ok (.iconst (-1), 1) := by decide +kernel
theorem dX11_whyNot_83 : decode cX11_whyNot 83 = .ok (.istore 7, 2) := by decide +kernel
theorem dX11_whyNot_85 : decode cX11_whyNot 85 = .ok (.iconst 0, 1) := by decide +kernel
theorem dX11_whyNot_86 : decode cX11_whyNot 86 = .ok (.istore 8, 2) := by decide +kernel
theorem dX11_whyNot_88 : decode cX11_whyNot 88 = .ok (.iload 8, 2) := by decide +kernel
theorem dX11_whyNot_90 : decode cX11_whyNot 90 = .ok (.aload_n 0, 1) := by decide +kernel
theorem dX11_whyNot_91 : decode cX11_whyNot 91 = .ok (.getfield 159, 3) := by decide +kernel
theorem dX11_whyNot_94 : decode cX11_whyNot 94 = .ok (.if_icmp .ge 126, 3) := by decide +kernel
theorem dX11_whyNot_97 : decode cX11_whyNot 97 = .ok (.aload_n 0, 1) := by decide +kernel
theorem dX11_whyNot_98 : decode cX11_whyNot 98 = .ok (.getfield 44, 3) := by decide +kernel
theorem dX11_whyNot_101 : decode cX11_whyNot 101 = .ok (.iload 8, 2) := by decide +kernel
theorem dX11_whyNot_103 : decode cX11_whyNot 103 = .ok (.baload, 1) := by decide +kernel
theorem dX11_whyNot_104 : decode cX11_whyNot 104 = .ok (.ifCond .ne 110, 3) := by decide +kernel
theorem dX11_whyNot_107 : decode cX11_whyNot 107 = .ok (.aload_n 0, 1) := by decide +kernel
theorem dX11_whyNot_108 : decode cX11_whyNot 108 = .ok (.getfield 47, 3) := by decide +kernel
theorem dX11_whyNot_111 : decode cX11_whyNot 111 = .ok (.iload 8, 2) := by decide +kernel
theorem dX11_whyNot_113 : decode cX11_whyNot 113 = .ok (.iaload, 1) := by decide +kernel
theorem dX11_whyNot_114 : decode cX11_whyNot 114 = .ok (.iload_n 1, 1) := by decide +kernel
theorem dX11_whyNot_115 : decode cX11_whyNot 115 = .ok (.if_icmp .ne 99, 3) := by decide +kernel
theorem dX11_whyNot_118 : decode cX11_whyNot 118 = .ok (.aload_n 0, 1) := by decide +kernel
theorem dX11_whyNot_119 : decode cX11_whyNot 119 = .ok (.iload 8, 2) := by decide +kernel
theorem dX11_whyNot_121 : decode cX11_whyNot 121 = .ok (.iload_n 2, 1) := by decide +kernel
theorem dX11_whyNot_122 : decode cX11_whyNot 122 = .ok (.iload_n 3, 1) := by decide +kernel
theorem dX11_whyNot_123 : decode cX11_whyNot 123 = .ok (.iload 4, 2) := by decide +kernel
theorem dX11_whyNot_125 : decode cX11_whyNot 125 = .ok (.invokevirtual 274, 3) := by decide +kernel
theorem dX11_whyNot_128 : decode cX11_whyNot 128 = .ok (.ifCond .eq 86, 3) := by decide +kernel
theorem dX11_whyNot_131 : decode cX11_whyNot 131 = .ok (.iconst 0, 1) := by decide +kernel
theorem dX11_whyNot_132 : decode cX11_whyNot 132 = .ok (.istore 9, 2) := by decide +kernel
theorem dX11_whyNot_134 : decode cX11_whyNot 134 = .ok (.iload 9, 2) := by decide +kernel
theorem dX11_whyNot_136 : decode cX11_whyNot 136 = .ok (.aload_n 0, 1) := by decide +kernel
theorem dX11_whyNot_137 : decode cX11_whyNot 137 = .ok (.getfield 53, 3) := by decide +kernel
theorem dX11_whyNot_140 : decode cX11_whyNot 140 = .ok (.iload 8, 2) := by decide +kernel
theorem dX11_whyNot_142 : decode cX11_whyNot 142 = .ok (.iaload, 1) := by decide +kernel
theorem dX11_whyNot_143 : decode cX11_whyNot 143 = .ok (.if_icmp .ge 39, 3) := by decide +kernel
theorem dX11_whyNot_146 : decode cX11_whyNot 146 = .ok (.aload_n 0, 1) := by decide +kernel
theorem dX11_whyNot_147 : decode cX11_whyNot 147 = .ok (.iload 8, 2) := by decide +kernel
theorem dX11_whyNot_149 : decode cX11_whyNot 149 = .ok (.iload_n 2, 1) := by decide +kernel
theorem dX11_whyNot_150 : decode cX11_whyNot 150 = .ok (.iload_n 3, 1) := by decide +kernel
theorem dX11_whyNot_151 : decode cX11_whyNot 151 = .ok (.iload 4, 2) := by decide +kernel
theorem dX11_whyNot_153 : decode cX11_whyNot 153 = .ok (.invokevirtual 274, 3) := by decide +kernel
theorem dX11_whyNot_156 : decode cX11_whyNot 156 = .ok (.ifCond .eq 26, 3) := by decide +kernel
theorem dX11_whyNot_159 : decode cX11_whyNot 159 = .ok (.aload_n 0, 1) := by decide +kernel
theorem dX11_whyNot_160 : decode cX11_whyNot 160 = .ok (.iload 8, 2) := by decide +kernel
theorem dX11_whyNot_162 : decode cX11_whyNot 162 = .ok (.iload 9, 2) := by decide +kernel
theorem dX11_whyNot_164 : decode cX11_whyNot 164 = .ok (.iconst 1, 1) := by decide +kernel
theorem dX11_whyNot_165 : decode cX11_whyNot 165 = .ok (.iadd, 1) := by decide +kernel
theorem dX11_whyNot_166 : decode cX11_whyNot 166 = .ok (.aload_n 0, 1) := by decide +kernel
theorem dX11_whyNot_167 : decode cX11_whyNot 167 = .ok (.getfield 131, 3) := by decide +kernel
theorem dX11_whyNot_170 : decode cX11_whyNot 170 = .ok (.invokevirtual 237, 3) := by decide +kernel
theorem dX11_whyNot_173 : decode cX11_whyNot 173 = .ok (.ifCond .eq 9, 3) := by decide +kernel
theorem dX11_whyNot_176 : decode cX11_whyNot 176 = .ok (.iinc 9 1, 3) := by decide +kernel
theorem dX11_whyNot_179 : decode cX11_whyNot 179 = .ok (.goto (-45), 3) := by decide +kernel
theorem dX11_whyNot_182 : decode cX11_whyNot 182 = .ok (.iload 9, 2) := by decide +kernel
theorem dX11_whyNot_184 : decode cX11_whyNot 184 = .ok (.iload 7, 2) := by decide +kernel
theorem dX11_whyNot_186 : decode cX11_whyNot 186 = .ok (.if_icmp .le 8, 3) := by decide +kernel
theorem dX11_whyNot_189 : decode cX11_whyNot 189 = .ok (.iload 8, 2) := by decide +kernel
theorem dX11_whyNot_191 : decode cX11_whyNot 191 = .ok (.goto 5, 3) := by decide +kernel
theorem dX11_whyNot_194 : decode cX11_whyNot 194 = .ok (.iload 6, 2) := by decide +kernel
theorem dX11_whyNot_196 : decode cX11_whyNot 196 = .ok (.istore 6, 2) := by decide +kernel
theorem dX11_whyNot_198 : decode cX11_whyNot 198 = .ok (.iload 9, 2) := by decide +kernel
theorem dX11_whyNot_200 : decode cX11_whyNot 200 = .ok (.iload 7, 2) := by decide +kernel
theorem dX11_whyNot_202 : decode cX11_whyNot 202 = .ok (.if_icmp .le 8, 3) := by decide +kernel
theorem dX11_whyNot_205 : decode cX11_whyNot 205 = .ok (.iload 9, 2) := by decide +kernel
theorem dX11_whyNot_207 : decode cX11_whyNot 207 = .ok (.goto 5, 3) := by decide +kernel
theorem dX11_whyNot_210 : decode cX11_whyNot 210 = .ok (.iload 7, 2) := by decide +kernel
theorem dX11_whyNot_212 : decode cX11_whyNot 212 = .ok (.istore 7, 2) := by decide +kernel
theorem dX11_whyNot_214 : decode cX11_whyNot 214 = .ok (.iinc 8 1, 3) := by decide +kernel
theorem dX11_whyNot_217 : decode cX11_whyNot 217 = .ok (.goto (-129), 3) := by decide +kernel
theorem dX11_whyNot_220 : decode cX11_whyNot 220 = .ok (.iload 6, 2) := by decide +kernel
theorem dX11_whyNot_222 : decode cX11_whyNot 222 = .ok (.iconst (-1), 1) := by decide +kernel
theorem dX11_whyNot_223 : decode cX11_whyNot 223 = .ok (.if_icmp .ne 7, 3) := by decide +kernel
theorem dX11_whyNot_226 : decode cX11_whyNot 226 = .ok (.iconst (-1), 1) := by decide +kernel
theorem dX11_whyNot_227 : decode cX11_whyNot 227 = .ok (.goto 11, 3) := by decide +kernel
theorem dX11_whyNot_230 : decode cX11_whyNot 230 = .ok (.bipush 10, 2) := by decide +kernel
theorem dX11_whyNot_232 : decode cX11_whyNot 232 = .ok (.iload 6, 2) := by decide +kernel
theorem dX11_whyNot_234 : decode cX11_whyNot 234 = .ok (.imul, 1) := by decide +kernel
theorem dX11_whyNot_235 : decode cX11_whyNot 235 = .ok (.iload 7, 2) := by decide +kernel
theorem dX11_whyNot_237 : decode cX11_whyNot 237 = .ok (.iadd, 1) := by decide +kernel
theorem dX11_whyNot_238 : decode cX11_whyNot 238 = .ok (.ireturn, 1) := by decide +kernel
theorem dX11_isKeyBroken_0 : decode cX11_isKeyBroken 0 = .ok (.iconst 0, 1) := by decide +kernel
theorem dX11_isKeyBroken_1 : decode cX11_isKeyBroken 1 = .ok (.istore_n 3, 1) := by decide +kernel
theorem dX11_isKeyBroken_2 : decode cX11_isKeyBroken 2 = .ok (.iconst 0, 1) := by decide +kernel
theorem dX11_isKeyBroken_3 : decode cX11_isKeyBroken 3 = .ok (.istore 4, 2) := by decide +kernel
theorem dX11_isKeyBroken_5 : decode cX11_isKeyBroken 5 = .ok (.iload 4, 2) := by decide +kernel
theorem dX11_isKeyBroken_7 : decode cX11_isKeyBroken 7 = .ok (.aload_n 0, 1) := by decide +kernel
theorem dX11_isKeyBroken_8 : decode cX11_isKeyBroken 8 = .ok (.getfield 65, 3) := by decide +kernel
theorem dX11_isKeyBroken_11 : decode cX11_isKeyBroken 11 = .ok (.iload_n 1, 1) := by decide +kernel
theorem dX11_isKeyBroken_12 : decode cX11_isKeyBroken 12 = .ok (.iaload, 1) := by decide +kernel
theorem dX11_isKeyBroken_13 : decode cX11_isKeyBroken 13 = .ok (.if_icmp .ge 146, 3) := by decide +kernel
theorem dX11_isKeyBroken_16 : decode cX11_isKeyBroken 16 = .ok (.iconst 0, 1) := by decide +kernel
theorem dX11_isKeyBroken_17 : decode cX11_isKeyBroken 17 = .ok (.istore 5, 2) := by decide +kernel
theorem dX11_isKeyBroken_19 : decode cX11_isKeyBroken 19 = .ok (.iload 5, 2) := by decide +kernel
theorem dX11_isKeyBroken_21 : decode cX11_isKeyBroken 21 = .ok (.iload 4, 2) := by decide +kernel
theorem dX11_isKeyBroken_23 : decode cX11_isKeyBroken 23 = .ok (.if_icmp .ge 130, 3) := by decide +kernel
theorem dX11_isKeyBroken_26 : decode cX11_isKeyBroken 26 = .ok (.bipush 50, 2) := by decide +kernel
theorem dX11_isKeyBroken_28 : decode cX11_isKeyBroken 28 = .ok (.iload_n 1, 1) := by decide +kernel
theorem dX11_isKeyBroken_29 : decode cX11_isKeyBroken 29 = .ok (.imul, 1) := by decide +kernel
theorem dX11_isKeyBroken_30 : decode cX11_isKeyBroken 30 = .ok (.iload 4, 2) := by decide +kernel
theorem dX11_isKeyBroken_32 : decode cX11_isKeyBroken 32 = .ok (.iadd, 1) := by decide +kernel
theorem dX11_isKeyBroken_33 : decode cX11_isKeyBroken 33 = .ok (.istore 6, 2) := by decide +kernel
theorem dX11_isKeyBroken_35 : decode cX11_isKeyBroken 35 = .ok (.bipush 50, 2) := by decide +kernel
theorem dX11_isKeyBroken_37 : decode cX11_isKeyBroken 37 = .ok (.iload_n 1, 1) := by decide +kernel
theorem dX11_isKeyBroken_38 : decode cX11_isKeyBroken 38 = .ok (.imul, 1) := by decide +kernel
theorem dX11_isKeyBroken_39 : decode cX11_isKeyBroken 39 = .ok (.iload 5, 2) := by decide +kernel
theorem dX11_isKeyBroken_41 : decode cX11_isKeyBroken 41 = .ok (.iadd, 1) := by decide +kernel
theorem dX11_isKeyBroken_42 : decode cX11_isKeyBroken 42 = .ok (.istore 7, 2) := by decide +kernel
theorem dX11_isKeyBroken_44 : decode cX11_isKeyBroken 44 = .ok (.aload_n 0, 1) := by decide +kernel
theorem dX11_isKeyBroken_45 : decode cX11_isKeyBroken 45 = .ok (.getfield 68, 3) := by decide +kernel
theorem dX11_isKeyBroken_48 : decode cX11_isKeyBroken 48 = .ok (.iload 6, 2) := by decide +kernel
theorem dX11_isKeyBroken_50 : decode cX11_isKeyBroken 50 = .ok (.iaload, 1) := by decide +kernel
theorem dX11_isKeyBroken_51 : decode cX11_isKeyBroken 51 = .ok (.iload_n 2, 1) := by decide +kernel
theorem dX11_isKeyBroken_52 : decode cX11_isKeyBroken 52 = .ok (.if_icmp .ne 18, 3) := by decide +kernel
theorem dX11_isKeyBroken_55 : decode cX11_isKeyBroken 55 = .ok (.aload_n 0, 1) := by decide +kernel
theorem dX11_isKeyBroken_56 : decode cX11_isKeyBroken 56 = .ok (.getfield 68, 3) := by decide +kernel
theorem dX11_isKeyBroken_59 : decode cX11_isKeyBroken 59 = .ok (.iload 7, 2) := by decide +kernel
theorem dX11_isKeyBroken_61 : decode cX11_isKeyBroken 61 = .ok (.iaload, 1) := by decide +kernel
theorem dX11_isKeyBroken_62 : decode cX11_isKeyBroken 62 = .ok (.iload_n 2, 1) := by decide +kernel
theorem dX11_isKeyBroken_63 : decode cX11_isKeyBroken 63 = .ok (.if_icmp .ne 7, 3) := by decide +kernel
theorem dX11_isKeyBroken_66 : decode cX11_isKeyBroken 66 = .ok (.iconst 1, 1) := by decide +kernel
theorem dX11_isKeyBroken_67 : decode cX11_isKeyBroken 67 = .ok (.goto 4, 3) := by decide +kernel
theorem dX11_isKeyBroken_70 : decode cX11_isKeyBroken 70 = .ok (.iconst 0, 1) := by decide +kernel
theorem dX11_isKeyBroken_71 : decode cX11_isKeyBroken 71 = .ok (.istore 8, 2) := by decide +kernel
theorem dX11_isKeyBroken_73 : decode cX11_isKeyBroken 73 = .ok (.iconst 0, 1) := by decide +kernel
theorem dX11_isKeyBroken_74 : decode cX11_isKeyBroken 74 = .ok (.istore 9, 2) := by decide +kernel
theorem dX11_isKeyBroken_76 : decode cX11_isKeyBroken 76 = .ok (.iload 9, 2) := by decide +kernel
theorem dX11_isKeyBroken_78 : decode cX11_isKeyBroken 78 = .ok (.aload_n 0, 1) := by decide +kernel
theorem dX11_isKeyBroken_79 : decode cX11_isKeyBroken 79 = .ok (.getfield 20, 3) := by decide +kernel
theorem dX11_isKeyBroken_82 : decode cX11_isKeyBroken 82 = .ok (.iload_n 2, 1) := by decide +kernel
theorem dX11_isKeyBroken_83 : decode cX11_isKeyBroken 83 = .ok (.iaload, 1) := by decide +kernel
theorem dX11_isKeyBroken_84 : decode cX11_isKeyBroken 84 = .ok (.if_icmp .ge 48, 3) := by decide +kernel
theorem dX11_isKeyBroken_87 : decode cX11_isKeyBroken 87 = .ok (.iload 8, 2) := by decide +kernel
theorem dX11_isKeyBroken_89 : decode cX11_isKeyBroken 89 = .ok (.ifCond .eq 34, 3) := by decide +kernel
theorem dX11_isKeyBroken_92 : decode cX11_isKeyBroken 92 = .ok (.aload_n 0, 1) := by decide +kernel
theorem dX11_isKeyBroken_93 : decode cX11_isKeyBroken 93 = .ok (.getfield 71, 3) := by decide +kernel
theorem dX11_isKeyBroken_96 : decode cX11_isKeyBroken 96 = .ok (.iconst 3, 1) := by decide +kernel
theorem dX11_isKeyBroken_97 : decode cX11_isKeyBroken 97 = .ok (.iload 6, 2) := by decide +kernel
theorem dX11_isKeyBroken_99 : decode cX11_isKeyBroken 99 = .ok (.imul, 1) := by decide +kernel
theorem dX11_isKeyBroken_100 : decode cX11_isKeyBroken 100 = .ok (.iload 9, 2) := by decide +kernel
theorem dX11_isKeyBroken_102 : decode cX11_isKeyBroken 102 = .ok (.iadd, 1) := by decide +kernel
theorem dX11_isKeyBroken_103 : decode cX11_isKeyBroken 103 = .ok (.iaload, 1) := by decide +kernel
theorem dX11_isKeyBroken_104 : decode cX11_isKeyBroken 104 = .ok (.aload_n 0, 1) := by decide +kernel
theorem dX11_isKeyBroken_105 : decode cX11_isKeyBroken 105 = .ok (.getfield 71, 3) := by decide +kernel
theorem dX11_isKeyBroken_108 : decode cX11_isKeyBroken 108 = .ok (.iconst 3, 1) := by decide +kernel
theorem dX11_isKeyBroken_109 : decode cX11_isKeyBroken 109 = .ok (.iload 7, 2) := by decide +kernel
theorem dX11_isKeyBroken_111 : decode cX11_isKeyBroken 111 = .ok (.imul, 1) := by decide +kernel
theorem dX11_isKeyBroken_112 : decode cX11_isKeyBroken 112 = .ok (.iload 9, 2) := by decide +kernel
theorem dX11_isKeyBroken_114 : decode cX11_isKeyBroken 114 = .ok (.iadd, 1) := by decide +kernel
theorem dX11_isKeyBroken_115 : decode cX11_isKeyBroken 115 = .ok (.iaload, 1) := by decide +kernel
theorem dX11_isKeyBroken_116 : decode cX11_isKeyBroken 116 = .ok (.if_icmp .ne 7, 3) := by decide +kernel
theorem dX11_isKeyBroken_119 : decode cX11_isKeyBroken 119 = .ok (.iconst 1, 1) := by decide +kernel
theorem dX11_isKeyBroken_120 : decode cX11_isKeyBroken 120 = .ok (.goto 4, 3) := by decide +kernel
theorem dX11_isKeyBroken_123 : decode cX11_isKeyBroken 123 = .ok (.iconst 0, 1) := by decide +kernel
theorem dX11_isKeyBroken_124 : decode cX11_isKeyBroken 124 = .ok (.istore 8, 2) := by decide +kernel
theorem dX11_isKeyBroken_126 : decode cX11_isKeyBroken 126 = .ok (.iinc 9 1, 3) := by decide +kernel
theorem dX11_isKeyBroken_129 : decode cX11_isKeyBroken 129 = .ok (.goto (-53), 3) := by decide +kernel
theorem dX11_isKeyBroken_132 : decode cX11_isKeyBroken 132 = .ok (.iload_n 3, 1) := by decide +kernel
theorem dX11_isKeyBroken_133 : decode cX11_isKeyBroken 133 = .ok (.ifCond .ne 8, 3) := by decide +kernel
theorem dX11_isKeyBroken_136 : decode cX11_isKeyBroken 136 = .ok (.iload 8, 2) := by decide +kernel
theorem dX11_isKeyBroken_138 : decode cX11_isKeyBroken 138 = .ok (.ifCond .eq 7, 3) := by decide +kernel
theorem dX11_isKeyBroken_141 : decode cX11_isKeyBroken 141 = .ok (.iconst 1, 1) := by decide +kernel
theorem dX11_isKeyBroken_142 : decode cX11_isKeyBroken 142 = .ok (.goto 4, 3) := by decide +kernel
theorem dX11_isKeyBroken_145 : decode cX11_isKeyBroken 145 = .ok (.iconst 0, 1) := by decide +kernel
theorem dX11_isKeyBroken_146 : decode cX11_isKeyBroken 146 = .ok (.istore_n 3, 1) := by decide +kernel
theorem dX11_isKeyBroken_147 : decode cX11_isKeyBroken 147 = .ok (.iinc 5 1, 3) := by decide +kernel
theorem dX11_isKeyBroken_150 : decode cX11_isKeyBroken 150 = .ok (.goto (-131), 3) := by decide +kernel
theorem dX11_isKeyBroken_153 : decode cX11_isKeyBroken 153 = .ok (.iinc 4 1, 3) := by decide +kernel
theorem dX11_isKeyBroken_156 : decode cX11_isKeyBroken 156 = .ok (.goto (-151), 3) := by decide +kernel
theorem dX11_isKeyBroken_159 : decode cX11_isKeyBroken 159 = .ok (.iload_n 3, 1) := by decide +kernel
theorem dX11_isKeyBroken_160 : decode cX11_isKeyBroken 160 = .ok (.ireturn, 1) := by decide +kernel
theorem dX11_brokenIn_0 : decode cX11_brokenIn 0 = .ok (.iconst 0, 1) := by decide +kernel
theorem dX11_brokenIn_1 : decode cX11_brokenIn 1 = .ok (.istore_n 2, 1) := by decide +kernel
theorem dX11_brokenIn_2 : decode cX11_brokenIn 2 = .ok (.bipush 12, 2) := by decide +kernel
theorem dX11_brokenIn_4 : decode cX11_brokenIn 4 = .ok (.istore_n 3, 1) := by decide +kernel
theorem dX11_brokenIn_5 : decode cX11_brokenIn 5 = .ok (.iload_n 3, 1) := by decide +kernel
theorem dX11_brokenIn_6 : decode cX11_brokenIn 6 = .ok (.bipush 12, 2) := by decide +kernel
theorem dX11_brokenIn_8 : decode cX11_brokenIn 8 = .ok (.aload_n 0, 1) := by decide +kernel
theorem dX11_brokenIn_9 : decode cX11_brokenIn 9 = .ok (.getfield 172, 3) := by decide +kernel
theorem dX11_brokenIn_12 : decode cX11_brokenIn 12 = .ok (.iadd, 1) := by decide +kernel
theorem dX11_brokenIn_13 : decode cX11_brokenIn 13 = .ok (.if_icmp .ge 36, 3) := by decide +kernel
theorem dX11_brokenIn_16 : decode cX11_brokenIn 16 = .ok (.aload_n 0, 1) := by decide +kernel
theorem dX11_brokenIn_17 : decode cX11_brokenIn 17 = .ok (.invokevirtual 234, 3) := by decide +kernel
theorem dX11_brokenIn_20 : decode cX11_brokenIn 20 = .ok (.iload_n 2, 1) := by decide +kernel
theorem dX11_brokenIn_21 : decode cX11_brokenIn 21 = .ok (.aload_n 0, 1) := by decide +kernel
theorem dX11_brokenIn_22 : decode cX11_brokenIn 22 = .ok (.iload_n 3, 1) := by decide +kernel
theorem dX11_brokenIn_23 : decode cX11_brokenIn 23 = .ok (.aload_n 0, 1) := by decide +kernel
theorem dX11_brokenIn_24 : decode cX11_brokenIn 24 = .ok (.getfield 53, 3) := by decide +kernel
theorem dX11_brokenIn_27 : decode cX11_brokenIn 27 = .ok (.iload_n 3, 1) := by decide +kernel
theorem dX11_brokenIn_28 : decode cX11_brokenIn 28 = .ok (.iaload, 1) := by decide +kernel
theorem dX11_brokenIn_29 : decode cX11_brokenIn 29 = .ok (.iload_n 1, 1) := by decide +kernel
theorem dX11_brokenIn_30 : decode cX11_brokenIn 30 = .ok (.invokevirtual 237, 3) := by decide +kernel
theorem dX11_brokenIn_33 : decode cX11_brokenIn 33 = .ok (.ifCond .eq 7, 3) := by decide +kernel
theorem dX11_brokenIn_36 : decode cX11_brokenIn 36 = .ok (.iconst 1, 1) := by decide +kernel
theorem dX11_brokenIn_37 : decode cX11_brokenIn 37 = .ok (.goto 4, 3) := by decide +kernel
theorem dX11_brokenIn_40 : decode cX11_brokenIn 40 = .ok (.iconst 0, 1) := by decide +kernel
theorem dX11_brokenIn_41 : decode cX11_brokenIn 41 = .ok (.iadd, 1) := by decide +kernel
theorem dX11_brokenIn_42 : decode cX11_brokenIn 42 = .ok (.istore_n 2, 1) := by decide +kernel
theorem dX11_brokenIn_43 : decode cX11_brokenIn 43 = .ok (.iinc 3 1, 3) := by decide +kernel
theorem dX11_brokenIn_46 : decode cX11_brokenIn 46 = .ok (.goto (-41), 3) := by decide +kernel
theorem dX11_brokenIn_49 : decode cX11_brokenIn 49 = .ok (.iconst 0, 1) := by decide +kernel
theorem dX11_brokenIn_50 : decode cX11_brokenIn 50 = .ok (.istore_n 3, 1) := by decide +kernel
theorem dX11_brokenIn_51 : decode cX11_brokenIn 51 = .ok (.iload_n 3, 1) := by decide +kernel
theorem dX11_brokenIn_52 : decode cX11_brokenIn 52 = .ok (.bipush 10, 2) := by decide +kernel
theorem dX11_brokenIn_54 : decode cX11_brokenIn 54 = .ok (.if_icmp .ge 44, 3) := by decide +kernel
theorem dX11_brokenIn_57 : decode cX11_brokenIn 57 = .ok (.iload_n 2, 1) := by decide +kernel
theorem dX11_brokenIn_58 : decode cX11_brokenIn 58 = .ok (.aload_n 0, 1) := by decide +kernel
theorem dX11_brokenIn_59 : decode cX11_brokenIn 59 = .ok (.getfield 7, 3) := by decide +kernel
theorem dX11_brokenIn_62 : decode cX11_brokenIn 62 = .ok (.iload_n 3, 1) := by decide +kernel
theorem dX11_brokenIn_63 : decode cX11_brokenIn 63 = .ok (.baload, 1) := by decide +kernel
theorem dX11_brokenIn_64 : decode cX11_brokenIn 64 = .ok (.ifCond .eq 25, 3) := by decide +kernel
theorem dX11_brokenIn_67 : decode cX11_brokenIn 67 = .ok (.aload_n 0, 1) := by decide +kernel
theorem dX11_brokenIn_68 : decode cX11_brokenIn 68 = .ok (.getfield 17, 3) := by decide +kernel
theorem dX11_brokenIn_71 : decode cX11_brokenIn 71 = .ok (.iload_n 3, 1) := by decide +kernel
theorem dX11_brokenIn_72 : decode cX11_brokenIn 72 = .ok (.iaload, 1) := by decide +kernel
theorem dX11_brokenIn_73 : decode cX11_brokenIn 73 = .ok (.ifCond .ne 16, 3) := by decide +kernel
theorem dX11_brokenIn_76 : decode cX11_brokenIn 76 = .ok (.aload_n 0, 1) := by decide +kernel
theorem dX11_brokenIn_77 : decode cX11_brokenIn 77 = .ok (.iload_n 1, 1) := by decide +kernel
theorem dX11_brokenIn_78 : decode cX11_brokenIn 78 = .ok (.iload_n 3, 1) := by decide +kernel
theorem dX11_brokenIn_79 : decode cX11_brokenIn 79 = .ok (.invokevirtual 277, 3) := by decide +kernel
theorem dX11_brokenIn_82 : decode cX11_brokenIn 82 = .ok (.ifCond .eq 7, 3) := by decide +kernel
theorem dX11_brokenIn_85 : decode cX11_brokenIn 85 = .ok (.iconst 1, 1) := by decide +kernel
theorem dX11_brokenIn_86 : decode cX11_brokenIn 86 = .ok (.goto 4, 3) := by decide +kernel
theorem dX11_brokenIn_89 : decode cX11_brokenIn 89 = .ok (.iconst 0, 1) := by decide +kernel
theorem dX11_brokenIn_90 : decode cX11_brokenIn 90 = .ok (.iadd, 1) := by decide +kernel
theorem dX11_brokenIn_91 : decode cX11_brokenIn 91 = .ok (.istore_n 2, 1) := by decide +kernel
theorem dX11_brokenIn_92 : decode cX11_brokenIn 92 = .ok (.iinc 3 1, 3) := by decide +kernel
theorem dX11_brokenIn_95 : decode cX11_brokenIn 95 = .ok (.goto (-44), 3) := by decide +kernel
theorem dX11_brokenIn_98 : decode cX11_brokenIn 98 = .ok (.iload_n 2, 1) := by decide +kernel
theorem dX11_brokenIn_99 : decode cX11_brokenIn 99 = .ok (.ireturn, 1) := by decide +kernel
theorem dX11_broken_0 : decode cX11_broken 0 = .ok (.aload_n 0, 1) := by decide +kernel
theorem dX11_broken_1 : decode cX11_broken 1 = .ok (.aload_n 0, 1) := by decide +kernel
theorem dX11_broken_2 : decode cX11_broken 2 = .ok (.aload_n 0, 1) := by decide +kernel
theorem dX11_broken_3 : decode cX11_broken 3 = .ok (.getfield 131, 3) := by decide +kernel
theorem dX11_broken_6 : decode cX11_broken 6 = .ok (.invokevirtual 280, 3) := by decide +kernel
theorem dX11_broken_9 : decode cX11_broken 9 = .ok (.invokevirtual 149, 3) := by decide +kernel
theorem dX11_broken_12 : decode cX11_broken 12 = .ok (.ireturn, 1) := by decide +kernel
theorem dX11_repairs_0 : decode cX11_repairs 0 = .ok (.aload_n 0, 1) := by decide +kernel
theorem dX11_repairs_1 : decode cX11_repairs 1 = .ok (.iconst 4, 1) := by decide +kernel
theorem dX11_repairs_2 : decode cX11_repairs 2 = .ok (.aload_n 0, 1) := by decide +kernel
theorem dX11_repairs_3 : decode cX11_repairs 3 = .ok (.getfield 131, 3) := by decide +kernel
theorem dX11_repairs_6 : decode cX11_repairs 6 = .ok (.iload_n 1, 1) := by decide +kernel
theorem dX11_repairs_7 : decode cX11_repairs 7 = .ok (.invokevirtual 243, 3) := by decide +kernel
theorem dX11_repairs_10 : decode cX11_repairs 10 = .ok (.ifCond .eq 15, 3) := by decide +kernel
theorem dX11_repairs_13 : decode cX11_repairs 13 = .ok (.aload_n 0, 1) := by decide +kernel
theorem dX11_repairs_14 : decode cX11_repairs 14 = .ok (.iconst 4, 1) := by decide +kernel
theorem dX11_repairs_15 : decode cX11_repairs 15 = .ok (.invokevirtual 280, 3) := by decide +kernel
theorem dX11_repairs_18 : decode cX11_repairs 18 = .ok (.ifCond .ne 7, 3) := by decide +kernel
theorem dX11_repairs_21 : decode cX11_repairs 21 = .ok (.iconst 1, 1) := by decide +kernel
theorem dX11_repairs_22 : decode cX11_repairs 22 = .ok (.goto 4, 3) := by decide +kernel
theorem dX11_repairs_25 : decode cX11_repairs 25 = .ok (.iconst 0, 1) := by decide +kernel
theorem dX11_repairs_26 : decode cX11_repairs 26 = .ok (.ireturn, 1) := by decide +kernel
theorem dX11_repair_0 : decode cX11_repair 0 = .ok (.aload_n 0, 1) := by decide +kernel
theorem dX11_repair_1 : decode cX11_repair 1 = .ok (.iconst 0, 1) := by decide +kernel
theorem dX11_repair_2 : decode cX11_repair 2 = .ok (.putfield 98, 3) := by decide +kernel
theorem dX11_repair_5 : decode cX11_repair 5 = .ok (.aload_n 0, 1) := by decide +kernel
theorem dX11_repair_6 : decode cX11_repair 6 = .ok (.aload_n 0, 1) := by decide +kernel
theorem dX11_repair_7 : decode cX11_repair 7 = .ok (.getfield 131, 3) := by decide +kernel
theorem dX11_repair_10 : decode cX11_repair 10 = .ok (.invokevirtual 280, 3) := by decide +kernel
theorem dX11_repair_13 : decode cX11_repair 13 = .ok (.ifCond .ne 5, 3) := by decide +kernel
theorem dX11_repair_16 : decode cX11_repair 16 = .ok (.iconst 0, 1) := by decide +kernel
theorem dX11_repair_17 : decode cX11_repair 17 = .ok (.ireturn, 1) := by decide +kernel
theorem dX11_repair_18 : decode cX11_repair 18 = .ok (.iconst 0, 1) := by decide +kernel
theorem dX11_repair_19 : decode cX11_repair 19 = .ok (.istore_n 1, 1) := by decide +kernel
theorem dX11_repair_20 : decode cX11_repair 20 = .ok (.iload_n 1, 1) := by decide +kernel
theorem dX11_repair_21 : decode cX11_repair 21 = .ok (.aload_n 0, 1) := by decide +kernel
theorem dX11_repair_22 : decode cX11_repair 22 = .ok (.getfield 124, 3) := by decide +kernel
theorem dX11_repair_25 : decode cX11_repair 25 = .ok (.if_icmp .ge 36, 3) := by decide +kernel
theorem dX11_repair_28 : decode cX11_repair 28 = .ok (.aload_n 0, 1) := by decide +kernel
theorem dX11_repair_29 : decode cX11_repair 29 = .ok (.iload_n 1, 1) := by decide +kernel
theorem dX11_repair_30 : decode cX11_repair 30 = .ok (.aload_n 0, 1) := by decide +kernel
theorem dX11_repair_31 : decode cX11_repair 31 = .ok (.getfield 131, 3) := by decide +kernel
theorem dX11_repair_34 : decode cX11_repair 34 = .ok (.iconst 0, 1) := by decide +kernel
theorem dX11_repair_35 : decode cX11_repair 35 = .ok (.invokevirtual 224, 3) := by decide +kernel
theorem dX11_repair_38 : decode cX11_repair 38 = .ok (.ifCond .eq 17, 3) := by decide +kernel
theorem dX11_repair_41 : decode cX11_repair 41 = .ok (.aload_n 0, 1) := by decide +kernel
theorem dX11_repair_42 : decode cX11_repair 42 = .ok (.iconst 1, 1) := by decide +kernel
theorem dX11_repair_43 : decode cX11_repair 43 = .ok (.iload_n 1, 1) := by decide +kernel
theorem dX11_repair_44 : decode cX11_repair 44 = .ok (.ishl, 1) := by decide +kernel
theorem dX11_repair_45 : decode cX11_repair 45 = .ok (.invokevirtual 283, 3) := by decide +kernel
theorem dX11_repair_48 : decode cX11_repair 48 = .ok (.ifCond .eq 7, 3) := by decide +kernel
theorem dX11_repair_51 : decode cX11_repair 51 = .ok (.iconst 1, 1) := by decide +kernel
theorem dX11_repair_52 : decode cX11_repair 52 = .ok (.iload_n 1, 1) := by decide +kernel
theorem dX11_repair_53 : decode cX11_repair 53 = .ok (.ishl, 1) := by decide +kernel
theorem dX11_repair_54 : decode cX11_repair 54 = .ok (.ireturn, 1) := by decide +kernel
theorem dX11_repair_55 : decode cX11_repair 55 = .ok (.iinc 1 1, 3) := by decide +kernel
theorem dX11_repair_58 : decode cX11_repair 58 = .ok (.goto (-38), 3) := by decide +kernel
theorem dX11_repair_61 : decode cX11_repair 61 = .ok (.iconst 0, 1) := by decide +kernel
theorem dX11_repair_62 : decode cX11_repair 62 = .ok (.istore_n 1, 1) := by decide +kernel
theorem dX11_repair_63 : decode cX11_repair 63 = .ok (.iload_n 1, 1) := by decide +kernel
theorem dX11_repair_64 : decode cX11_repair 64 = .ok (.aload_n 0, 1) := by decide +kernel
theorem dX11_repair_65 : decode cX11_repair 65 = .ok (.getfield 124, 3) := by decide +kernel
theorem dX11_repair_68 : decode cX11_repair 68 = .ok (.if_icmp .ge 70, 3) := by decide +kernel
theorem dX11_repair_71 : decode cX11_repair 71 = .ok (.iconst 0, 1) := by decide +kernel
theorem dX11_repair_72 : decode cX11_repair 72 = .ok (.istore_n 2, 1) := by decide +kernel
theorem dX11_repair_73 : decode cX11_repair 73 = .ok (.iload_n 2, 1) := by decide +kernel
theorem dX11_repair_74 : decode cX11_repair 74 = .ok (.iload_n 1, 1) := by decide +kernel
theorem dX11_repair_75 : decode cX11_repair 75 = .ok (.if_icmp .ge 57, 3) := by decide +kernel
theorem dX11_repair_78 : decode cX11_repair 78 = .ok (.aload_n 0, 1) := by decide +kernel
theorem dX11_repair_79 : decode cX11_repair 79 = .ok (.iload_n 1, 1) := by decide +kernel
theorem dX11_repair_80 : decode cX11_repair 80 = .ok (.aload_n 0, 1) := by decide +kernel
theorem dX11_repair_81 : decode cX11_repair 81 = .ok (.getfield 131, 3) := by decide +kernel
theorem dX11_repair_84 : decode cX11_repair 84 = .ok (.iconst 0, 1) := by decide +kernel
theorem dX11_repair_85 : decode cX11_repair 85 = .ok (.invokevirtual 224, 3) := by decide +kernel
theorem dX11_repair_88 : decode cX11_repair 88 = .ok (.ifCond .eq 38, 3) := by decide +kernel
theorem dX11_repair_91 : decode cX11_repair 91 = .ok (.aload_n 0, 1) := by decide +kernel
theorem dX11_repair_92 : decode cX11_repair 92 = .ok (.iload_n 2, 1) := by decide +kernel
theorem dX11_repair_93 : decode cX11_repair 93 = .ok (.aload_n 0, 1) := by decide +kernel
theorem dX11_repair_94 : decode cX11_repair 94 = .ok (.getfield 131, 3) := by decide +kernel
theorem dX11_repair_97 : decode cX11_repair 97 = .ok (.iconst 0, 1) := by decide +kernel
theorem dX11_repair_98 : decode cX11_repair 98 = .ok (.invokevirtual 224, 3) := by decide +kernel
theorem dX11_repair_101 : decode cX11_repair 101 = .ok (.ifCond .eq 25, 3) := by decide +kernel
theorem dX11_repair_104 : decode cX11_repair 104 = .ok (.aload_n 0, 1) := by decide +kernel
theorem dX11_repair_105 : decode cX11_repair 105 = .ok (.iconst 1, 1) := by decide +kernel
theorem dX11_repair_106 : decode cX11_repair 106 = .ok (.iload_n 1, 1) := by decide +kernel
theorem dX11_repair_107 : decode cX11_repair 107 = .ok (.ishl, 1) := by decide +kernel
theorem dX11_repair_108 : decode cX11_repair 108 = .ok (.iconst 1, 1) := by decide +kernel
theorem dX11_repair_109 : decode cX11_repair 109 = .ok (.iload_n 2, 1) := by decide +kernel
theorem dX11_repair_110 : decode cX11_repair 110 = .ok (.ishl, 1) := by decide +kernel
theorem dX11_repair_111 : decode cX11_repair 111 = .ok (.ior, 1) := by decide +kernel
theorem dX11_repair_112 : decode cX11_repair 112 = .ok (.invokevirtual 283, 3) := by decide +kernel
theorem dX11_repair_115 : decode cX11_repair 115 = .ok (.ifCond .eq 11, 3) := by decide +kernel
theorem dX11_repair_118 : decode cX11_repair 118 = .ok (.iconst 1, 1) := by decide +kernel
theorem dX11_repair_119 : decode cX11_repair 119 = .ok (.iload_n 1, 1) := by decide +kernel
theorem dX11_repair_120 : decode cX11_repair 120 = .ok (.ishl, 1) := by decide +kernel
theorem dX11_repair_121 : decode cX11_repair 121 = .ok (.iconst 1, 1) := by decide +kernel
theorem dX11_repair_122 : decode cX11_repair 122 = .ok (.iload_n 2, 1) := by decide +kernel
theorem dX11_repair_123 : decode cX11_repair 123 = .ok (.ishl, 1) := by decide +kernel
theorem dX11_repair_124 : decode cX11_repair 124 = .ok (.ior, 1) := by decide +kernel
theorem dX11_repair_125 : decode cX11_repair 125 = .ok (.ireturn, 1) := by decide +kernel
theorem dX11_repair_126 : decode cX11_repair 126 = .ok (.iinc 2 1, 3) := by decide +kernel
theorem dX11_repair_129 : decode cX11_repair 129 = .ok (.goto (-56), 3) := by decide +kernel
theorem dX11_repair_132 : decode cX11_repair 132 = .ok (.iinc 1 1, 3) := by decide +kernel
theorem dX11_repair_135 : decode cX11_repair 135 = .ok (.goto (-72), 3) := by decide +kernel
theorem dX11_repair_138 : decode cX11_repair 138 = .ok (.iconst (-1), 1) := by decide +kernel
theorem dX11_repair_139 : decode cX11_repair 139 = .ok (.ireturn, 1) := by decide +kernel
theorem dX11_ask_0 : decode cX11_ask 0 = .ok (.aload_n 0, 1) := by decide +kernel
theorem dX11_ask_1 : decode cX11_ask 1 = .ok (.getfield 17, 3) := by decide +kernel
theorem dX11_ask_4 : decode cX11_ask 4 = .ok (.iload_n 1, 1) := by decide +kernel
theorem dX11_ask_5 : decode cX11_ask 5 = .ok (.iaload, 1) := by decide +kernel
theorem dX11_ask_6 : decode cX11_ask 6 = .ok (.ifCond .eq 7, 3) := by decide +kernel
theorem dX11_ask_9 : decode cX11_ask 9 = .ok (.iconst 1, 1) := by decide +kernel
theorem dX11_ask_10 : decode cX11_ask 10 = .ok (.goto 4, 3) := by decide +kernel
theorem dX11_ask_13 : decode cX11_ask 13 = .ok (.iconst 0, 1) := by decide +kernel
theorem dX11_ask_14 : decode cX11_ask 14 = .ok (.istore 5, 2) := by decide +kernel
theorem dX11_ask_16 : decode cX11_ask 16 = .ok (.iload 5, 2) := by decide +kernel
theorem dX11_ask_18 : decode cX11_ask 18 = .ok (.ifCond .eq 18, 3) := by decide +kernel
theorem dX11_ask_21 : decode cX11_ask 21 = .ok (.aload_n 0, 1) := by decide +kernel
theorem dX11_ask_22 : decode cX11_ask 22 = .ok (.getfield 13, 3) := by decide +kernel
theorem dX11_ask_25 : decode cX11_ask 25 = .ok (.iload_n 1, 1) := by decide +kernel
theorem dX11_ask_26 : decode cX11_ask 26 = .ok (.iaload, 1) := by decide +kernel
theorem dX11_ask_27 : decode cX11_ask 27 = .ok (.iconst 1, 1) := by decide +kernel
theorem dX11_ask_28 : decode cX11_ask 28 = .ok (.if_icmp .ne 8, 3) := by decide +kernel
theorem dX11_ask_31 : decode cX11_ask 31 = .ok (.bipush (-9), 2) := by decide +kernel
theorem dX11_ask_33 : decode cX11_ask 33 = .ok (.goto 4, 3) := by decide +kernel
theorem dX11_ask_36 : decode cX11_ask 36 = .ok (.iload_n 2, 1) := by decide +kernel
theorem dX11_ask_37 : decode cX11_ask 37 = .ok (.istore 6, 2) := by decide +kernel
theorem dX11_ask_39 : decode cX11_ask 39 = .ok (.iload 5, 2) := by decide +kernel
theorem dX11_ask_41 : decode cX11_ask 41 = .ok (.ifCond .eq 18, 3) := by decide +kernel
theorem dX11_ask_44 : decode cX11_ask 44 = .ok (.aload_n 0, 1) := by decide +kernel
theorem dX11_ask_45 : decode cX11_ask 45 = .ok (.getfield 13, 3) := by decide +kernel
theorem dX11_ask_48 : decode cX11_ask 48 = .ok (.iload_n 1, 1) := by decide +kernel
theorem dX11_ask_49 : decode cX11_ask 49 = .ok (.iaload, 1) := by decide +kernel
theorem dX11_ask_50 : decode cX11_ask 50 = .ok (.iconst 2, 1) := by decide +kernel
theorem dX11_ask_51 : decode cX11_ask 51 = .ok (.if_icmp .ne 8, 3) := by decide +kernel
theorem dX11_ask_54 : decode cX11_ask 54 = .ok (.bipush (-9), 2) := by decide +kernel
theorem dX11_ask_56 : decode cX11_ask 56 = .ok (.goto 4, 3) := by decide +kernel
theorem dX11_ask_59 : decode cX11_ask 59 = .ok (.iload_n 3, 1) := by decide +kernel
theorem dX11_ask_60 : decode cX11_ask 60 = .ok (.istore 7, 2) := by decide +kernel
theorem dX11_ask_62 : decode cX11_ask 62 = .ok (.iload 5, 2) := by decide +kernel
theorem dX11_ask_64 : decode cX11_ask 64 = .ok (.ifCond .eq 18, 3) := by decide +kernel
theorem dX11_ask_67 : decode cX11_ask 67 = .ok (.aload_n 0, 1) := by decide +kernel
theorem dX11_ask_68 : decode cX11_ask 68 = .ok (.getfield 13, 3) := by decide +kernel
theorem dX11_ask_71 : decode cX11_ask 71 = .ok (.iload_n 1, 1) := by decide +kernel
theorem dX11_ask_72 : decode cX11_ask 72 = .ok (.iaload, 1) := by decide +kernel
theorem dX11_ask_73 : decode cX11_ask 73 = .ok (.iconst 3, 1) := by decide +kernel
theorem dX11_ask_74 : decode cX11_ask 74 = .ok (.if_icmp .ne 8, 3) := by decide +kernel
theorem dX11_ask_77 : decode cX11_ask 77 = .ok (.bipush (-9), 2) := by decide +kernel
theorem dX11_ask_79 : decode cX11_ask 79 = .ok (.goto 5, 3) := by decide +kernel
theorem dX11_ask_82 : decode cX11_ask 82 = .ok (.iload 4, 2) := by decide +kernel
theorem dX11_ask_84 : decode cX11_ask 84 = .ok (.istore 8, 2) := by decide +kernel
theorem dX11_ask_86 : decode cX11_ask 86 = .ok (.iconst 0, 1) := by decide +kernel
theorem dX11_ask_87 : decode cX11_ask 87 = .ok (.istore 9, 2) := by decide +kernel
theorem dX11_ask_89 : decode cX11_ask 89 = .ok (.iconst 0, 1) := by decide +kernel
theorem dX11_ask_90 : decode cX11_ask 90 = .ok (.istore 10, 2) := by decide +kernel
theorem dX11_ask_92 : decode cX11_ask 92 = .ok (.iload 10, 2) := by decide +kernel
theorem dX11_ask_94 : decode cX11_ask 94 = .ok (.aload_n 0, 1) := by decide +kernel
theorem dX11_ask_95 : decode cX11_ask 95 = .ok (.getfield 286, 3) := by decide +kernel
theorem dX11_ask_98 : decode cX11_ask 98 = .ok (.if_icmp .ge 78, 3) := by decide +kernel
theorem dX11_ask_101 : decode cX11_ask 101 = .ok (.iload 9, 2) := by decide +kernel
theorem dX11_ask_103 : decode cX11_ask 103 = .ok (.ifCond .ne 60, 3) := by decide +kernel
theorem dX11_ask_106 : decode cX11_ask 106 = .ok (.aload_n 0, 1) := by decide +kernel
theorem dX11_ask_107 : decode cX11_ask 107 = .ok (.getfield 86, 3) := by decide +kernel
theorem dX11_ask_110 : decode cX11_ask 110 = .ok (.iload 10, 2) := by decide +kernel
theorem dX11_ask_112 : decode cX11_ask 112 = .ok (.iaload, 1) := by decide +kernel
theorem dX11_ask_113 : decode cX11_ask 113 = .ok (.iload_n 1, 1) := by decide +kernel
theorem dX11_ask_114 : decode cX11_ask 114 = .ok (.if_icmp .ne 53, 3) := by decide +kernel
theorem dX11_ask_117 : decode cX11_ask 117 = .ok (.aload_n 0, 1) := by decide +kernel
theorem dX11_ask_118 : decode cX11_ask 118 = .ok (.getfield 89, 3) := by decide +kernel
theorem dX11_ask_121 : decode cX11_ask 121 = .ok (.iconst 3, 1) := by decide +kernel
theorem dX11_ask_122 : decode cX11_ask 122 = .ok (.iload 10, 2) := by decide +kernel
theorem dX11_ask_124 : decode cX11_ask 124 = .ok (.imul, 1) := by decide +kernel
theorem dX11_ask_125 : decode cX11_ask 125 = .ok (.iaload, 1) := by decide +kernel
theorem dX11_ask_126 : decode cX11_ask 126 = .ok (.iload 6, 2) := by decide +kernel
theorem dX11_ask_128 : decode cX11_ask 128 = .ok (.if_icmp .ne 39, 3) := by decide +kernel
theorem dX11_ask_131 : decode cX11_ask 131 = .ok (.aload_n 0, 1) := by decide +kernel
theorem dX11_ask_132 : decode cX11_ask 132 = .ok (.getfield 89, 3) := by decide +kernel
theorem dX11_ask_135 : decode cX11_ask 135 = .ok (.iconst 3, 1) := by decide +kernel
theorem dX11_ask_136 : decode cX11_ask 136 = .ok (.iload 10, 2) := by decide +kernel
theorem dX11_ask_138 : decode cX11_ask 138 = .ok (.imul, 1) := by decide +kernel
theorem dX11_ask_139 : decode cX11_ask 139 = .ok (.iconst 1, 1) := by decide +kernel
theorem dX11_ask_140 : decode cX11_ask 140 = .ok (.iadd, 1) := by decide +kernel
theorem dX11_ask_141 : decode cX11_ask 141 = .ok (.iaload, 1) := by decide +kernel
theorem dX11_ask_142 : decode cX11_ask 142 = .ok (.iload 7, 2) := by decide +kernel
theorem dX11_ask_144 : decode cX11_ask 144 = .ok (.if_icmp .ne 23, 3) := by decide +kernel
theorem dX11_ask_147 : decode cX11_ask 147 = .ok (.aload_n 0, 1) := by decide +kernel
theorem dX11_ask_148 : decode cX11_ask 148 = .ok (.getfield 89, 3) := by decide +kernel
theorem dX11_ask_151 : decode cX11_ask 151 = .ok (.iconst 3, 1) := by decide +kernel
theorem dX11_ask_152 : decode cX11_ask 152 = .ok (.iload 10, 2) := by decide +kernel
theorem dX11_ask_154 : decode cX11_ask 154 = .ok (.imul, 1) := by decide +kernel
theorem dX11_ask_155 : decode cX11_ask 155 = .ok (.iconst 2, 1) := by decide +kernel
theorem dX11_ask_156 : decode cX11_ask 156 = .ok (.iadd, 1) := by decide +kernel
theorem dX11_ask_157 : decode cX11_ask 157 = .ok (.iaload, 1) := by decide +kernel
theorem dX11_ask_158 : decode cX11_ask 158 = .ok (.iload 8, 2) := by decide +kernel
theorem dX11_ask_160 : decode cX11_ask 160 = .ok (.if_icmp .ne 7, 3) := by decide +kernel
theorem dX11_ask_163 : decode cX11_ask 163 = .ok (.iconst 1, 1) := by decide +kernel
theorem dX11_ask_164 : decode cX11_ask 164 = .ok (.goto 4, 3) := by decide +kernel
theorem dX11_ask_167 : decode cX11_ask 167 = .ok (.iconst 0, 1) := by decide +kernel
theorem dX11_ask_168 : decode cX11_ask 168 = .ok (.istore 9, 2) := by decide +kernel
theorem dX11_ask_170 : decode cX11_ask 170 = .ok (.iinc 10 1, 3) := by decide +kernel
theorem dX11_ask_173 : decode cX11_ask 173 = .ok (.goto (-81), 3) := by decide +kernel
theorem dX11_ask_176 : decode cX11_ask 176 = .ok (.iload 9, 2) := by decide +kernel
theorem dX11_ask_178 : decode cX11_ask 178 = .ok (.ifCond .ne 76, 3) := by decide +kernel
theorem dX11_ask_181 : decode cX11_ask 181 = .ok (.aload_n 0, 1) := by decide +kernel
theorem dX11_ask_182 : decode cX11_ask 182 = .ok (.getfield 286, 3) := by decide +kernel
theorem dX11_ask_185 : decode cX11_ask 185 = .ok (.sipush 400, 3) := by decide +kernel
theorem dX11_ask_188 : decode cX11_ask 188 = .ok (.if_icmp .ge 66, 3) := by decide +kernel
theorem dX11_ask_191 : decode cX11_ask 191 = .ok (.aload_n 0, 1) := by decide +kernel
theorem dX11_ask_192 : decode cX11_ask 192 = .ok (.getfield 86, 3) := by decide +kernel
theorem dX11_ask_195 : decode cX11_ask 195 = .ok (.aload_n 0, 1) := by decide +kernel
theorem dX11_ask_196 : decode cX11_ask 196 = .ok (.getfield 286, 3) := by decide +kernel
theorem dX11_ask_199 : decode cX11_ask 199 = .ok (.iload_n 1, 1) := by decide +kernel
theorem dX11_ask_200 : decode cX11_ask 200 = .ok (.iastore, 1) := by decide +kernel
theorem dX11_ask_201 : decode cX11_ask 201 = .ok (.aload_n 0, 1) := by decide +kernel
theorem dX11_ask_202 : decode cX11_ask 202 = .ok (.getfield 89, 3) := by decide +kernel
theorem dX11_ask_205 : decode cX11_ask 205 = .ok (.iconst 3, 1) := by decide +kernel
theorem dX11_ask_206 : decode cX11_ask 206 = .ok (.aload_n 0, 1) := by decide +kernel
theorem dX11_ask_207 : decode cX11_ask 207 = .ok (.getfield 286, 3) := by decide +kernel
theorem dX11_ask_210 : decode cX11_ask 210 = .ok (.imul, 1) := by decide +kernel
theorem dX11_ask_211 : decode cX11_ask 211 = .ok (.iload 6, 2) := by decide +kernel
theorem dX11_ask_213 : decode cX11_ask 213 = .ok (.iastore, 1) := by decide +kernel
theorem dX11_ask_214 : decode cX11_ask 214 = .ok (.aload_n 0, 1) := by decide +kernel
theorem dX11_ask_215 : decode cX11_ask 215 = .ok (.getfield 89, 3) := by decide +kernel
theorem dX11_ask_218 : decode cX11_ask 218 = .ok (.iconst 3, 1) := by decide +kernel
theorem dX11_ask_219 : decode cX11_ask 219 = .ok (.aload_n 0, 1) := by decide +kernel
theorem dX11_ask_220 : decode cX11_ask 220 = .ok (.getfield 286, 3) := by decide +kernel
theorem dX11_ask_223 : decode cX11_ask 223 = .ok (.imul, 1) := by decide +kernel
theorem dX11_ask_224 : decode cX11_ask 224 = .ok (.iconst 1, 1) := by decide +kernel
theorem dX11_ask_225 : decode cX11_ask 225 = .ok (.iadd, 1) := by decide +kernel
theorem dX11_ask_226 : decode cX11_ask 226 = .ok (.iload 7, 2) := by decide +kernel
theorem dX11_ask_228 : decode cX11_ask 228 = .ok (.iastore, 1) := by decide +kernel
theorem dX11_ask_229 : decode cX11_ask 229 = .ok (.aload_n 0, 1) := by decide +kernel
theorem dX11_ask_230 : decode cX11_ask 230 = .ok (.getfield 89, 3) := by decide +kernel
theorem dX11_ask_233 : decode cX11_ask 233 = .ok (.iconst 3, 1) := by decide +kernel
theorem dX11_ask_234 : decode cX11_ask 234 = .ok (.aload_n 0, 1) := by decide +kernel
theorem dX11_ask_235 : decode cX11_ask 235 = .ok (.getfield 286, 3) := by decide +kernel
theorem dX11_ask_238 : decode cX11_ask 238 = .ok (.imul, 1) := by decide +kernel
theorem dX11_ask_239 : decode cX11_ask 239 = .ok (.iconst 2, 1) := by decide +kernel
theorem dX11_ask_240 : decode cX11_ask 240 = .ok (.iadd, 1) := by decide +kernel
theorem dX11_ask_241 : decode cX11_ask 241 = .ok (.iload 8, 2) := by decide +kernel
theorem dX11_ask_243 : decode cX11_ask 243 = .ok (.iastore, 1) := by decide +kernel
theorem dX11_ask_244 : decode cX11_ask 244 = .ok (.aload_n 0, 1) := by decide +kernel
theorem dX11_ask_245 : decode cX11_ask 245 = .ok (.dup, 1) := by decide +kernel
theorem dX11_ask_246 : decode cX11_ask 246 = .ok (.getfield 286, 3) := by decide +kernel
theorem dX11_ask_249 : decode cX11_ask 249 = .ok (.iconst 1, 1) := by decide +kernel
theorem dX11_ask_250 : decode cX11_ask 250 = .ok (.iadd, 1) := by decide +kernel
theorem dX11_ask_251 : decode cX11_ask 251 = .ok (.putfield 286, 3) := by decide +kernel
theorem dX11_ask_254 : decode cX11_ask 254 = .ok (.return_, 1) := by decide +kernel
theorem dX11_asked_0 : decode cX11_asked 0 = .ok (.aload_n 0, 1) := by decide +kernel
theorem dX11_asked_1 : decode cX11_asked 1 = .ok (.getfield 62, 3) := by decide +kernel
theorem dX11_asked_4 : decode cX11_asked 4 = .ok (.iconst 3, 1) := by decide +kernel
theorem dX11_asked_5 : decode cX11_asked 5 = .ok (.iload_n 1, 1) := by decide +kernel
theorem dX11_asked_6 : decode cX11_asked 6 = .ok (.imul, 1) := by decide +kernel
theorem dX11_asked_7 : decode cX11_asked 7 = .ok (.iload_n 2, 1) := by decide +kernel
theorem dX11_asked_8 : decode cX11_asked 8 = .ok (.iadd, 1) := by decide +kernel
theorem dX11_asked_9 : decode cX11_asked 9 = .ok (.iaload, 1) := by decide +kernel
theorem dX11_asked_10 : decode cX11_asked 10 = .ok (.istore_n 3, 1) := by decide +kernel
theorem dX11_asked_11 : decode cX11_asked 11 = .ok (.iload_n 2, 1) := by decide +kernel
theorem dX11_asked_12 : decode cX11_asked 12 = .ok (.aload_n 0, 1) := by decide +kernel
theorem dX11_asked_13 : decode cX11_asked 13 = .ok (.getfield 13, 3) := by decide +kernel
theorem dX11_asked_16 : decode cX11_asked 16 = .ok (.aload_n 0, 1) := by decide +kernel
theorem dX11_asked_17 : decode cX11_asked 17 = .ok (.getfield 59, 3) := by decide +kernel
theorem dX11_asked_20 : decode cX11_asked 20 = .ok (.iload_n 1, 1) := by decide +kernel
theorem dX11_asked_21 : decode cX11_asked 21 = .ok (.iaload, 1) := by decide +kernel
theorem dX11_asked_22 : decode cX11_asked 22 = .ok (.iaload, 1) := by decide +kernel
theorem dX11_asked_23 : decode cX11_asked 23 = .ok (.if_icmp .lt 7, 3) := by decide +kernel
theorem dX11_asked_26 : decode cX11_asked 26 = .ok (.iconst 0, 1) := by decide +kernel
theorem dX11_asked_27 : decode cX11_asked 27 = .ok (.goto 21, 3) := by decide +kernel
theorem dX11_asked_30 : decode cX11_asked 30 = .ok (.aload_n 0, 1) := by decide +kernel
theorem dX11_asked_31 : decode cX11_asked 31 = .ok (.iload_n 3, 1) := by decide +kernel
theorem dX11_asked_32 : decode cX11_asked 32 = .ok (.invokevirtual 190, 3) := by decide +kernel
theorem dX11_asked_35 : decode cX11_asked 35 = .ok (.ifCond .eq 11, 3) := by decide +kernel
theorem dX11_asked_38 : decode cX11_asked 38 = .ok (.aload_n 0, 1) := by decide +kernel
theorem dX11_asked_39 : decode cX11_asked 39 = .ok (.iload_n 3, 1) := by decide +kernel
theorem dX11_asked_40 : decode cX11_asked 40 = .ok (.invokevirtual 193, 3) := by decide +kernel
theorem dX11_asked_43 : decode cX11_asked 43 = .ok (.goto 5, 3) := by decide +kernel
theorem dX11_asked_46 : decode cX11_asked 46 = .ok (.bipush (-9), 2) := by decide +kernel
theorem dX11_asked_48 : decode cX11_asked 48 = .ok (.ireturn, 1) := by decide +kernel
theorem dX11_askBy_0 : decode cX11_askBy 0 = .ok (.iconst 0, 1) := by decide +kernel
theorem dX11_askBy_1 : decode cX11_askBy 1 = .ok (.istore_n 3, 1) := by decide +kernel
theorem dX11_askBy_2 : decode cX11_askBy 2 = .ok (.iload_n 3, 1) := by decide +kernel
theorem dX11_askBy_3 : decode cX11_askBy 3 = .ok (.aload_n 0, 1) := by decide +kernel
theorem dX11_askBy_4 : decode cX11_askBy 4 = .ok (.getfield 53, 3) := by decide +kernel
theorem dX11_askBy_7 : decode cX11_askBy 7 = .ok (.iload_n 1, 1) := by decide +kernel
theorem dX11_askBy_8 : decode cX11_askBy 8 = .ok (.iaload, 1) := by decide +kernel
theorem dX11_askBy_9 : decode cX11_askBy 9 = .ok (.if_icmp .ge 144, 3) := by decide +kernel
theorem dX11_askBy_12 : decode cX11_askBy 12 = .ok (.iconst 5, 1) := by decide +kernel
theorem dX11_askBy_13 : decode cX11_askBy 13 = .ok (.iload_n 1, 1) := by decide +kernel
theorem dX11_askBy_14 : decode cX11_askBy 14 = .ok (.imul, 1) := by decide +kernel
theorem dX11_askBy_15 : decode cX11_askBy 15 = .ok (.iload_n 3, 1) := by decide +kernel
theorem dX11_askBy_16 : decode cX11_askBy 16 = .ok (.iadd, 1) := by decide +kernel
theorem dX11_askBy_17 : decode cX11_askBy 17 = .ok (.istore 4, 2) := by decide +kernel
theorem dX11_askBy_19 : decode cX11_askBy 19 = .ok (.aload_n 0, 1) := by decide +kernel
theorem dX11_askBy_20 : decode cX11_askBy 20 = .ok (.getfield 56, 3) := by decide +kernel
theorem dX11_askBy_23 : decode cX11_askBy 23 = .ok (.iload 4, 2) := by decide +kernel
theorem dX11_askBy_25 : decode cX11_askBy 25 = .ok (.iaload, 1) := by decide +kernel
theorem dX11_askBy_26 : decode cX11_askBy 26 = .ok (.iconst 1, 1) := by decide +kernel
theorem dX11_askBy_27 : decode cX11_askBy 27 = .ok (.if_icmp .gt 43, 3) := by decide +kernel
theorem dX11_askBy_30 : decode cX11_askBy 30 = .ok (.aload_n 0, 1) := by decide +kernel
theorem dX11_askBy_31 : decode cX11_askBy 31 = .ok (.iload_n 1, 1) := by decide +kernel
theorem dX11_askBy_32 : decode cX11_askBy 32 = .ok (.aload_n 0, 1) := by decide +kernel
theorem dX11_askBy_33 : decode cX11_askBy 33 = .ok (.getfield 89, 3) := by decide +kernel
theorem dX11_askBy_36 : decode cX11_askBy 36 = .ok (.iconst 3, 1) := by decide +kernel
theorem dX11_askBy_37 : decode cX11_askBy 37 = .ok (.iload_n 2, 1) := by decide +kernel
theorem dX11_askBy_38 : decode cX11_askBy 38 = .ok (.imul, 1) := by decide +kernel
theorem dX11_askBy_39 : decode cX11_askBy 39 = .ok (.iaload, 1) := by decide +kernel
theorem dX11_askBy_40 : decode cX11_askBy 40 = .ok (.aload_n 0, 1) := by decide +kernel
theorem dX11_askBy_41 : decode cX11_askBy 41 = .ok (.getfield 89, 3) := by decide +kernel
theorem dX11_askBy_44 : decode cX11_askBy 44 = .ok (.iconst 3, 1) := by decide +kernel
theorem dX11_askBy_45 : decode cX11_askBy 45 = .ok (.iload_n 2, 1) := by decide +kernel
theorem dX11_askBy_46 : decode cX11_askBy 46 = .ok (.imul, 1) := by decide +kernel
theorem dX11_askBy_47 : decode cX11_askBy 47 = .ok (.iconst 1, 1) := by decide +kernel
theorem dX11_askBy_48 : decode cX11_askBy 48 = .ok (.iadd, 1) := by decide +kernel
theorem dX11_askBy_49 : decode cX11_askBy 49 = .ok (.iaload, 1) := by decide +kernel
theorem dX11_askBy_50 : decode cX11_askBy 50 = .ok (.aload_n 0, 1) := by decide +kernel
theorem dX11_askBy_51 : decode cX11_askBy 51 = .ok (.getfield 89, 3) := by decide +kernel
theorem dX11_askBy_54 : decode cX11_askBy 54 = .ok (.iconst 3, 1) := by decide +kernel
theorem dX11_askBy_55 : decode cX11_askBy 55 = .ok (.iload_n 2, 1) := by decide +kernel
theorem dX11_askBy_56 : decode cX11_askBy 56 = .ok (.imul, 1) := by decide +kernel
theorem dX11_askBy_57 : decode cX11_askBy 57 = .ok (.iconst 2, 1) := by decide +kernel
theorem dX11_askBy_58 : decode cX11_askBy 58 = .ok (.iadd, 1) := by decide +kernel
theorem dX11_askBy_59 : decode cX11_askBy 59 = .ok (.iaload, 1) := by decide +kernel
theorem dX11_askBy_60 : decode cX11_askBy 60 = .ok (.invokevirtual 274, 3) := by decide +kernel
theorem dX11_askBy_63 : decode cX11_askBy 63 = .ok (.ifCond .eq 7, 3) := by decide +kernel
theorem dX11_askBy_66 : decode cX11_askBy 66 = .ok (.iconst 1, 1) := by decide +kernel
theorem dX11_askBy_67 : decode cX11_askBy 67 = .ok (.goto 4, 3) := by decide +kernel
theorem dX11_askBy_70 : decode cX11_askBy 70 = .ok (.iconst 0, 1) := by decide +kernel
theorem dX11_askBy_71 : decode cX11_askBy 71 = .ok (.istore 5, 2) := by decide +kernel
theorem dX11_askBy_73 : decode cX11_askBy 73 = .ok (.iload 5, 2) := by decide +kernel
theorem dX11_askBy_75 : decode cX11_askBy 75 = .ok (.ifCond .eq 72, 3) := by decide +kernel
theorem dX11_askBy_78 : decode cX11_askBy 78 = .ok (.aload_n 0, 1) := by decide +kernel
theorem dX11_askBy_79 : decode cX11_askBy 79 = .ok (.getfield 286, 3) := by decide +kernel
theorem dX11_askBy_82 : decode cX11_askBy 82 = .ok (.sipush 400, 3) := by decide +kernel
theorem dX11_askBy_85 : decode cX11_askBy 85 = .ok (.if_icmp .ge 62, 3) := by decide +kernel
theorem dX11_askBy_88 : decode cX11_askBy 88 = .ok (.aload_n 0, 1) := by decide +kernel
theorem dX11_askBy_89 : decode cX11_askBy 89 = .ok (.iload_n 1, 1) := by decide +kernel
theorem dX11_askBy_90 : decode cX11_askBy 90 = .ok (.iload_n 3, 1) := by decide +kernel
theorem dX11_askBy_91 : decode cX11_askBy 91 = .ok (.aload_n 0, 1) := by decide +kernel
theorem dX11_askBy_92 : decode cX11_askBy 92 = .ok (.getfield 131, 3) := by decide +kernel
theorem dX11_askBy_95 : decode cX11_askBy 95 = .ok (.invokevirtual 237, 3) := by decide +kernel
theorem dX11_askBy_98 : decode cX11_askBy 98 = .ok (.ifCond .eq 49, 3) := by decide +kernel
theorem dX11_askBy_101 : decode cX11_askBy 101 = .ok (.aload_n 0, 1) := by decide +kernel
theorem dX11_askBy_102 : decode cX11_askBy 102 = .ok (.aload_n 0, 1) := by decide +kernel
theorem dX11_askBy_103 : decode cX11_askBy 103 = .ok (.getfield 59, 3) := by decide +kernel
theorem dX11_askBy_106 : decode cX11_askBy 106 = .ok (.iload 4, 2) := by decide +kernel
theorem dX11_askBy_108 : decode cX11_askBy 108 = .ok (.iaload, 1) := by decide +kernel
theorem dX11_askBy_109 : decode cX11_askBy 109 = .ok (.aload_n 0, 1) := by decide +kernel
theorem dX11_askBy_110 : decode cX11_askBy 110 = .ok (.iload 4, 2) := by decide +kernel
theorem dX11_askBy_112 : decode cX11_askBy 112 = .ok (.iconst 0, 1) := by decide +kernel
theorem dX11_askBy_113 : decode cX11_askBy 113 = .ok (.invokevirtual 289, 3) := by decide +kernel
theorem dX11_askBy_116 : decode cX11_askBy 116 = .ok (.aload_n 0, 1) := by decide +kernel
theorem dX11_askBy_117 : decode cX11_askBy 117 = .ok (.iload 4, 2) := by decide +kernel
theorem dX11_askBy_119 : decode cX11_askBy 119 = .ok (.iconst 1, 1) := by decide +kernel
theorem dX11_askBy_120 : decode cX11_askBy 120 = .ok (.invokevirtual 289, 3) := by decide +kernel
theorem dX11_askBy_123 : decode cX11_askBy 123 = .ok (.aload_n 0, 1) := by decide +kernel
theorem dX11_askBy_124 : decode cX11_askBy 124 = .ok (.iload 4, 2) := by decide +kernel
theorem dX11_askBy_126 : decode cX11_askBy 126 = .ok (.iconst 2, 1) := by decide +kernel
theorem dX11_askBy_127 : decode cX11_askBy 127 = .ok (.invokevirtual 289, 3) := by decide +kernel
theorem dX11_askBy_130 : decode cX11_askBy 130 = .ok (.invokevirtual 292, 3) := by decide +kernel
theorem dX11_askBy_133 : decode cX11_askBy 133 = .ok (.iload_n 3, 1) := by decide +kernel
theorem dX11_askBy_134 : decode cX11_askBy 134 = .ok (.ifCond .le 7, 3) := by decide +kernel
theorem dX11_askBy_137 : decode cX11_askBy 137 = .ok (.iconst 1, 1) := by decide +kernel
theorem dX11_askBy_138 : decode cX11_askBy 138 = .ok (.goto 4, 3) := by decide +kernel
theorem dX11_askBy_141 : decode cX11_askBy 141 = .ok (.iconst 0, 1) := by decide +kernel
theorem dX11_askBy_142 : decode cX11_askBy 142 = .ok (.istore 5, 2) := by decide +kernel
theorem dX11_askBy_144 : decode cX11_askBy 144 = .ok (.goto (-71), 3) := by decide +kernel
theorem dX11_askBy_147 : decode cX11_askBy 147 = .ok (.iinc 3 1, 3) := by decide +kernel
theorem dX11_askBy_150 : decode cX11_askBy 150 = .ok (.goto (-148), 3) := by decide +kernel
theorem dX11_askBy_153 : decode cX11_askBy 153 = .ok (.return_, 1) := by decide +kernel
theorem dX11_goals_0 : decode cX11_goals 0 = .ok (.aload_n 0, 1) := by decide +kernel
theorem dX11_goals_1 : decode cX11_goals 1 = .ok (.iload_n 1, 1) := by decide +kernel
theorem dX11_goals_2 : decode cX11_goals 2 = .ok (.invokevirtual 117, 3) := by decide +kernel
theorem dX11_goals_5 : decode cX11_goals 5 = .ok (.ifCond .eq 20, 3) := by decide +kernel
theorem dX11_goals_8 : decode cX11_goals 8 = .ok (.aload_n 0, 1) := by decide +kernel
theorem dX11_goals_9 : decode cX11_goals 9 = .ok (.iload_n 1, 1) := by decide +kernel
theorem dX11_goals_10 : decode cX11_goals 10 = .ok (.iload_n 2, 1) := by decide +kernel
theorem dX11_goals_11 : decode cX11_goals 11 = .ok (.iload_n 3, 1) := by decide +kernel
theorem dX11_goals_12 : decode cX11_goals 12 = .ok (.iload 4, 2) := by decide +kernel
theorem dX11_goals_14 : decode cX11_goals 14 = .ok (.iconst 1, 1) := by decide +kernel
theorem dX11_goals_15 : decode cX11_goals 15 = .ok (.invokevirtual 120, 3) := by decide +kernel
theorem dX11_goals_18 : decode cX11_goals 18 = .ok (.ifCond .eq 7, 3) := by decide +kernel
theorem dX11_goals_21 : decode cX11_goals 21 = .ok (.iconst 1, 1) := by decide +kernel
theorem dX11_goals_22 : decode cX11_goals 22 = .ok (.goto 4, 3) := by decide +kernel
theorem dX11_goals_25 : decode cX11_goals 25 = .ok (.iconst 0, 1) := by decide +kernel
theorem dX11_goals_26 : decode cX11_goals 26 = .ok (.istore 5, 2) := by decide +kernel
theorem dX11_goals_28 : decode cX11_goals 28 = .ok (.aload_n 0, 1) := by decide +kernel
theorem dX11_goals_29 : decode cX11_goals 29 = .ok (.aload_n 0, 1) := by decide +kernel
theorem dX11_goals_30 : decode cX11_goals 30 = .ok (.iload_n 1, 1) := by decide +kernel
theorem dX11_goals_31 : decode cX11_goals 31 = .ok (.invokevirtual 117, 3) := by decide +kernel
theorem dX11_goals_34 : decode cX11_goals 34 = .ok (.ifCond .ne 7, 3) := by decide +kernel
theorem dX11_goals_37 : decode cX11_goals 37 = .ok (.iconst 1, 1) := by decide +kernel
theorem dX11_goals_38 : decode cX11_goals 38 = .ok (.goto 13, 3) := by decide +kernel
theorem dX11_goals_41 : decode cX11_goals 41 = .ok (.iload 5, 2) := by decide +kernel
theorem dX11_goals_43 : decode cX11_goals 43 = .ok (.ifCond .eq 7, 3) := by decide +kernel
theorem dX11_goals_46 : decode cX11_goals 46 = .ok (.iconst 0, 1) := by decide +kernel
theorem dX11_goals_47 : decode cX11_goals 47 = .ok (.goto 4, 3) := by decide +kernel
theorem dX11_goals_50 : decode cX11_goals 50 = .ok (.iconst 2, 1) := by decide +kernel
theorem dX11_goals_51 : decode cX11_goals 51 = .ok (.invokevirtual 113, 3) := by decide +kernel
theorem dX11_goals_54 : decode cX11_goals 54 = .ok (.ifCond .eq 5, 3) := by decide +kernel
theorem dX11_goals_57 : decode cX11_goals 57 = .ok (.iconst 0, 1) := by decide +kernel
theorem dX11_goals_58 : decode cX11_goals 58 = .ok (.ireturn, 1) := by decide +kernel
theorem dX11_goals_59 : decode cX11_goals 59 = .ok (.aload_n 0, 1) := by decide +kernel
theorem dX11_goals_60 : decode cX11_goals 60 = .ok (.iconst 0, 1) := by decide +kernel
theorem dX11_goals_61 : decode cX11_goals 61 = .ok (.putfield 286, 3) := by decide +kernel
theorem dX11_goals_64 : decode cX11_goals 64 = .ok (.aload_n 0, 1) := by decide +kernel
theorem dX11_goals_65 : decode cX11_goals 65 = .ok (.iload_n 1, 1) := by decide +kernel
theorem dX11_goals_66 : decode cX11_goals 66 = .ok (.iload_n 2, 1) := by decide +kernel
theorem dX11_goals_67 : decode cX11_goals 67 = .ok (.iload_n 3, 1) := by decide +kernel
theorem dX11_goals_68 : decode cX11_goals 68 = .ok (.iload 4, 2) := by decide +kernel
theorem dX11_goals_70 : decode cX11_goals 70 = .ok (.invokevirtual 292, 3) := by decide +kernel
theorem dX11_goals_73 : decode cX11_goals 73 = .ok (.iconst 0, 1) := by decide +kernel
theorem dX11_goals_74 : decode cX11_goals 74 = .ok (.istore 6, 2) := by decide +kernel
theorem dX11_goals_76 : decode cX11_goals 76 = .ok (.iload 6, 2) := by decide +kernel
theorem dX11_goals_78 : decode cX11_goals 78 = .ok (.aload_n 0, 1) := by decide +kernel
theorem dX11_goals_79 : decode cX11_goals 79 = .ok (.getfield 286, 3) := by decide +kernel
theorem dX11_goals_82 : decode cX11_goals 82 = .ok (.if_icmp .ge 72, 3) := by decide +kernel
theorem dX11_goals_85 : decode cX11_goals 85 = .ok (.aload_n 0, 1) := by decide +kernel
theorem dX11_goals_86 : decode cX11_goals 86 = .ok (.getfield 286, 3) := by decide +kernel
theorem dX11_goals_89 : decode cX11_goals 89 = .ok (.sipush 400, 3) := by decide +kernel
theorem dX11_goals_92 : decode cX11_goals 92 = .ok (.if_icmp .ge 62, 3) := by decide +kernel
theorem dX11_goals_95 : decode cX11_goals 95 = .ok (.iconst 0, 1) := by decide +kernel
theorem dX11_goals_96 : decode cX11_goals 96 = .ok (.istore 7, 2) := by decide +kernel
theorem dX11_goals_98 : decode cX11_goals 98 = .ok (.iload 7, 2) := by decide +kernel
theorem dX11_goals_100 : decode cX11_goals 100 = .ok (.aload_n 0, 1) := by decide +kernel
theorem dX11_goals_101 : decode cX11_goals 101 = .ok (.getfield 159, 3) := by decide +kernel
theorem dX11_goals_104 : decode cX11_goals 104 = .ok (.if_icmp .ge 44, 3) := by decide +kernel
theorem dX11_goals_107 : decode cX11_goals 107 = .ok (.aload_n 0, 1) := by decide +kernel
theorem dX11_goals_108 : decode cX11_goals 108 = .ok (.getfield 44, 3) := by decide +kernel
theorem dX11_goals_111 : decode cX11_goals 111 = .ok (.iload 7, 2) := by decide +kernel
theorem dX11_goals_113 : decode cX11_goals 113 = .ok (.baload, 1) := by decide +kernel
theorem dX11_goals_114 : decode cX11_goals 114 = .ok (.ifCond .ne 28, 3) := by decide +kernel
theorem dX11_goals_117 : decode cX11_goals 117 = .ok (.aload_n 0, 1) := by decide +kernel
theorem dX11_goals_118 : decode cX11_goals 118 = .ok (.getfield 47, 3) := by decide +kernel
theorem dX11_goals_121 : decode cX11_goals 121 = .ok (.iload 7, 2) := by decide +kernel
theorem dX11_goals_123 : decode cX11_goals 123 = .ok (.iaload, 1) := by decide +kernel
theorem dX11_goals_124 : decode cX11_goals 124 = .ok (.aload_n 0, 1) := by decide +kernel
theorem dX11_goals_125 : decode cX11_goals 125 = .ok (.getfield 86, 3) := by decide +kernel
theorem dX11_goals_128 : decode cX11_goals 128 = .ok (.iload 6, 2) := by decide +kernel
theorem dX11_goals_130 : decode cX11_goals 130 = .ok (.iaload, 1) := by decide +kernel
theorem dX11_goals_131 : decode cX11_goals 131 = .ok (.if_icmp .ne 11, 3) := by decide +kernel
theorem dX11_goals_134 : decode cX11_goals 134 = .ok (.aload_n 0, 1) := by decide +kernel
theorem dX11_goals_135 : decode cX11_goals 135 = .ok (.iload 7, 2) := by decide +kernel
theorem dX11_goals_137 : decode cX11_goals 137 = .ok (.iload 6, 2) := by decide +kernel
theorem dX11_goals_139 : decode cX11_goals 139 = .ok (.invokevirtual 296, 3) := by decide +kernel
theorem dX11_goals_142 : decode cX11_goals 142 = .ok (.iinc 7 1, 3) := by decide +kernel
theorem dX11_goals_145 : decode cX11_goals 145 = .ok (.goto (-47), 3) := by decide +kernel
theorem dX11_goals_148 : decode cX11_goals 148 = .ok (.iinc 6 1, 3) := by decide +kernel
theorem dX11_goals_151 : decode cX11_goals 151 = .ok (.goto (-75), 3) := by decide +kernel
theorem dX11_goals_154 : decode cX11_goals 154 = .ok (.aload_n 0, 1) := by decide +kernel
theorem dX11_goals_155 : decode cX11_goals 155 = .ok (.getfield 286, 3) := by decide +kernel
theorem dX11_goals_158 : decode cX11_goals 158 = .ok (.ireturn, 1) := by decide +kernel
theorem dX11_searched_0 : decode cX11_searched 0 = .ok (.iconst 0, 1) := by decide +kernel
theorem dX11_searched_1 : decode cX11_searched 1 = .ok (.istore_n 3, 1) := by decide +kernel
theorem dX11_searched_2 : decode cX11_searched 2 = .ok (.iconst 0, 1) := by decide +kernel
theorem dX11_searched_3 : decode cX11_searched 3 = .ok (.istore 4, 2) := by decide +kernel
theorem dX11_searched_5 : decode cX11_searched 5 = .ok (.iload 4, 2) := by decide +kernel
theorem dX11_searched_7 : decode cX11_searched 7 = .ok (.aload_n 0, 1) := by decide +kernel
theorem dX11_searched_8 : decode cX11_searched 8 = .ok (.getfield 13, 3) := by decide +kernel
theorem dX11_searched_11 : decode cX11_searched 11 = .ok (.aload_n 0, 1) := by decide +kernel
theorem dX11_searched_12 : decode cX11_searched 12 = .ok (.getfield 59, 3) := by decide +kernel
theorem dX11_searched_15 : decode cX11_searched 15 = .ok (.iload_n 1, 1) := by decide +kernel
theorem dX11_searched_16 : decode cX11_searched 16 = .ok (.iaload, 1) := by decide +kernel
theorem dX11_searched_17 : decode cX11_searched 17 = .ok (.iaload, 1) := by decide +kernel
theorem dX11_searched_18 : decode cX11_searched 18 = .ok (.if_icmp .ge 50, 3) := by decide +kernel
theorem dX11_searched_21 : decode cX11_searched 21 = .ok (.aload_n 0, 1) := by decide +kernel
theorem dX11_searched_22 : decode cX11_searched 22 = .ok (.getfield 62, 3) := by decide +kernel
theorem dX11_searched_25 : decode cX11_searched 25 = .ok (.iconst 3, 1) := by decide +kernel
theorem dX11_searched_26 : decode cX11_searched 26 = .ok (.iload_n 1, 1) := by decide +kernel
theorem dX11_searched_27 : decode cX11_searched 27 = .ok (.imul, 1) := by decide +kernel
theorem dX11_searched_28 : decode cX11_searched 28 = .ok (.iload 4, 2) := by decide +kernel
theorem dX11_searched_30 : decode cX11_searched 30 = .ok (.iadd, 1) := by decide +kernel
theorem dX11_searched_31 : decode cX11_searched 31 = .ok (.iaload, 1) := by decide +kernel
theorem dX11_searched_32 : decode cX11_searched 32 = .ok (.istore 5, 2) := by decide +kernel
theorem dX11_searched_34 : decode cX11_searched 34 = .ok (.iload_n 3, 1) := by decide +kernel
theorem dX11_searched_35 : decode cX11_searched 35 = .ok (.iload 5, 2) := by decide +kernel
theorem dX11_searched_37 : decode cX11_searched 37 = .ok (.ifCond .ge 15, 3) := by decide +kernel
theorem dX11_searched_40 : decode cX11_searched 40 = .ok (.iload_n 2, 1) := by decide +kernel
theorem dX11_searched_41 : decode cX11_searched 41 = .ok (.iconst (-1), 1) := by decide +kernel
theorem dX11_searched_42 : decode cX11_searched 42 = .ok (.iload 5, 2) := by decide +kernel
theorem dX11_searched_44 : decode cX11_searched 44 = .ok (.isub, 1) := by decide +kernel
theorem dX11_searched_45 : decode cX11_searched 45 = .ok (.ishr, 1) := by decide +kernel
theorem dX11_searched_46 : decode cX11_searched 46 = .ok (.iconst 1, 1) := by decide +kernel
theorem dX11_searched_47 : decode cX11_searched 47 = .ok (.iand, 1) := by decide +kernel
theorem dX11_searched_48 : decode cX11_searched 48 = .ok (.iconst 1, 1) := by decide +kernel
theorem dX11_searched_49 : decode cX11_searched 49 = .ok (.if_icmp .ne 10, 3) := by decide +kernel
theorem dX11_searched_52 : decode cX11_searched 52 = .ok (.iconst 1, 1) := by decide +kernel
theorem dX11_searched_53 : decode cX11_searched 53 = .ok (.iload 4, 2) := by decide +kernel
theorem dX11_searched_55 : decode cX11_searched 55 = .ok (.ishl, 1) := by decide +kernel
theorem dX11_searched_56 : decode cX11_searched 56 = .ok (.goto 4, 3) := by decide +kernel
theorem dX11_searched_59 : decode cX11_searched 59 = .ok (.iconst 0, 1) := by decide +kernel
theorem dX11_searched_60 : decode cX11_searched 60 = .ok (.ior, 1) := by decide +kernel
theorem dX11_searched_61 : decode cX11_searched 61 = .ok (.istore_n 3, 1) := by decide +kernel
theorem dX11_searched_62 : decode cX11_searched 62 = .ok (.iinc 4 1, 3) := by decide +kernel
theorem dX11_searched_65 : decode cX11_searched 65 = .ok (.goto (-60), 3) := by decide +kernel
theorem dX11_searched_68 : decode cX11_searched 68 = .ok (.iload_n 3, 1) := by decide +kernel
theorem dX11_searched_69 : decode cX11_searched 69 = .ok (.ireturn, 1) := by decide +kernel
theorem dX11_bits_0 : decode cX11_bits 0 = .ok (.iload_n 0, 1) := by decide +kernel
theorem dX11_bits_1 : decode cX11_bits 1 = .ok (.iconst 1, 1) := by decide +kernel
theorem dX11_bits_2 : decode cX11_bits 2 = .ok (.iand, 1) := by decide +kernel
theorem dX11_bits_3 : decode cX11_bits 3 = .ok (.iload_n 0, 1) := by decide +kernel
theorem dX11_bits_4 : decode cX11_bits 4 = .ok (.iconst 1, 1) := by decide +kernel
theorem dX11_bits_5 : decode cX11_bits 5 = .ok (.ishr, 1) := by decide +kernel
theorem dX11_bits_6 : decode cX11_bits 6 = .ok (.iconst 1, 1) := by decide +kernel
theorem dX11_bits_7 : decode cX11_bits 7 = .ok (.iand, 1) := by decide +kernel
theorem dX11_bits_8 : decode cX11_bits 8 = .ok (.iadd, 1) := by decide +kernel
theorem dX11_bits_9 : decode cX11_bits 9 = .ok (.iload_n 0, 1) := by decide +kernel
theorem dX11_bits_10 : decode cX11_bits 10 = .ok (.iconst 2, 1) := by decide +kernel
theorem dX11_bits_11 : decode cX11_bits 11 = .ok (.ishr, 1) := by decide +kernel
theorem dX11_bits_12 : decode cX11_bits 12 = .ok (.iconst 1, 1) := by decide +kernel
theorem dX11_bits_13 : decode cX11_bits 13 = .ok (.iand, 1) := by decide +kernel
theorem dX11_bits_14 : decode cX11_bits 14 = .ok (.iadd, 1) := by decide +kernel
theorem dX11_bits_15 : decode cX11_bits 15 = .ok (.ireturn, 1) := by decide +kernel
theorem dX11_makePlan_0 : decode cX11_makePlan 0 = .ok (.aload_n 0, 1) := by decide +kernel
theorem dX11_makePlan_1 : decode cX11_makePlan 1 = .ok (.iconst 0, 1) := by decide +kernel
theorem dX11_makePlan_2 : decode cX11_makePlan 2 = .ok (.putfield 300, 3) := by decide +kernel
theorem dX11_makePlan_5 : decode cX11_makePlan 5 = .ok (.iconst 0, 1) := by decide +kernel
theorem dX11_makePlan_6 : decode cX11_makePlan 6 = .ok (.istore_n 2, 1) := by decide +kernel
theorem dX11_makePlan_7 : decode cX11_makePlan 7 = .ok (.iconst 0, 1) := by decide +kernel
theorem dX11_makePlan_8 : decode cX11_makePlan 8 = .ok (.istore_n 3, 1) := by decide +kernel
theorem dX11_makePlan_9 : decode cX11_makePlan 9 = .ok (.aload_n 0, 1) := by decide +kernel
theorem dX11_makePlan_10 : decode cX11_makePlan 10 = .ok (.getfield 300, 3) := by decide +kernel
theorem dX11_makePlan_13 : decode cX11_makePlan 13 = .ok (.aload_n 0, 1) := by decide +kernel
theorem dX11_makePlan_14 : decode cX11_makePlan 14 = .ok (.iload_n 1, 1) := by decide +kernel
theorem dX11_makePlan_15 : decode cX11_makePlan 15 = .ok (.invokevirtual 138, 3) := by decide +kernel
theorem dX11_makePlan_18 : decode cX11_makePlan 18 = .ok (.if_icmp .ge 220, 3) := by decide +kernel
theorem dX11_makePlan_21 : decode cX11_makePlan 21 = .ok (.iconst (-1), 1) := by decide +kernel
theorem dX11_makePlan_22 : decode cX11_makePlan 22 = .ok (.istore 4, 2) := by decide +kernel
theorem dX11_makePlan_24 : decode cX11_makePlan 24 = .ok (.iconst 0, 1) := by decide +kernel
theorem dX11_makePlan_25 : decode cX11_makePlan 25 = .ok (.istore 5, 2) := by decide +kernel
theorem dX11_makePlan_27 : decode cX11_makePlan 27 = .ok (.iconst 0, 1) := by decide +kernel
theorem dX11_makePlan_28 : decode cX11_makePlan 28 = .ok (.istore 6, 2) := by decide +kernel
theorem dX11_makePlan_30 : decode cX11_makePlan 30 = .ok (.iload 6, 2) := by decide +kernel
theorem dX11_makePlan_32 : decode cX11_makePlan 32 = .ok (.aload_n 0, 1) := by decide +kernel
theorem dX11_makePlan_33 : decode cX11_makePlan 33 = .ok (.getfield 53, 3) := by decide +kernel
theorem dX11_makePlan_36 : decode cX11_makePlan 36 = .ok (.iload_n 1, 1) := by decide +kernel
theorem dX11_makePlan_37 : decode cX11_makePlan 37 = .ok (.iaload, 1) := by decide +kernel
theorem dX11_makePlan_38 : decode cX11_makePlan 38 = .ok (.if_icmp .ge 86, 3) := by decide +kernel
theorem dX11_makePlan_41 : decode cX11_makePlan 41 = .ok (.iconst 5, 1) := by decide +kernel
theorem dX11_makePlan_42 : decode cX11_makePlan 42 = .ok (.iload_n 1, 1) := by decide +kernel
theorem dX11_makePlan_43 : decode cX11_makePlan 43 = .ok (.imul, 1) := by decide +kernel
theorem dX11_makePlan_44 : decode cX11_makePlan 44 = .ok (.iload 6, 2) := by decide +kernel
theorem dX11_makePlan_46 : decode cX11_makePlan 46 = .ok (.iadd, 1) := by decide +kernel
theorem dX11_makePlan_47 : decode cX11_makePlan 47 = .ok (.istore 7, 2) := by decide +kernel
theorem dX11_makePlan_49 : decode cX11_makePlan 49 = .ok (.aload_n 0, 1) := by decide +kernel
theorem dX11_makePlan_50 : decode cX11_makePlan 50 = .ok (.getfield 56, 3) := by decide +kernel
theorem dX11_makePlan_53 : decode cX11_makePlan 53 = .ok (.iload 7, 2) := by decide +kernel
theorem dX11_makePlan_55 : decode cX11_makePlan 55 = .ok (.iaload, 1) := by decide +kernel
theorem dX11_makePlan_56 : decode cX11_makePlan 56 = .ok (.ifCond .ne 13, 3) := by decide +kernel
theorem dX11_makePlan_59 : decode cX11_makePlan 59 = .ok (.aload_n 0, 1) := by decide +kernel
theorem dX11_makePlan_60 : decode cX11_makePlan 60 = .ok (.iload 7, 2) := by decide +kernel
theorem dX11_makePlan_62 : decode cX11_makePlan 62 = .ok (.iload_n 3, 1) := by decide +kernel
theorem dX11_makePlan_63 : decode cX11_makePlan 63 = .ok (.invokevirtual 303, 3) := by decide +kernel
theorem dX11_makePlan_66 : decode cX11_makePlan 66 = .ok (.goto 4, 3) := by decide +kernel
theorem dX11_makePlan_69 : decode cX11_makePlan 69 = .ok (.iconst 0, 1) := by decide +kernel
theorem dX11_makePlan_70 : decode cX11_makePlan 70 = .ok (.istore 8, 2) := by decide +kernel
theorem dX11_makePlan_72 : decode cX11_makePlan 72 = .ok (.aload_n 0, 1) := by decide +kernel
theorem dX11_makePlan_73 : decode cX11_makePlan 73 = .ok (.getfield 56, 3) := by decide +kernel
theorem dX11_makePlan_76 : decode cX11_makePlan 76 = .ok (.iload 7, 2) := by decide +kernel
theorem dX11_makePlan_78 : decode cX11_makePlan 78 = .ok (.iaload, 1) := by decide +kernel
theorem dX11_makePlan_79 : decode cX11_makePlan 79 = .ok (.ifCond .ne 39, 3) := by decide +kernel
theorem dX11_makePlan_82 : decode cX11_makePlan 82 = .ok (.iload_n 2, 1) := by decide +kernel
theorem dX11_makePlan_83 : decode cX11_makePlan 83 = .ok (.iload 6, 2) := by decide +kernel
theorem dX11_makePlan_85 : decode cX11_makePlan 85 = .ok (.ishr, 1) := by decide +kernel
theorem dX11_makePlan_86 : decode cX11_makePlan 86 = .ok (.iconst 1, 1) := by decide +kernel
theorem dX11_makePlan_87 : decode cX11_makePlan 87 = .ok (.iand, 1) := by decide +kernel
theorem dX11_makePlan_88 : decode cX11_makePlan 88 = .ok (.ifCond .ne 30, 3) := by decide +kernel
theorem dX11_makePlan_91 : decode cX11_makePlan 91 = .ok (.iload 4, 2) := by decide +kernel
theorem dX11_makePlan_93 : decode cX11_makePlan 93 = .ok (.iconst (-1), 1) := by decide +kernel
theorem dX11_makePlan_94 : decode cX11_makePlan 94 = .ok (.if_icmp .eq 16, 3) := by decide +kernel
theorem dX11_makePlan_97 : decode cX11_makePlan 97 = .ok (.iload 8, 2) := by decide +kernel
theorem dX11_makePlan_99 : decode cX11_makePlan 99 = .ok (.invokestatic 306, 3) := by decide +kernel
theorem dX11_makePlan_102 : decode cX11_makePlan 102 = .ok (.iload 5, 2) := by decide +kernel
theorem dX11_makePlan_104 : decode cX11_makePlan 104 = .ok (.invokestatic 306, 3) := by decide +kernel
theorem dX11_makePlan_107 : decode cX11_makePlan 107 = .ok (.if_icmp .le 11, 3) := by decide +kernel
theorem dX11_makePlan_110 : decode cX11_makePlan 110 = .ok (.iload 6, 2) := by decide +kernel
theorem dX11_makePlan_112 : decode cX11_makePlan 112 = .ok (.istore 4, 2) := by decide +kernel
theorem dX11_makePlan_114 : decode cX11_makePlan 114 = .ok (.iload 8, 2) := by decide +kernel
theorem dX11_makePlan_116 : decode cX11_makePlan 116 = .ok (.istore 5, 2) := by decide +kernel
theorem dX11_makePlan_118 : decode cX11_makePlan 118 = .ok (.iinc 6 1, 3) := by decide +kernel
theorem dX11_makePlan_121 : decode cX11_makePlan 121 = .ok (.goto (-91), 3) := by decide +kernel
theorem dX11_makePlan_124 : decode cX11_makePlan 124 = .ok (.aload_n 0, 1) := by decide +kernel
theorem dX11_makePlan_125 : decode cX11_makePlan 125 = .ok (.getfield 92, 3) := by decide +kernel
theorem dX11_makePlan_128 : decode cX11_makePlan 128 = .ok (.aload_n 0, 1) := by decide +kernel
theorem dX11_makePlan_129 : decode cX11_makePlan 129 = .ok (.getfield 300, 3) := by decide +kernel
theorem dX11_makePlan_132 : decode cX11_makePlan 132 = .ok (.iload 4, 2) := by decide +kernel
theorem dX11_makePlan_134 : decode cX11_makePlan 134 = .ok (.iastore, 1) := by decide +kernel
theorem dX11_makePlan_135 : decode cX11_makePlan 135 = .ok (.aload_n 0, 1) := by decide +kernel
theorem dX11_makePlan_136 : decode cX11_makePlan 136 = .ok (.getfield 95, 3) := by decide +kernel
theorem dX11_makePlan_139 : decode cX11_makePlan 139 = .ok (.aload_n 0, 1) := by decide +kernel
theorem dX11_makePlan_140 : decode cX11_makePlan 140 = .ok (.getfield 300, 3) := by decide +kernel
theorem dX11_makePlan_143 : decode cX11_makePlan 143 = .ok (.iload 5, 2) := by decide +kernel
theorem dX11_makePlan_145 : decode cX11_makePlan 145 = .ok (.iastore, 1) := by decide +kernel
theorem dX11_makePlan_146 : decode cX11_makePlan 146 = .ok (.aload_n 0, 1) := by decide +kernel
theorem dX11_makePlan_147 : decode cX11_makePlan 147 = .ok (.dup, 1) := by decide +kernel
theorem dX11_makePlan_148 : decode cX11_makePlan 148 = .ok (.getfield 300, 3) := by decide +kernel
theorem dX11_makePlan_151 : decode cX11_makePlan 151 = .ok (.iconst 1, 1) := by decide +kernel
theorem dX11_makePlan_152 : decode cX11_makePlan 152 = .ok (.iadd, 1) := by decide +kernel
theorem dX11_makePlan_153 : decode cX11_makePlan 153 = .ok (.putfield 300, 3) := by decide +kernel
theorem dX11_makePlan_156 : decode cX11_makePlan 156 = .ok (.iload_n 2, 1) := by decide +kernel
theorem dX11_makePlan_157 : decode cX11_makePlan 157 = .ok (.iconst 1, 1) := by decide +kernel
theorem dX11_makePlan_158 : decode cX11_makePlan 158 = .ok (.iload 4, 2) := by decide +kernel
theorem dX11_makePlan_160 : decode cX11_makePlan 160 = .ok (.ishl, 1) := by decide +kernel
theorem dX11_makePlan_161 : decode cX11_makePlan 161 = .ok (.ior, 1) := by decide +kernel
theorem dX11_makePlan_162 : decode cX11_makePlan 162 = .ok (.istore_n 2, 1) := by decide +kernel
theorem dX11_makePlan_163 : decode cX11_makePlan 163 = .ok (.iconst 5, 1) := by decide +kernel
theorem dX11_makePlan_164 : decode cX11_makePlan 164 = .ok (.iload_n 1, 1) := by decide +kernel
theorem dX11_makePlan_165 : decode cX11_makePlan 165 = .ok (.imul, 1) := by decide +kernel
theorem dX11_makePlan_166 : decode cX11_makePlan 166 = .ok (.iload 4, 2) := by decide +kernel
theorem dX11_makePlan_168 : decode cX11_makePlan 168 = .ok (.iadd, 1) := by decide +kernel
theorem dX11_makePlan_169 : decode cX11_makePlan 169 = .ok (.istore 6, 2) := by decide +kernel
theorem dX11_makePlan_171 : decode cX11_makePlan 171 = .ok (.iconst 0, 1) := by decide +kernel
theorem dX11_makePlan_172 : decode cX11_makePlan 172 = .ok (.istore 7, 2) := by decide +kernel
theorem dX11_makePlan_174 : decode cX11_makePlan 174 = .ok (.iload 7, 2) := by decide +kernel
theorem dX11_makePlan_176 : decode cX11_makePlan 176 = .ok (.aload_n 0, 1) := by decide +kernel
theorem dX11_makePlan_177 : decode cX11_makePlan 177 = .ok (.getfield 13, 3) := by decide +kernel
theorem dX11_makePlan_180 : decode cX11_makePlan 180 = .ok (.aload_n 0, 1) := by decide +kernel
theorem dX11_makePlan_181 : decode cX11_makePlan 181 = .ok (.getfield 59, 3) := by decide +kernel
theorem dX11_makePlan_184 : decode cX11_makePlan 184 = .ok (.iload 6, 2) := by decide +kernel
theorem dX11_makePlan_186 : decode cX11_makePlan 186 = .ok (.iaload, 1) := by decide +kernel
theorem dX11_makePlan_187 : decode cX11_makePlan 187 = .ok (.iaload, 1) := by decide +kernel
theorem dX11_makePlan_188 : decode cX11_makePlan 188 = .ok (.if_icmp .ge 47, 3) := by decide +kernel
theorem dX11_makePlan_191 : decode cX11_makePlan 191 = .ok (.iload_n 3, 1) := by decide +kernel
theorem dX11_makePlan_192 : decode cX11_makePlan 192 = .ok (.aload_n 0, 1) := by decide +kernel
theorem dX11_makePlan_193 : decode cX11_makePlan 193 = .ok (.getfield 62, 3) := by decide +kernel
theorem dX11_makePlan_196 : decode cX11_makePlan 196 = .ok (.iconst 3, 1) := by decide +kernel
theorem dX11_makePlan_197 : decode cX11_makePlan 197 = .ok (.iload 6, 2) := by decide +kernel
theorem dX11_makePlan_199 : decode cX11_makePlan 199 = .ok (.imul, 1) := by decide +kernel
theorem dX11_makePlan_200 : decode cX11_makePlan 200 = .ok (.iload 7, 2) := by decide +kernel
theorem dX11_makePlan_202 : decode cX11_makePlan 202 = .ok (.iadd, 1) := by decide +kernel
theorem dX11_makePlan_203 : decode cX11_makePlan 203 = .ok (.iaload, 1) := by decide +kernel
theorem dX11_makePlan_204 : decode cX11_makePlan 204 = .ok (.ifCond .ge 22, 3) := by decide +kernel
theorem dX11_makePlan_207 : decode cX11_makePlan 207 = .ok (.iconst 1, 1) := by decide +kernel
theorem dX11_makePlan_208 : decode cX11_makePlan 208 = .ok (.iconst (-1), 1) := by decide +kernel
theorem dX11_makePlan_209 : decode cX11_makePlan 209 = .ok (.aload_n 0, 1) := by decide +kernel
theorem dX11_makePlan_210 : decode cX11_makePlan 210 = .ok (.getfield 62, 3) := by decide +kernel
theorem dX11_makePlan_213 : decode cX11_makePlan 213 = .ok (.iconst 3, 1) := by decide +kernel
theorem dX11_makePlan_214 : decode cX11_makePlan 214 = .ok (.iload 6, 2) := by decide +kernel
theorem dX11_makePlan_216 : decode cX11_makePlan 216 = .ok (.imul, 1) := by decide +kernel
theorem dX11_makePlan_217 : decode cX11_makePlan 217 = .ok (.iload 7, 2) := by decide +kernel
theorem dX11_makePlan_219 : decode cX11_makePlan 219 = .ok (.iadd, 1) := by decide +kernel
theorem dX11_makePlan_220 : decode cX11_makePlan 220 = .ok (.iaload, 1) := by decide +kernel
theorem dX11_makePlan_221 : decode cX11_makePlan 221 = .ok (.isub, 1) := by decide +kernel
theorem dX11_makePlan_222 : decode cX11_makePlan 222 = .ok (.ishl, 1) := by decide +kernel
theorem dX11_makePlan_223 : decode cX11_makePlan 223 = .ok (.goto 4, 3) := by decide +kernel
theorem dX11_makePlan_226 : decode cX11_makePlan 226 = .ok (.iconst 0, 1) := by decide +kernel
theorem dX11_makePlan_227 : decode cX11_makePlan 227 = .ok (.ior, 1) := by decide +kernel
theorem dX11_makePlan_228 : decode cX11_makePlan 228 = .ok (.istore_n 3, 1) := by decide +kernel
theorem dX11_makePlan_229 : decode cX11_makePlan 229 = .ok (.iinc 7 1, 3) := by decide +kernel
theorem dX11_makePlan_232 : decode cX11_makePlan 232 = .ok (.goto (-58), 3) := by decide +kernel
theorem dX11_makePlan_235 : decode cX11_makePlan 235 = .ok (.goto (-226), 3) := by decide +kernel
theorem dX11_makePlan_238 : decode cX11_makePlan 238 = .ok (.return_, 1) := by decide +kernel
theorem dX11_order_0 : decode cX11_order 0 = .ok (.iload_n 1, 1) := by decide +kernel
theorem dX11_order_1 : decode cX11_order 1 = .ok (.iconst 0, 1) := by decide +kernel
theorem dX11_order_2 : decode cX11_order 2 = .ok (.aload_n 0, 1) := by decide +kernel
theorem dX11_order_3 : decode cX11_order 3 = .ok (.getfield 159, 3) := by decide +kernel
theorem dX11_order_6 : decode cX11_order 6 = .ok (.iconst 1, 1) := by decide +kernel
theorem dX11_order_7 : decode cX11_order 7 = .ok (.isub, 1) := by decide +kernel
theorem dX11_order_8 : decode cX11_order 8 = .ok (.invokestatic 102, 3) := by decide +kernel
theorem dX11_order_11 : decode cX11_order 11 = .ok (.ifCond .eq 11, 3) := by decide +kernel
theorem dX11_order_14 : decode cX11_order 14 = .ok (.iload_n 2, 1) := by decide +kernel
theorem dX11_order_15 : decode cX11_order 15 = .ok (.ifCond .lt 7, 3) := by decide +kernel
theorem dX11_order_18 : decode cX11_order 18 = .ok (.iconst 1, 1) := by decide +kernel
theorem dX11_order_19 : decode cX11_order 19 = .ok (.goto 4, 3) := by decide +kernel
theorem dX11_order_22 : decode cX11_order 22 = .ok (.iconst 0, 1) := by decide +kernel
theorem dX11_order_23 : decode cX11_order 23 = .ok (.istore_n 3, 1) := by decide +kernel
theorem dX11_order_24 : decode cX11_order 24 = .ok (.aload_n 0, 1) := by decide +kernel
theorem dX11_order_25 : decode cX11_order 25 = .ok (.iload_n 3, 1) := by decide +kernel
theorem dX11_order_26 : decode cX11_order 26 = .ok (.ifCond .eq 7, 3) := by decide +kernel
theorem dX11_order_29 : decode cX11_order 29 = .ok (.iconst 0, 1) := by decide +kernel
theorem dX11_order_30 : decode cX11_order 30 = .ok (.goto 4, 3) := by decide +kernel
theorem dX11_order_33 : decode cX11_order 33 = .ok (.iconst 1, 1) := by decide +kernel
theorem dX11_order_34 : decode cX11_order 34 = .ok (.invokevirtual 113, 3) := by decide +kernel
theorem dX11_order_37 : decode cX11_order 37 = .ok (.ifCond .eq 5, 3) := by decide +kernel
theorem dX11_order_40 : decode cX11_order 40 = .ok (.iconst 0, 1) := by decide +kernel
theorem dX11_order_41 : decode cX11_order 41 = .ok (.ireturn, 1) := by decide +kernel
theorem dX11_order_42 : decode cX11_order 42 = .ok (.aload_n 0, 1) := by decide +kernel
theorem dX11_order_43 : decode cX11_order 43 = .ok (.iload_n 1, 1) := by decide +kernel
theorem dX11_order_44 : decode cX11_order 44 = .ok (.invokevirtual 309, 3) := by decide +kernel
theorem dX11_order_47 : decode cX11_order 47 = .ok (.iload_n 2, 1) := by decide +kernel
theorem dX11_order_48 : decode cX11_order 48 = .ok (.aload_n 0, 1) := by decide +kernel
theorem dX11_order_49 : decode cX11_order 49 = .ok (.getfield 300, 3) := by decide +kernel
theorem dX11_order_52 : decode cX11_order 52 = .ok (.if_icmp .ge 12, 3) := by decide +kernel
theorem dX11_order_55 : decode cX11_order 55 = .ok (.aload_n 0, 1) := by decide +kernel
theorem dX11_order_56 : decode cX11_order 56 = .ok (.getfield 92, 3) := by decide +kernel
theorem dX11_order_59 : decode cX11_order 59 = .ok (.iload_n 2, 1) := by decide +kernel
theorem dX11_order_60 : decode cX11_order 60 = .ok (.iaload, 1) := by decide +kernel
theorem dX11_order_61 : decode cX11_order 61 = .ok (.goto 4, 3) := by decide +kernel
theorem dX11_order_64 : decode cX11_order 64 = .ok (.iconst (-1), 1) := by decide +kernel
theorem dX11_order_65 : decode cX11_order 65 = .ok (.ireturn, 1) := by decide +kernel
theorem dX11_areKeyed_0 : decode cX11_areKeyed 0 = .ok (.aload_n 0, 1) := by decide +kernel
theorem dX11_areKeyed_1 : decode cX11_areKeyed 1 = .ok (.getfield 56, 3) := by decide +kernel
theorem dX11_areKeyed_4 : decode cX11_areKeyed 4 = .ok (.iload_n 1, 1) := by decide +kernel
theorem dX11_areKeyed_5 : decode cX11_areKeyed 5 = .ok (.iaload, 1) := by decide +kernel
theorem dX11_areKeyed_6 : decode cX11_areKeyed 6 = .ok (.ifCond .ne 70, 3) := by decide +kernel
theorem dX11_areKeyed_9 : decode cX11_areKeyed 9 = .ok (.aload_n 0, 1) := by decide +kernel
theorem dX11_areKeyed_10 : decode cX11_areKeyed 10 = .ok (.getfield 56, 3) := by decide +kernel
theorem dX11_areKeyed_13 : decode cX11_areKeyed 13 = .ok (.iload_n 2, 1) := by decide +kernel
theorem dX11_areKeyed_14 : decode cX11_areKeyed 14 = .ok (.iaload, 1) := by decide +kernel
theorem dX11_areKeyed_15 : decode cX11_areKeyed 15 = .ok (.ifCond .ne 61, 3) := by decide +kernel
theorem dX11_areKeyed_18 : decode cX11_areKeyed 18 = .ok (.aload_n 0, 1) := by decide +kernel
theorem dX11_areKeyed_19 : decode cX11_areKeyed 19 = .ok (.getfield 59, 3) := by decide +kernel
theorem dX11_areKeyed_22 : decode cX11_areKeyed 22 = .ok (.iload_n 1, 1) := by decide +kernel
theorem dX11_areKeyed_23 : decode cX11_areKeyed 23 = .ok (.iaload, 1) := by decide +kernel
theorem dX11_areKeyed_24 : decode cX11_areKeyed 24 = .ok (.aload_n 0, 1) := by decide +kernel
theorem dX11_areKeyed_25 : decode cX11_areKeyed 25 = .ok (.getfield 59, 3) := by decide +kernel
theorem dX11_areKeyed_28 : decode cX11_areKeyed 28 = .ok (.iload_n 2, 1) := by decide +kernel
theorem dX11_areKeyed_29 : decode cX11_areKeyed 29 = .ok (.iaload, 1) := by decide +kernel
theorem dX11_areKeyed_30 : decode cX11_areKeyed 30 = .ok (.if_icmp .ne 46, 3) := by decide +kernel
theorem dX11_areKeyed_33 : decode cX11_areKeyed 33 = .ok (.aload_n 0, 1) := by decide +kernel
theorem dX11_areKeyed_34 : decode cX11_areKeyed 34 = .ok (.getfield 17, 3) := by decide +kernel
theorem dX11_areKeyed_37 : decode cX11_areKeyed 37 = .ok (.aload_n 0, 1) := by decide +kernel
theorem dX11_areKeyed_38 : decode cX11_areKeyed 38 = .ok (.getfield 59, 3) := by decide +kernel
theorem dX11_areKeyed_41 : decode cX11_areKeyed 41 = .ok (.iload_n 1, 1) := by decide +kernel
theorem dX11_areKeyed_42 : decode cX11_areKeyed 42 = .ok (.iaload, 1) := by decide +kernel
theorem dX11_areKeyed_43 : decode cX11_areKeyed 43 = .ok (.iaload, 1) := by decide +kernel
theorem dX11_areKeyed_44 : decode cX11_areKeyed 44 = .ok (.ifCond .ne 32, 3) := by decide +kernel
theorem dX11_areKeyed_47 : decode cX11_areKeyed 47 = .ok (.aload_n 0, 1) := by decide +kernel
theorem dX11_areKeyed_48 : decode cX11_areKeyed 48 = .ok (.getfield 20, 3) := by decide +kernel
theorem dX11_areKeyed_51 : decode cX11_areKeyed 51 = .ok (.aload_n 0, 1) := by decide +kernel
theorem dX11_areKeyed_52 : decode cX11_areKeyed 52 = .ok (.getfield 59, 3) := by decide +kernel
theorem dX11_areKeyed_55 : decode cX11_areKeyed 55 = .ok (.iload_n 1, 1) := by decide +kernel
theorem dX11_areKeyed_56 : decode cX11_areKeyed 56 = .ok (.iaload, 1) := by decide +kernel
theorem dX11_areKeyed_57 : decode cX11_areKeyed 57 = .ok (.iaload, 1) := by decide +kernel
theorem dX11_areKeyed_58 : decode cX11_areKeyed 58 = .ok (.aload_n 0, 1) := by decide +kernel
theorem dX11_areKeyed_59 : decode cX11_areKeyed 59 = .ok (.getfield 13, 3) := by decide +kernel
theorem dX11_areKeyed_62 : decode cX11_areKeyed 62 = .ok (.aload_n 0, 1) := by decide +kernel
theorem dX11_areKeyed_63 : decode cX11_areKeyed 63 = .ok (.getfield 59, 3) := by decide +kernel
theorem dX11_areKeyed_66 : decode cX11_areKeyed 66 = .ok (.iload_n 1, 1) := by decide +kernel
theorem dX11_areKeyed_67 : decode cX11_areKeyed 67 = .ok (.iaload, 1) := by decide +kernel
theorem dX11_areKeyed_68 : decode cX11_areKeyed 68 = .ok (.iaload, 1) := by decide +kernel
theorem dX11_areKeyed_69 : decode cX11_areKeyed 69 = .ok (.if_icmp .ge 7, 3) := by decide +kernel
theorem dX11_areKeyed_72 : decode cX11_areKeyed 72 = .ok (.iconst 1, 1) := by decide +kernel
theorem dX11_areKeyed_73 : decode cX11_areKeyed 73 = .ok (.goto 4, 3) := by decide +kernel
theorem dX11_areKeyed_76 : decode cX11_areKeyed 76 = .ok (.iconst 0, 1) := by decide +kernel
theorem dX11_areKeyed_77 : decode cX11_areKeyed 77 = .ok (.istore_n 3, 1) := by decide +kernel
theorem dX11_areKeyed_78 : decode cX11_areKeyed 78 = .ok (.iconst 0, 1) := by decide +kernel
theorem dX11_areKeyed_79 : decode cX11_areKeyed 79 = .ok (.istore 4, 2) := by decide +kernel
theorem dX11_areKeyed_81 : decode cX11_areKeyed 81 = .ok (.iload_n 3, 1) := by decide +kernel
theorem dX11_areKeyed_82 : decode cX11_areKeyed 82 = .ok (.ifCond .eq 56, 3) := by decide +kernel
theorem dX11_areKeyed_85 : decode cX11_areKeyed 85 = .ok (.iload 4, 2) := by decide +kernel
theorem dX11_areKeyed_87 : decode cX11_areKeyed 87 = .ok (.aload_n 0, 1) := by decide +kernel
theorem dX11_areKeyed_88 : decode cX11_areKeyed 88 = .ok (.getfield 20, 3) := by decide +kernel
theorem dX11_areKeyed_91 : decode cX11_areKeyed 91 = .ok (.aload_n 0, 1) := by decide +kernel
theorem dX11_areKeyed_92 : decode cX11_areKeyed 92 = .ok (.getfield 59, 3) := by decide +kernel
theorem dX11_areKeyed_95 : decode cX11_areKeyed 95 = .ok (.iload_n 1, 1) := by decide +kernel
theorem dX11_areKeyed_96 : decode cX11_areKeyed 96 = .ok (.iaload, 1) := by decide +kernel
theorem dX11_areKeyed_97 : decode cX11_areKeyed 97 = .ok (.iaload, 1) := by decide +kernel
theorem dX11_areKeyed_98 : decode cX11_areKeyed 98 = .ok (.if_icmp .ge 40, 3) := by decide +kernel
theorem dX11_areKeyed_101 : decode cX11_areKeyed 101 = .ok (.aload_n 0, 1) := by decide +kernel
theorem dX11_areKeyed_102 : decode cX11_areKeyed 102 = .ok (.getfield 62, 3) := by decide +kernel
theorem dX11_areKeyed_105 : decode cX11_areKeyed 105 = .ok (.iconst 3, 1) := by decide +kernel
theorem dX11_areKeyed_106 : decode cX11_areKeyed 106 = .ok (.iload_n 1, 1) := by decide +kernel
theorem dX11_areKeyed_107 : decode cX11_areKeyed 107 = .ok (.imul, 1) := by decide +kernel
theorem dX11_areKeyed_108 : decode cX11_areKeyed 108 = .ok (.iload 4, 2) := by decide +kernel
theorem dX11_areKeyed_110 : decode cX11_areKeyed 110 = .ok (.iadd, 1) := by decide +kernel
theorem dX11_areKeyed_111 : decode cX11_areKeyed 111 = .ok (.iaload, 1) := by decide +kernel
theorem dX11_areKeyed_112 : decode cX11_areKeyed 112 = .ok (.aload_n 0, 1) := by decide +kernel
theorem dX11_areKeyed_113 : decode cX11_areKeyed 113 = .ok (.getfield 62, 3) := by decide +kernel
theorem dX11_areKeyed_116 : decode cX11_areKeyed 116 = .ok (.iconst 3, 1) := by decide +kernel
theorem dX11_areKeyed_117 : decode cX11_areKeyed 117 = .ok (.iload_n 2, 1) := by decide +kernel
theorem dX11_areKeyed_118 : decode cX11_areKeyed 118 = .ok (.imul, 1) := by decide +kernel
theorem dX11_areKeyed_119 : decode cX11_areKeyed 119 = .ok (.iload 4, 2) := by decide +kernel
theorem dX11_areKeyed_121 : decode cX11_areKeyed 121 = .ok (.iadd, 1) := by decide +kernel
theorem dX11_areKeyed_122 : decode cX11_areKeyed 122 = .ok (.iaload, 1) := by decide +kernel
theorem dX11_areKeyed_123 : decode cX11_areKeyed 123 = .ok (.if_icmp .ne 7, 3) := by decide +kernel
theorem dX11_areKeyed_126 : decode cX11_areKeyed 126 = .ok (.iconst 1, 1) := by decide +kernel
theorem dX11_areKeyed_127 : decode cX11_areKeyed 127 = .ok (.goto 4, 3) := by decide +kernel
theorem dX11_areKeyed_130 : decode cX11_areKeyed 130 = .ok (.iconst 0, 1) := by decide +kernel
theorem dX11_areKeyed_131 : decode cX11_areKeyed 131 = .ok (.istore_n 3, 1) := by decide +kernel
theorem dX11_areKeyed_132 : decode cX11_areKeyed 132 = .ok (.iinc 4 1, 3) := by decide +kernel
theorem dX11_areKeyed_135 : decode cX11_areKeyed 135 = .ok (.goto (-54), 3) := by decide +kernel
theorem dX11_areKeyed_138 : decode cX11_areKeyed 138 = .ok (.iload_n 3, 1) := by decide +kernel
theorem dX11_areKeyed_139 : decode cX11_areKeyed 139 = .ok (.ireturn, 1) := by decide +kernel
theorem dX11_joins_0 : decode cX11_joins 0 = .ok (.aload_n 0, 1) := by decide +kernel
theorem dX11_joins_1 : decode cX11_joins 1 = .ok (.iload_n 1, 1) := by decide +kernel
theorem dX11_joins_2 : decode cX11_joins 2 = .ok (.iconst 0, 1) := by decide +kernel
theorem dX11_joins_3 : decode cX11_joins 3 = .ok (.aload_n 0, 1) := by decide +kernel
theorem dX11_joins_4 : decode cX11_joins 4 = .ok (.getfield 159, 3) := by decide +kernel
theorem dX11_joins_7 : decode cX11_joins 7 = .ok (.iconst 1, 1) := by decide +kernel
theorem dX11_joins_8 : decode cX11_joins 8 = .ok (.isub, 1) := by decide +kernel
theorem dX11_joins_9 : decode cX11_joins 9 = .ok (.invokestatic 102, 3) := by decide +kernel
theorem dX11_joins_12 : decode cX11_joins 12 = .ok (.ifCond .eq 7, 3) := by decide +kernel
theorem dX11_joins_15 : decode cX11_joins 15 = .ok (.iconst 0, 1) := by decide +kernel
theorem dX11_joins_16 : decode cX11_joins 16 = .ok (.goto 4, 3) := by decide +kernel
theorem dX11_joins_19 : decode cX11_joins 19 = .ok (.iconst 1, 1) := by decide +kernel
theorem dX11_joins_20 : decode cX11_joins 20 = .ok (.invokevirtual 113, 3) := by decide +kernel
theorem dX11_joins_23 : decode cX11_joins 23 = .ok (.ifCond .eq 5, 3) := by decide +kernel
theorem dX11_joins_26 : decode cX11_joins 26 = .ok (.iconst 0, 1) := by decide +kernel
theorem dX11_joins_27 : decode cX11_joins 27 = .ok (.ireturn, 1) := by decide +kernel
theorem dX11_joins_28 : decode cX11_joins 28 = .ok (.iconst 0, 1) := by decide +kernel
theorem dX11_joins_29 : decode cX11_joins 29 = .ok (.istore_n 2, 1) := by decide +kernel
theorem dX11_joins_30 : decode cX11_joins 30 = .ok (.iconst 5, 1) := by decide +kernel
theorem dX11_joins_31 : decode cX11_joins 31 = .ok (.iload_n 1, 1) := by decide +kernel
theorem dX11_joins_32 : decode cX11_joins 32 = .ok (.imul, 1) := by decide +kernel
theorem dX11_joins_33 : decode cX11_joins 33 = .ok (.istore_n 3, 1) := by decide +kernel
theorem dX11_joins_34 : decode cX11_joins 34 = .ok (.iload_n 3, 1) := by decide +kernel
theorem dX11_joins_35 : decode cX11_joins 35 = .ok (.iconst 5, 1) := by decide +kernel
theorem dX11_joins_36 : decode cX11_joins 36 = .ok (.iload_n 1, 1) := by decide +kernel
theorem dX11_joins_37 : decode cX11_joins 37 = .ok (.imul, 1) := by decide +kernel
theorem dX11_joins_38 : decode cX11_joins 38 = .ok (.aload_n 0, 1) := by decide +kernel
theorem dX11_joins_39 : decode cX11_joins 39 = .ok (.getfield 53, 3) := by decide +kernel
theorem dX11_joins_42 : decode cX11_joins 42 = .ok (.iload_n 1, 1) := by decide +kernel
theorem dX11_joins_43 : decode cX11_joins 43 = .ok (.iaload, 1) := by decide +kernel
theorem dX11_joins_44 : decode cX11_joins 44 = .ok (.iadd, 1) := by decide +kernel
theorem dX11_joins_45 : decode cX11_joins 45 = .ok (.if_icmp .ge 73, 3) := by decide +kernel
theorem dX11_joins_48 : decode cX11_joins 48 = .ok (.iconst 0, 1) := by decide +kernel
theorem dX11_joins_49 : decode cX11_joins 49 = .ok (.istore 4, 2) := by decide +kernel
theorem dX11_joins_51 : decode cX11_joins 51 = .ok (.iconst 5, 1) := by decide +kernel
theorem dX11_joins_52 : decode cX11_joins 52 = .ok (.iload_n 1, 1) := by decide +kernel
theorem dX11_joins_53 : decode cX11_joins 53 = .ok (.imul, 1) := by decide +kernel
theorem dX11_joins_54 : decode cX11_joins 54 = .ok (.istore 5, 2) := by decide +kernel
theorem dX11_joins_56 : decode cX11_joins 56 = .ok (.iload 5, 2) := by decide +kernel
theorem dX11_joins_58 : decode cX11_joins 58 = .ok (.iload_n 3, 1) := by decide +kernel
theorem dX11_joins_59 : decode cX11_joins 59 = .ok (.if_icmp .ge 31, 3) := by decide +kernel
theorem dX11_joins_62 : decode cX11_joins 62 = .ok (.iload 4, 2) := by decide +kernel
theorem dX11_joins_64 : decode cX11_joins 64 = .ok (.ifCond .ne 13, 3) := by decide +kernel
theorem dX11_joins_67 : decode cX11_joins 67 = .ok (.aload_n 0, 1) := by decide +kernel
theorem dX11_joins_68 : decode cX11_joins 68 = .ok (.iload 5, 2) := by decide +kernel
theorem dX11_joins_70 : decode cX11_joins 70 = .ok (.iload_n 3, 1) := by decide +kernel
theorem dX11_joins_71 : decode cX11_joins 71 = .ok (.invokevirtual 312, 3) := by decide +kernel
theorem dX11_joins_74 : decode cX11_joins 74 = .ok (.ifCond .eq 7, 3) := by decide +kernel
theorem dX11_joins_77 : decode cX11_joins 77 = .ok (.iconst 1, 1) := by decide +kernel
theorem dX11_joins_78 : decode cX11_joins 78 = .ok (.goto 4, 3) := by decide +kernel
theorem dX11_joins_81 : decode cX11_joins 81 = .ok (.iconst 0, 1) := by decide +kernel
theorem dX11_joins_82 : decode cX11_joins 82 = .ok (.istore 4, 2) := by decide +kernel
theorem dX11_joins_84 : decode cX11_joins 84 = .ok (.iinc 5 1, 3) := by decide +kernel
theorem dX11_joins_87 : decode cX11_joins 87 = .ok (.goto (-31), 3) := by decide +kernel
theorem dX11_joins_90 : decode cX11_joins 90 = .ok (.iload_n 2, 1) := by decide +kernel
theorem dX11_joins_91 : decode cX11_joins 91 = .ok (.aload_n 0, 1) := by decide +kernel
theorem dX11_joins_92 : decode cX11_joins 92 = .ok (.getfield 56, 3) := by decide +kernel
theorem dX11_joins_95 : decode cX11_joins 95 = .ok (.iload_n 3, 1) := by decide +kernel
theorem dX11_joins_96 : decode cX11_joins 96 = .ok (.iaload, 1) := by decide +kernel
theorem dX11_joins_97 : decode cX11_joins 97 = .ok (.ifCond .ne 12, 3) := by decide +kernel
theorem dX11_joins_100 : decode cX11_joins 100 = .ok (.iload 4, 2) := by decide +kernel
theorem dX11_joins_102 : decode cX11_joins 102 = .ok (.ifCond .ne 7, 3) := by decide +kernel
theorem dX11_joins_105 : decode cX11_joins 105 = .ok (.iconst 1, 1) := by decide +kernel
theorem dX11_joins_106 : decode cX11_joins 106 = .ok (.goto 4, 3) := by decide +kernel
theorem dX11_joins_109 : decode cX11_joins 109 = .ok (.iconst 0, 1) := by decide +kernel
theorem dX11_joins_110 : decode cX11_joins 110 = .ok (.iadd, 1) := by decide +kernel
theorem dX11_joins_111 : decode cX11_joins 111 = .ok (.istore_n 2, 1) := by decide +kernel
theorem dX11_joins_112 : decode cX11_joins 112 = .ok (.iinc 3 1, 3) := by decide +kernel
theorem dX11_joins_115 : decode cX11_joins 115 = .ok (.goto (-81), 3) := by decide +kernel
theorem dX11_joins_118 : decode cX11_joins 118 = .ok (.iload_n 2, 1) := by decide +kernel
theorem dX11_joins_119 : decode cX11_joins 119 = .ok (.ireturn, 1) := by decide +kernel
theorem dX11_served_0 : decode cX11_served 0 = .ok (.iload_n 0, 1) := by decide +kernel
theorem dX11_served_1 : decode cX11_served 1 = .ok (.iconst 2, 1) := by decide +kernel
theorem dX11_served_2 : decode cX11_served 2 = .ok (.idiv, 1) := by decide +kernel
theorem dX11_served_3 : decode cX11_served 3 = .ok (.istore_n 1, 1) := by decide +kernel
theorem dX11_served_4 : decode cX11_served 4 = .ok (.iload_n 0, 1) := by decide +kernel
theorem dX11_served_5 : decode cX11_served 5 = .ok (.iconst 2, 1) := by decide +kernel
theorem dX11_served_6 : decode cX11_served 6 = .ok (.irem, 1) := by decide +kernel
theorem dX11_served_7 : decode cX11_served 7 = .ok (.ifCond .ne 15, 3) := by decide +kernel
theorem dX11_served_10 : decode cX11_served 10 = .ok (.iload_n 1, 1) := by decide +kernel
theorem dX11_served_11 : decode cX11_served 11 = .ok (.ifCond .ne 7, 3) := by decide +kernel
theorem dX11_served_14 : decode cX11_served 14 = .ok (.iconst 1, 1) := by decide +kernel
theorem dX11_served_15 : decode cX11_served 15 = .ok (.goto 17, 3) := by decide +kernel
theorem dX11_served_18 : decode cX11_served 18 = .ok (.iconst 0, 1) := by decide +kernel
theorem dX11_served_19 : decode cX11_served 19 = .ok (.goto 13, 3) := by decide +kernel
theorem dX11_served_22 : decode cX11_served 22 = .ok (.iload_n 1, 1) := by decide +kernel
theorem dX11_served_23 : decode cX11_served 23 = .ok (.iconst 2, 1) := by decide +kernel
theorem dX11_served_24 : decode cX11_served 24 = .ok (.if_icmp .ne 7, 3) := by decide +kernel
theorem dX11_served_27 : decode cX11_served 27 = .ok (.iconst 1, 1) := by decide +kernel
theorem dX11_served_28 : decode cX11_served 28 = .ok (.goto 4, 3) := by decide +kernel
theorem dX11_served_31 : decode cX11_served 31 = .ok (.iconst 2, 1) := by decide +kernel
theorem dX11_served_32 : decode cX11_served 32 = .ok (.istore_n 2, 1) := by decide +kernel
theorem dX11_served_33 : decode cX11_served 33 = .ok (.iconst 1, 1) := by decide +kernel
theorem dX11_served_34 : decode cX11_served 34 = .ok (.iconst 1, 1) := by decide +kernel
theorem dX11_served_35 : decode cX11_served 35 = .ok (.iload_n 1, 1) := by decide +kernel
theorem dX11_served_36 : decode cX11_served 36 = .ok (.ishl, 1) := by decide +kernel
theorem dX11_served_37 : decode cX11_served 37 = .ok (.ishl, 1) := by decide +kernel
theorem dX11_served_38 : decode cX11_served 38 = .ok (.iconst 1, 1) := by decide +kernel
theorem dX11_served_39 : decode cX11_served 39 = .ok (.iconst 1, 1) := by decide +kernel
theorem dX11_served_40 : decode cX11_served 40 = .ok (.iload_n 1, 1) := by decide +kernel
theorem dX11_served_41 : decode cX11_served 41 = .ok (.ishl, 1) := by decide +kernel
theorem dX11_served_42 : decode cX11_served 42 = .ok (.iconst 1, 1) := by decide +kernel
theorem dX11_served_43 : decode cX11_served 43 = .ok (.iload_n 2, 1) := by decide +kernel
theorem dX11_served_44 : decode cX11_served 44 = .ok (.ishl, 1) := by decide +kernel
theorem dX11_served_45 : decode cX11_served 45 = .ok (.ior, 1) := by decide +kernel
theorem dX11_served_46 : decode cX11_served 46 = .ok (.ishl, 1) := by decide +kernel
theorem dX11_served_47 : decode cX11_served 47 = .ok (.ior, 1) := by decide +kernel
theorem dX11_served_48 : decode cX11_served 48 = .ok (.sipush 128, 3) := by decide +kernel
theorem dX11_served_51 : decode cX11_served 51 = .ok (.ior, 1) := by decide +kernel
theorem dX11_served_52 : decode cX11_served 52 = .ok (.ireturn, 1) := by decide +kernel
theorem dX11_indexes_0 : decode cX11_indexes 0 = .ok (.aload_n 0, 1) := by decide +kernel
theorem dX11_indexes_1 : decode cX11_indexes 1 = .ok (.iload_n 1, 1) := by decide +kernel
theorem dX11_indexes_2 : decode cX11_indexes 2 = .ok (.invokevirtual 246, 3) := by decide +kernel
theorem dX11_indexes_5 : decode cX11_indexes 5 = .ok (.ifCond .eq 5, 3) := by decide +kernel
theorem dX11_indexes_8 : decode cX11_indexes 8 = .ok (.iconst 0, 1) := by decide +kernel
theorem dX11_indexes_9 : decode cX11_indexes 9 = .ok (.ireturn, 1) := by decide +kernel
theorem dX11_indexes_10 : decode cX11_indexes 10 = .ok (.iconst 0, 1) := by decide +kernel
theorem dX11_indexes_11 : decode cX11_indexes 11 = .ok (.istore_n 2, 1) := by decide +kernel
theorem dX11_indexes_12 : decode cX11_indexes 12 = .ok (.iconst 0, 1) := by decide +kernel
theorem dX11_indexes_13 : decode cX11_indexes 13 = .ok (.istore_n 3, 1) := by decide +kernel
theorem dX11_indexes_14 : decode cX11_indexes 14 = .ok (.iload_n 3, 1) := by decide +kernel
theorem dX11_indexes_15 : decode cX11_indexes 15 = .ok (.aload_n 0, 1) := by decide +kernel
theorem dX11_indexes_16 : decode cX11_indexes 16 = .ok (.getfield 159, 3) := by decide +kernel
theorem dX11_indexes_19 : decode cX11_indexes 19 = .ok (.if_icmp .ge 87, 3) := by decide +kernel
theorem dX11_indexes_22 : decode cX11_indexes 22 = .ok (.aload_n 0, 1) := by decide +kernel
theorem dX11_indexes_23 : decode cX11_indexes 23 = .ok (.getfield 44, 3) := by decide +kernel
theorem dX11_indexes_26 : decode cX11_indexes 26 = .ok (.iload_n 3, 1) := by decide +kernel
theorem dX11_indexes_27 : decode cX11_indexes 27 = .ok (.baload, 1) := by decide +kernel
theorem dX11_indexes_28 : decode cX11_indexes 28 = .ok (.ifCond .ne 72, 3) := by decide +kernel
theorem dX11_indexes_31 : decode cX11_indexes 31 = .ok (.aload_n 0, 1) := by decide +kernel
theorem dX11_indexes_32 : decode cX11_indexes 32 = .ok (.iload_n 3, 1) := by decide +kernel
theorem dX11_indexes_33 : decode cX11_indexes 33 = .ok (.invokevirtual 309, 3) := by decide +kernel
theorem dX11_indexes_36 : decode cX11_indexes 36 = .ok (.iconst 0, 1) := by decide +kernel
theorem dX11_indexes_37 : decode cX11_indexes 37 = .ok (.istore 4, 2) := by decide +kernel
theorem dX11_indexes_39 : decode cX11_indexes 39 = .ok (.iload 4, 2) := by decide +kernel
theorem dX11_indexes_41 : decode cX11_indexes 41 = .ok (.aload_n 0, 1) := by decide +kernel
theorem dX11_indexes_42 : decode cX11_indexes 42 = .ok (.getfield 300, 3) := by decide +kernel
theorem dX11_indexes_45 : decode cX11_indexes 45 = .ok (.if_icmp .ge 55, 3) := by decide +kernel
theorem dX11_indexes_48 : decode cX11_indexes 48 = .ok (.iload_n 2, 1) := by decide +kernel
theorem dX11_indexes_49 : decode cX11_indexes 49 = .ok (.aload_n 0, 1) := by decide +kernel
theorem dX11_indexes_50 : decode cX11_indexes 50 = .ok (.getfield 59, 3) := by decide +kernel
theorem dX11_indexes_53 : decode cX11_indexes 53 = .ok (.iconst 5, 1) := by decide +kernel
theorem dX11_indexes_54 : decode cX11_indexes 54 = .ok (.iload_n 3, 1) := by decide +kernel
theorem dX11_indexes_55 : decode cX11_indexes 55 = .ok (.imul, 1) := by decide +kernel
theorem dX11_indexes_56 : decode cX11_indexes 56 = .ok (.aload_n 0, 1) := by decide +kernel
theorem dX11_indexes_57 : decode cX11_indexes 57 = .ok (.getfield 92, 3) := by decide +kernel
theorem dX11_indexes_60 : decode cX11_indexes 60 = .ok (.iload 4, 2) := by decide +kernel
theorem dX11_indexes_62 : decode cX11_indexes 62 = .ok (.iaload, 1) := by decide +kernel
theorem dX11_indexes_63 : decode cX11_indexes 63 = .ok (.iadd, 1) := by decide +kernel
theorem dX11_indexes_64 : decode cX11_indexes 64 = .ok (.iaload, 1) := by decide +kernel
theorem dX11_indexes_65 : decode cX11_indexes 65 = .ok (.iload_n 1, 1) := by decide +kernel
theorem dX11_indexes_66 : decode cX11_indexes 66 = .ok (.if_icmp .ne 25, 3) := by decide +kernel
theorem dX11_indexes_69 : decode cX11_indexes 69 = .ok (.aload_n 0, 1) := by decide +kernel
theorem dX11_indexes_70 : decode cX11_indexes 70 = .ok (.getfield 95, 3) := by decide +kernel
theorem dX11_indexes_73 : decode cX11_indexes 73 = .ok (.iload 4, 2) := by decide +kernel
theorem dX11_indexes_75 : decode cX11_indexes 75 = .ok (.iaload, 1) := by decide +kernel
theorem dX11_indexes_76 : decode cX11_indexes 76 = .ok (.ifCond .eq 15, 3) := by decide +kernel
theorem dX11_indexes_79 : decode cX11_indexes 79 = .ok (.iconst 1, 1) := by decide +kernel
theorem dX11_indexes_80 : decode cX11_indexes 80 = .ok (.aload_n 0, 1) := by decide +kernel
theorem dX11_indexes_81 : decode cX11_indexes 81 = .ok (.getfield 95, 3) := by decide +kernel
theorem dX11_indexes_84 : decode cX11_indexes 84 = .ok (.iload 4, 2) := by decide +kernel
theorem dX11_indexes_86 : decode cX11_indexes 86 = .ok (.iaload, 1) := by decide +kernel
theorem dX11_indexes_87 : decode cX11_indexes 87 = .ok (.ishl, 1) := by decide +kernel
theorem dX11_indexes_88 : decode cX11_indexes 88 = .ok (.goto 4, 3) := by decide +kernel
theorem dX11_indexes_91 : decode cX11_indexes 91 = .ok (.iconst 0, 1) := by decide +kernel
theorem dX11_indexes_92 : decode cX11_indexes 92 = .ok (.ior, 1) := by decide +kernel
theorem dX11_indexes_93 : decode cX11_indexes 93 = .ok (.istore_n 2, 1) := by decide +kernel
theorem dX11_indexes_94 : decode cX11_indexes 94 = .ok (.iinc 4 1, 3) := by decide +kernel
theorem dX11_indexes_97 : decode cX11_indexes 97 = .ok (.goto (-58), 3) := by decide +kernel
theorem dX11_indexes_100 : decode cX11_indexes 100 = .ok (.iinc 3 1, 3) := by decide +kernel
theorem dX11_indexes_103 : decode cX11_indexes 103 = .ok (.goto (-89), 3) := by decide +kernel
theorem dX11_indexes_106 : decode cX11_indexes 106 = .ok (.bipush 6, 2) := by decide +kernel
theorem dX11_indexes_108 : decode cX11_indexes 108 = .ok (.istore_n 3, 1) := by decide +kernel
theorem dX11_indexes_109 : decode cX11_indexes 109 = .ok (.iconst 0, 1) := by decide +kernel
theorem dX11_indexes_110 : decode cX11_indexes 110 = .ok (.istore 4, 2) := by decide +kernel
theorem dX11_indexes_112 : decode cX11_indexes 112 = .ok (.iload 4, 2) := by decide +kernel
theorem dX11_indexes_114 : decode cX11_indexes 114 = .ok (.bipush 64, 2) := by decide +kernel
theorem dX11_indexes_116 : decode cX11_indexes 116 = .ok (.if_icmp .ge 105, 3) := by decide +kernel
theorem dX11_indexes_119 : decode cX11_indexes 119 = .ok (.iconst 0, 1) := by decide +kernel
theorem dX11_indexes_120 : decode cX11_indexes 120 = .ok (.istore 5, 2) := by decide +kernel
theorem dX11_indexes_122 : decode cX11_indexes 122 = .ok (.iconst 0, 1) := by decide +kernel
theorem dX11_indexes_123 : decode cX11_indexes 123 = .ok (.istore 6, 2) := by decide +kernel
theorem dX11_indexes_125 : decode cX11_indexes 125 = .ok (.iconst 0, 1) := by decide +kernel
theorem dX11_indexes_126 : decode cX11_indexes 126 = .ok (.istore 7, 2) := by decide +kernel
theorem dX11_indexes_128 : decode cX11_indexes 128 = .ok (.iload 7, 2) := by decide +kernel
theorem dX11_indexes_130 : decode cX11_indexes 130 = .ok (.bipush 6, 2) := by decide +kernel
theorem dX11_indexes_132 : decode cX11_indexes 132 = .ok (.if_icmp .ge 61, 3) := by decide +kernel
theorem dX11_indexes_135 : decode cX11_indexes 135 = .ok (.iload 4, 2) := by decide +kernel
theorem dX11_indexes_137 : decode cX11_indexes 137 = .ok (.iload 7, 2) := by decide +kernel
theorem dX11_indexes_139 : decode cX11_indexes 139 = .ok (.ishr, 1) := by decide +kernel
theorem dX11_indexes_140 : decode cX11_indexes 140 = .ok (.iconst 1, 1) := by decide +kernel
theorem dX11_indexes_141 : decode cX11_indexes 141 = .ok (.iand, 1) := by decide +kernel
theorem dX11_indexes_142 : decode cX11_indexes 142 = .ok (.iconst 1, 1) := by decide +kernel
theorem dX11_indexes_143 : decode cX11_indexes 143 = .ok (.if_icmp .ne 7, 3) := by decide +kernel
theorem dX11_indexes_146 : decode cX11_indexes 146 = .ok (.iconst 1, 1) := by decide +kernel
theorem dX11_indexes_147 : decode cX11_indexes 147 = .ok (.goto 4, 3) := by decide +kernel
theorem dX11_indexes_150 : decode cX11_indexes 150 = .ok (.iconst 0, 1) := by decide +kernel
theorem dX11_indexes_151 : decode cX11_indexes 151 = .ok (.istore 8, 2) := by decide +kernel
theorem dX11_indexes_153 : decode cX11_indexes 153 = .ok (.iload 5, 2) := by decide +kernel
theorem dX11_indexes_155 : decode cX11_indexes 155 = .ok (.iload 8, 2) := by decide +kernel
theorem dX11_indexes_157 : decode cX11_indexes 157 = .ok (.ifCond .eq 11, 3) := by decide +kernel
theorem dX11_indexes_160 : decode cX11_indexes 160 = .ok (.iload 7, 2) := by decide +kernel
theorem dX11_indexes_162 : decode cX11_indexes 162 = .ok (.invokestatic 315, 3) := by decide +kernel
theorem dX11_indexes_165 : decode cX11_indexes 165 = .ok (.goto 4, 3) := by decide +kernel
theorem dX11_indexes_168 : decode cX11_indexes 168 = .ok (.iconst 0, 1) := by decide +kernel
theorem dX11_indexes_169 : decode cX11_indexes 169 = .ok (.ior, 1) := by decide +kernel
theorem dX11_indexes_170 : decode cX11_indexes 170 = .ok (.istore 5, 2) := by decide +kernel
theorem dX11_indexes_172 : decode cX11_indexes 172 = .ok (.iload 6, 2) := by decide +kernel
theorem dX11_indexes_174 : decode cX11_indexes 174 = .ok (.iload 8, 2) := by decide +kernel
theorem dX11_indexes_176 : decode cX11_indexes 176 = .ok (.ifCond .eq 7, 3) := by decide +kernel
theorem dX11_indexes_179 : decode cX11_indexes 179 = .ok (.iconst 1, 1) := by decide +kernel
theorem dX11_indexes_180 : decode cX11_indexes 180 = .ok (.goto 4, 3) := by decide +kernel
theorem dX11_indexes_183 : decode cX11_indexes 183 = .ok (.iconst 0, 1) := by decide +kernel
theorem dX11_indexes_184 : decode cX11_indexes 184 = .ok (.iadd, 1) := by decide +kernel
theorem dX11_indexes_185 : decode cX11_indexes 185 = .ok (.istore 6, 2) := by decide +kernel
theorem dX11_indexes_187 : decode cX11_indexes 187 = .ok (.iinc 7 1, 3) := by decide +kernel
theorem dX11_indexes_190 : decode cX11_indexes 190 = .ok (.goto (-62), 3) := by decide +kernel
theorem dX11_indexes_193 : decode cX11_indexes 193 = .ok (.iload_n 2, 1) := by decide +kernel
theorem dX11_indexes_194 : decode cX11_indexes 194 = .ok (.iload 5, 2) := by decide +kernel
theorem dX11_indexes_196 : decode cX11_indexes 196 = .ok (.iconst (-1), 1) := by decide +kernel
theorem dX11_indexes_197 : decode cX11_indexes 197 = .ok (.ixor, 1) := by decide +kernel
theorem dX11_indexes_198 : decode cX11_indexes 198 = .ok (.iand, 1) := by decide +kernel
theorem dX11_indexes_199 : decode cX11_indexes 199 = .ok (.ifCond .ne 14, 3) := by decide +kernel
theorem dX11_indexes_202 : decode cX11_indexes 202 = .ok (.iload 6, 2) := by decide +kernel
theorem dX11_indexes_204 : decode cX11_indexes 204 = .ok (.iload_n 3, 1) := by decide +kernel
theorem dX11_indexes_205 : decode cX11_indexes 205 = .ok (.if_icmp .ge 8, 3) := by decide +kernel
theorem dX11_indexes_208 : decode cX11_indexes 208 = .ok (.iload 6, 2) := by decide +kernel
theorem dX11_indexes_210 : decode cX11_indexes 210 = .ok (.goto 4, 3) := by decide +kernel
theorem dX11_indexes_213 : decode cX11_indexes 213 = .ok (.iload_n 3, 1) := by decide +kernel
theorem dX11_indexes_214 : decode cX11_indexes 214 = .ok (.istore_n 3, 1) := by decide +kernel
theorem dX11_indexes_215 : decode cX11_indexes 215 = .ok (.iinc 4 1, 3) := by decide +kernel
theorem dX11_indexes_218 : decode cX11_indexes 218 = .ok (.goto (-106), 3) := by decide +kernel
theorem dX11_indexes_221 : decode cX11_indexes 221 = .ok (.iload_n 3, 1) := by decide +kernel
theorem dX11_indexes_222 : decode cX11_indexes 222 = .ok (.ireturn, 1) := by decide +kernel
