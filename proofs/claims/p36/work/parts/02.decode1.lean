theorem dJ6_bitCount_0f7a4_52 : decode cJ6_bitCount_0f7a4 52 = .ok (.ireturn, 1) := by decide +kernel
theorem dJ9_max_7cf53_0 : decode cJ9_max_7cf53 0 = .ok (.iload_n 0, 1) := by decide +kernel
theorem dJ9_max_7cf53_1 : decode cJ9_max_7cf53 1 = .ok (.iload_n 1, 1) := by decide +kernel
theorem dJ9_max_7cf53_2 : decode cJ9_max_7cf53 2 = .ok (.if_icmp .lt 7, 3) := by decide +kernel
theorem dJ9_max_7cf53_5 : decode cJ9_max_7cf53 5 = .ok (.iload_n 0, 1) := by decide +kernel
theorem dJ9_max_7cf53_6 : decode cJ9_max_7cf53 6 = .ok (.goto 4, 3) := by decide +kernel
theorem dJ9_max_7cf53_9 : decode cJ9_max_7cf53 9 = .ok (.iload_n 1, 1) := by decide +kernel
theorem dJ9_max_7cf53_10 : decode cJ9_max_7cf53 10 = .ok (.ireturn, 1) := by decide +kernel
theorem dJ9_min_7cf53_0 : decode cJ9_min_7cf53 0 = .ok (.iload_n 0, 1) := by decide +kernel
theorem dJ9_min_7cf53_1 : decode cJ9_min_7cf53 1 = .ok (.iload_n 1, 1) := by decide +kernel
theorem dJ9_min_7cf53_2 : decode cJ9_min_7cf53 2 = .ok (.if_icmp .gt 7, 3) := by decide +kernel
theorem dJ9_min_7cf53_5 : decode cJ9_min_7cf53 5 = .ok (.iload_n 0, 1) := by decide +kernel
theorem dJ9_min_7cf53_6 : decode cJ9_min_7cf53 6 = .ok (.goto 4, 3) := by decide +kernel
theorem dJ9_min_7cf53_9 : decode cJ9_min_7cf53 9 = .ok (.iload_n 1, 1) := by decide +kernel
theorem dJ9_min_7cf53_10 : decode cJ9_min_7cf53 10 = .ok (.ireturn, 1) := by decide +kernel
theorem dL_cell_0 : decode cL_cell 0 = .ok (.iload_n 1, 1) := by decide +kernel
theorem dL_cell_1 : decode cL_cell 1 = .ok (.aload_n 0, 1) := by decide +kernel
theorem dL_cell_2 : decode cL_cell 2 = .ok (.arraylength, 1) := by decide +kernel
theorem dL_cell_3 : decode cL_cell 3 = .ok (.if_icmp .ge 9, 3) := by decide +kernel
theorem dL_cell_6 : decode cL_cell 6 = .ok (.aload_n 0, 1) := by decide +kernel
theorem dL_cell_7 : decode cL_cell 7 = .ok (.iload_n 1, 1) := by decide +kernel
theorem dL_cell_8 : decode cL_cell 8 = .ok (.iaload, 1) := by decide +kernel
theorem dL_cell_9 : decode cL_cell 9 = .ok (.goto 9, 3) := by decide +kernel
theorem dL_cell_12 : decode cL_cell 12 = .ok (.ldc 7, 2) := by decide +kernel
theorem dL_cell_14 : decode cL_cell 14 = .ok (.iload_n 1, 1) := by decide +kernel
theorem dL_cell_15 : decode cL_cell 15 = .ok (.iconst 3, 1) := by decide +kernel
theorem dL_cell_16 : decode cL_cell 16 = .ok (.iadd, 1) := by decide +kernel
theorem dL_cell_17 : decode cL_cell 17 = .ok (.imul, 1) := by decide +kernel
theorem dL_cell_18 : decode cL_cell 18 = .ok (.ireturn, 1) := by decide +kernel
theorem dL_up_0 : decode cL_up 0 = .ok (.iload_n 0, 1) := by decide +kernel
theorem dL_up_1 : decode cL_up 1 = .ok (.ldc 8, 2) := by decide +kernel
theorem dL_up_3 : decode cL_up 3 = .ok (.iand, 1) := by decide +kernel
theorem dL_up_4 : decode cL_up 4 = .ok (.iload_n 1, 1) := by decide +kernel
theorem dL_up_5 : decode cL_up 5 = .ok (.irem, 1) := by decide +kernel
theorem dL_up_6 : decode cL_up 6 = .ok (.ireturn, 1) := by decide +kernel
theorem dL_divisor_0 : decode cL_divisor 0 = .ok (.lload_n 0, 1) := by decide +kernel
theorem dL_divisor_1 : decode cL_divisor 1 = .ok (.lconst 0, 1) := by decide +kernel
theorem dL_divisor_2 : decode cL_divisor 2 = .ok (.lcmp, 1) := by decide +kernel
theorem dL_divisor_3 : decode cL_divisor 3 = .ok (.ifCond .ge 8, 3) := by decide +kernel
theorem dL_divisor_6 : decode cL_divisor 6 = .ok (.lload_n 0, 1) := by decide +kernel
theorem dL_divisor_7 : decode cL_divisor 7 = .ok (.lneg, 1) := by decide +kernel
theorem dL_divisor_8 : decode cL_divisor 8 = .ok (.goto 4, 3) := by decide +kernel
theorem dL_divisor_11 : decode cL_divisor 11 = .ok (.lload_n 0, 1) := by decide +kernel
theorem dL_divisor_12 : decode cL_divisor 12 = .ok (.lstore 4, 2) := by decide +kernel
theorem dL_divisor_14 : decode cL_divisor 14 = .ok (.lload_n 2, 1) := by decide +kernel
theorem dL_divisor_15 : decode cL_divisor 15 = .ok (.lconst 0, 1) := by decide +kernel
theorem dL_divisor_16 : decode cL_divisor 16 = .ok (.lcmp, 1) := by decide +kernel
theorem dL_divisor_17 : decode cL_divisor 17 = .ok (.ifCond .ge 8, 3) := by decide +kernel
theorem dL_divisor_20 : decode cL_divisor 20 = .ok (.lload_n 2, 1) := by decide +kernel
theorem dL_divisor_21 : decode cL_divisor 21 = .ok (.lneg, 1) := by decide +kernel
theorem dL_divisor_22 : decode cL_divisor 22 = .ok (.goto 4, 3) := by decide +kernel
theorem dL_divisor_25 : decode cL_divisor 25 = .ok (.lload_n 2, 1) := by decide +kernel
theorem dL_divisor_26 : decode cL_divisor 26 = .ok (.lstore 6, 2) := by decide +kernel
theorem dL_divisor_28 : decode cL_divisor 28 = .ok (.lload 6, 2) := by decide +kernel
theorem dL_divisor_30 : decode cL_divisor 30 = .ok (.lconst 0, 1) := by decide +kernel
theorem dL_divisor_31 : decode cL_divisor 31 = .ok (.lcmp, 1) := by decide +kernel
theorem dL_divisor_32 : decode cL_divisor 32 = .ok (.ifCond .le 21, 3) := by decide +kernel
theorem dL_divisor_35 : decode cL_divisor 35 = .ok (.lload 4, 2) := by decide +kernel
theorem dL_divisor_37 : decode cL_divisor 37 = .ok (.lload 6, 2) := by decide +kernel
theorem dL_divisor_39 : decode cL_divisor 39 = .ok (.lrem, 1) := by decide +kernel
theorem dL_divisor_40 : decode cL_divisor 40 = .ok (.lstore 8, 2) := by decide +kernel
theorem dL_divisor_42 : decode cL_divisor 42 = .ok (.lload 6, 2) := by decide +kernel
theorem dL_divisor_44 : decode cL_divisor 44 = .ok (.lstore 4, 2) := by decide +kernel
theorem dL_divisor_46 : decode cL_divisor 46 = .ok (.lload 8, 2) := by decide +kernel
theorem dL_divisor_48 : decode cL_divisor 48 = .ok (.lstore 6, 2) := by decide +kernel
theorem dL_divisor_50 : decode cL_divisor 50 = .ok (.goto (-22), 3) := by decide +kernel
theorem dL_divisor_53 : decode cL_divisor 53 = .ok (.lload 4, 2) := by decide +kernel
theorem dL_divisor_55 : decode cL_divisor 55 = .ok (.lreturn, 1) := by decide +kernel
theorem dL_tells_0 : decode cL_tells 0 = .ok (.aload_n 1, 1) := by decide +kernel
theorem dL_tells_1 : decode cL_tells 1 = .ok (.iload_n 2, 1) := by decide +kernel
theorem dL_tells_2 : decode cL_tells 2 = .ok (.invokestatic 9, 3) := by decide +kernel
theorem dL_tells_5 : decode cL_tells 5 = .ok (.istore 4, 2) := by decide +kernel
theorem dL_tells_7 : decode cL_tells 7 = .ok (.aload_n 3, 1) := by decide +kernel
theorem dL_tells_8 : decode cL_tells 8 = .ok (.iconst 0, 1) := by decide +kernel
theorem dL_tells_9 : decode cL_tells 9 = .ok (.iconst 2, 1) := by decide +kernel
theorem dL_tells_10 : decode cL_tells 10 = .ok (.iload 4, 2) := by decide +kernel
theorem dL_tells_12 : decode cL_tells 12 = .ok (.bipush 6, 2) := by decide +kernel
theorem dL_tells_14 : decode cL_tells 14 = .ok (.invokestatic 15, 3) := by decide +kernel
theorem dL_tells_17 : decode cL_tells 17 = .ok (.iadd, 1) := by decide +kernel
theorem dL_tells_18 : decode cL_tells 18 = .ok (.iastore, 1) := by decide +kernel
theorem dL_tells_19 : decode cL_tells 19 = .ok (.aload_n 3, 1) := by decide +kernel
theorem dL_tells_20 : decode cL_tells 20 = .ok (.iconst 1, 1) := by decide +kernel
theorem dL_tells_21 : decode cL_tells 21 = .ok (.iload 4, 2) := by decide +kernel
theorem dL_tells_23 : decode cL_tells 23 = .ok (.iconst 3, 1) := by decide +kernel
theorem dL_tells_24 : decode cL_tells 24 = .ok (.ishr, 1) := by decide +kernel
theorem dL_tells_25 : decode cL_tells 25 = .ok (.bipush 11, 2) := by decide +kernel
theorem dL_tells_27 : decode cL_tells 27 = .ok (.invokestatic 15, 3) := by decide +kernel
theorem dL_tells_30 : decode cL_tells 30 = .ok (.iastore, 1) := by decide +kernel
theorem dL_tells_31 : decode cL_tells 31 = .ok (.aload_n 0, 1) := by decide +kernel
theorem dL_tells_32 : decode cL_tells 32 = .ok (.aload_n 3, 1) := by decide +kernel
theorem dL_tells_33 : decode cL_tells 33 = .ok (.iconst 0, 1) := by decide +kernel
theorem dL_tells_34 : decode cL_tells 34 = .ok (.iaload, 1) := by decide +kernel
theorem dL_tells_35 : decode cL_tells 35 = .ok (.invokevirtual 19, 3) := by decide +kernel
theorem dL_tells_38 : decode cL_tells 38 = .ok (.iconst 2, 1) := by decide +kernel
theorem dL_tells_39 : decode cL_tells 39 = .ok (.if_icmp .ge 5, 3) := by decide +kernel
theorem dL_tells_42 : decode cL_tells 42 = .ok (.iconst 0, 1) := by decide +kernel
theorem dL_tells_43 : decode cL_tells 43 = .ok (.ireturn, 1) := by decide +kernel
theorem dL_tells_44 : decode cL_tells 44 = .ok (.iconst 0, 1) := by decide +kernel
theorem dL_tells_45 : decode cL_tells 45 = .ok (.istore 5, 2) := by decide +kernel
theorem dL_tells_47 : decode cL_tells 47 = .ok (.iload 5, 2) := by decide +kernel
theorem dL_tells_49 : decode cL_tells 49 = .ok (.aload_n 3, 1) := by decide +kernel
theorem dL_tells_50 : decode cL_tells 50 = .ok (.iconst 1, 1) := by decide +kernel
theorem dL_tells_51 : decode cL_tells 51 = .ok (.iaload, 1) := by decide +kernel
theorem dL_tells_52 : decode cL_tells 52 = .ok (.if_icmp .ge 267, 3) := by decide +kernel
theorem dL_tells_55 : decode cL_tells 55 = .ok (.aload_n 1, 1) := by decide +kernel
theorem dL_tells_56 : decode cL_tells 56 = .ok (.iload_n 2, 1) := by decide +kernel
theorem dL_tells_57 : decode cL_tells 57 = .ok (.iconst 1, 1) := by decide +kernel
theorem dL_tells_58 : decode cL_tells 58 = .ok (.iadd, 1) := by decide +kernel
theorem dL_tells_59 : decode cL_tells 59 = .ok (.iload 5, 2) := by decide +kernel
theorem dL_tells_61 : decode cL_tells 61 = .ok (.iadd, 1) := by decide +kernel
theorem dL_tells_62 : decode cL_tells 62 = .ok (.invokestatic 9, 3) := by decide +kernel
theorem dL_tells_65 : decode cL_tells 65 = .ok (.istore 6, 2) := by decide +kernel
theorem dL_tells_67 : decode cL_tells 67 = .ok (.iload 6, 2) := by decide +kernel
theorem dL_tells_69 : decode cL_tells 69 = .ok (.aload_n 3, 1) := by decide +kernel
theorem dL_tells_70 : decode cL_tells 70 = .ok (.iconst 0, 1) := by decide +kernel
theorem dL_tells_71 : decode cL_tells 71 = .ok (.iaload, 1) := by decide +kernel
theorem dL_tells_72 : decode cL_tells 72 = .ok (.invokestatic 15, 3) := by decide +kernel
theorem dL_tells_75 : decode cL_tells 75 = .ok (.istore 7, 2) := by decide +kernel
theorem dL_tells_77 : decode cL_tells 77 = .ok (.iload 7, 2) := by decide +kernel
theorem dL_tells_79 : decode cL_tells 79 = .ok (.iconst 1, 1) := by decide +kernel
theorem dL_tells_80 : decode cL_tells 80 = .ok (.iadd, 1) := by decide +kernel
theorem dL_tells_81 : decode cL_tells 81 = .ok (.iload 6, 2) := by decide +kernel
theorem dL_tells_83 : decode cL_tells 83 = .ok (.iconst 4, 1) := by decide +kernel
theorem dL_tells_84 : decode cL_tells 84 = .ok (.ishr, 1) := by decide +kernel
theorem dL_tells_85 : decode cL_tells 85 = .ok (.aload_n 3, 1) := by decide +kernel
theorem dL_tells_86 : decode cL_tells 86 = .ok (.iconst 0, 1) := by decide +kernel
theorem dL_tells_87 : decode cL_tells 87 = .ok (.iaload, 1) := by decide +kernel
theorem dL_tells_88 : decode cL_tells 88 = .ok (.iconst 1, 1) := by decide +kernel
theorem dL_tells_89 : decode cL_tells 89 = .ok (.isub, 1) := by decide +kernel
theorem dL_tells_90 : decode cL_tells 90 = .ok (.invokestatic 15, 3) := by decide +kernel
theorem dL_tells_93 : decode cL_tells 93 = .ok (.iadd, 1) := by decide +kernel
theorem dL_tells_94 : decode cL_tells 94 = .ok (.aload_n 3, 1) := by decide +kernel
theorem dL_tells_95 : decode cL_tells 95 = .ok (.iconst 0, 1) := by decide +kernel
theorem dL_tells_96 : decode cL_tells 96 = .ok (.iaload, 1) := by decide +kernel
theorem dL_tells_97 : decode cL_tells 97 = .ok (.irem, 1) := by decide +kernel
theorem dL_tells_98 : decode cL_tells 98 = .ok (.istore 8, 2) := by decide +kernel
theorem dL_tells_100 : decode cL_tells 100 = .ok (.aload_n 3, 1) := by decide +kernel
theorem dL_tells_101 : decode cL_tells 101 = .ok (.iconst 4, 1) := by decide +kernel
theorem dL_tells_102 : decode cL_tells 102 = .ok (.iload 5, 2) := by decide +kernel
theorem dL_tells_104 : decode cL_tells 104 = .ok (.iadd, 1) := by decide +kernel
theorem dL_tells_105 : decode cL_tells 105 = .ok (.iload 7, 2) := by decide +kernel
theorem dL_tells_107 : decode cL_tells 107 = .ok (.iload 8, 2) := by decide +kernel
theorem dL_tells_109 : decode cL_tells 109 = .ok (.if_icmp .ge 8, 3) := by decide +kernel
theorem dL_tells_112 : decode cL_tells 112 = .ok (.iload 7, 2) := by decide +kernel
theorem dL_tells_114 : decode cL_tells 114 = .ok (.goto 5, 3) := by decide +kernel
theorem dL_tells_117 : decode cL_tells 117 = .ok (.iload 8, 2) := by decide +kernel
theorem dL_tells_119 : decode cL_tells 119 = .ok (.iastore, 1) := by decide +kernel
theorem dL_tells_120 : decode cL_tells 120 = .ok (.aload_n 3, 1) := by decide +kernel
theorem dL_tells_121 : decode cL_tells 121 = .ok (.bipush 14, 2) := by decide +kernel
theorem dL_tells_123 : decode cL_tells 123 = .ok (.iload 5, 2) := by decide +kernel
theorem dL_tells_125 : decode cL_tells 125 = .ok (.iadd, 1) := by decide +kernel
theorem dL_tells_126 : decode cL_tells 126 = .ok (.iload 7, 2) := by decide +kernel
theorem dL_tells_128 : decode cL_tells 128 = .ok (.iload 8, 2) := by decide +kernel
theorem dL_tells_130 : decode cL_tells 130 = .ok (.if_icmp .ge 8, 3) := by decide +kernel
theorem dL_tells_133 : decode cL_tells 133 = .ok (.iload 8, 2) := by decide +kernel
theorem dL_tells_135 : decode cL_tells 135 = .ok (.goto 5, 3) := by decide +kernel
theorem dL_tells_138 : decode cL_tells 138 = .ok (.iload 7, 2) := by decide +kernel
theorem dL_tells_140 : decode cL_tells 140 = .ok (.iastore, 1) := by decide +kernel
theorem dL_tells_141 : decode cL_tells 141 = .ok (.aload_n 3, 1) := by decide +kernel
theorem dL_tells_142 : decode cL_tells 142 = .ok (.bipush 34, 2) := by decide +kernel
theorem dL_tells_144 : decode cL_tells 144 = .ok (.iload 5, 2) := by decide +kernel
theorem dL_tells_146 : decode cL_tells 146 = .ok (.iadd, 1) := by decide +kernel
theorem dL_tells_147 : decode cL_tells 147 = .ok (.iconst 1, 1) := by decide +kernel
theorem dL_tells_148 : decode cL_tells 148 = .ok (.iload 6, 2) := by decide +kernel
theorem dL_tells_150 : decode cL_tells 150 = .ok (.bipush 8, 2) := by decide +kernel
theorem dL_tells_152 : decode cL_tells 152 = .ok (.ishr, 1) := by decide +kernel
theorem dL_tells_153 : decode cL_tells 153 = .ok (.iload 4, 2) := by decide +kernel
theorem dL_tells_155 : decode cL_tells 155 = .ok (.bipush 8, 2) := by decide +kernel
theorem dL_tells_157 : decode cL_tells 157 = .ok (.ishr, 1) := by decide +kernel
theorem dL_tells_158 : decode cL_tells 158 = .ok (.iconst 1, 1) := by decide +kernel
theorem dL_tells_159 : decode cL_tells 159 = .ok (.iand, 1) := by decide +kernel
theorem dL_tells_160 : decode cL_tells 160 = .ok (.ifCond .ne 7, 3) := by decide +kernel
theorem dL_tells_163 : decode cL_tells 163 = .ok (.iconst 4, 1) := by decide +kernel
theorem dL_tells_164 : decode cL_tells 164 = .ok (.goto 5, 3) := by decide +kernel
theorem dL_tells_167 : decode cL_tells 167 = .ok (.bipush 9, 2) := by decide +kernel
theorem dL_tells_169 : decode cL_tells 169 = .ok (.invokestatic 15, 3) := by decide +kernel
theorem dL_tells_172 : decode cL_tells 172 = .ok (.iadd, 1) := by decide +kernel
theorem dL_tells_173 : decode cL_tells 173 = .ok (.iastore, 1) := by decide +kernel
theorem dL_tells_174 : decode cL_tells 174 = .ok (.aload_n 3, 1) := by decide +kernel
theorem dL_tells_175 : decode cL_tells 175 = .ok (.bipush 24, 2) := by decide +kernel
theorem dL_tells_177 : decode cL_tells 177 = .ok (.iload 5, 2) := by decide +kernel
theorem dL_tells_179 : decode cL_tells 179 = .ok (.iadd, 1) := by decide +kernel
theorem dL_tells_180 : decode cL_tells 180 = .ok (.iload 6, 2) := by decide +kernel
theorem dL_tells_182 : decode cL_tells 182 = .ok (.bipush 12, 2) := by decide +kernel
theorem dL_tells_184 : decode cL_tells 184 = .ok (.ishr, 1) := by decide +kernel
theorem dL_tells_185 : decode cL_tells 185 = .ok (.bipush 7, 2) := by decide +kernel
theorem dL_tells_187 : decode cL_tells 187 = .ok (.iand, 1) := by decide +kernel
theorem dL_tells_188 : decode cL_tells 188 = .ok (.ifCond .ne 7, 3) := by decide +kernel
theorem dL_tells_191 : decode cL_tells 191 = .ok (.iconst 0, 1) := by decide +kernel
theorem dL_tells_192 : decode cL_tells 192 = .ok (.goto 42, 3) := by decide +kernel
theorem dL_tells_195 : decode cL_tells 195 = .ok (.iload 6, 2) := by decide +kernel
theorem dL_tells_197 : decode cL_tells 197 = .ok (.bipush 12, 2) := by decide +kernel
theorem dL_tells_199 : decode cL_tells 199 = .ok (.ishr, 1) := by decide +kernel
theorem dL_tells_200 : decode cL_tells 200 = .ok (.bipush 7, 2) := by decide +kernel
theorem dL_tells_202 : decode cL_tells 202 = .ok (.iand, 1) := by decide +kernel
theorem dL_tells_203 : decode cL_tells 203 = .ok (.iconst 1, 1) := by decide +kernel
theorem dL_tells_204 : decode cL_tells 204 = .ok (.if_icmp .ne 13, 3) := by decide +kernel
theorem dL_tells_207 : decode cL_tells 207 = .ok (.aload_n 3, 1) := by decide +kernel
theorem dL_tells_208 : decode cL_tells 208 = .ok (.bipush 34, 2) := by decide +kernel
theorem dL_tells_210 : decode cL_tells 210 = .ok (.iload 5, 2) := by decide +kernel
theorem dL_tells_212 : decode cL_tells 212 = .ok (.iadd, 1) := by decide +kernel
theorem dL_tells_213 : decode cL_tells 213 = .ok (.iaload, 1) := by decide +kernel
theorem dL_tells_214 : decode cL_tells 214 = .ok (.goto 20, 3) := by decide +kernel
theorem dL_tells_217 : decode cL_tells 217 = .ok (.iload 6, 2) := by decide +kernel
theorem dL_tells_219 : decode cL_tells 219 = .ok (.bipush 15, 2) := by decide +kernel
theorem dL_tells_221 : decode cL_tells 221 = .ok (.ishr, 1) := by decide +kernel
theorem dL_tells_222 : decode cL_tells 222 = .ok (.aload_n 3, 1) := by decide +kernel
theorem dL_tells_223 : decode cL_tells 223 = .ok (.bipush 34, 2) := by decide +kernel
theorem dL_tells_225 : decode cL_tells 225 = .ok (.iload 5, 2) := by decide +kernel
theorem dL_tells_227 : decode cL_tells 227 = .ok (.iadd, 1) := by decide +kernel
theorem dL_tells_228 : decode cL_tells 228 = .ok (.iaload, 1) := by decide +kernel
theorem dL_tells_229 : decode cL_tells 229 = .ok (.iconst 1, 1) := by decide +kernel
theorem dL_tells_230 : decode cL_tells 230 = .ok (.iadd, 1) := by decide +kernel
theorem dL_tells_231 : decode cL_tells 231 = .ok (.invokestatic 15, 3) := by decide +kernel
theorem dL_tells_234 : decode cL_tells 234 = .ok (.iastore, 1) := by decide +kernel
theorem dL_tells_235 : decode cL_tells 235 = .ok (.aload_n 3, 1) := by decide +kernel
theorem dL_tells_236 : decode cL_tells 236 = .ok (.bipush 44, 2) := by decide +kernel
theorem dL_tells_238 : decode cL_tells 238 = .ok (.iload 5, 2) := by decide +kernel
theorem dL_tells_240 : decode cL_tells 240 = .ok (.iadd, 1) := by decide +kernel
theorem dL_tells_241 : decode cL_tells 241 = .ok (.iload 6, 2) := by decide +kernel
theorem dL_tells_243 : decode cL_tells 243 = .ok (.bipush 20, 2) := by decide +kernel
theorem dL_tells_245 : decode cL_tells 245 = .ok (.ishr, 1) := by decide +kernel
theorem dL_tells_246 : decode cL_tells 246 = .ok (.bipush 7, 2) := by decide +kernel
theorem dL_tells_248 : decode cL_tells 248 = .ok (.iand, 1) := by decide +kernel
theorem dL_tells_249 : decode cL_tells 249 = .ok (.iconst 1, 1) := by decide +kernel
theorem dL_tells_250 : decode cL_tells 250 = .ok (.if_icmp .le 7, 3) := by decide +kernel
theorem dL_tells_253 : decode cL_tells 253 = .ok (.iconst 0, 1) := by decide +kernel
theorem dL_tells_254 : decode cL_tells 254 = .ok (.goto 13, 3) := by decide +kernel
theorem dL_tells_257 : decode cL_tells 257 = .ok (.iconst 1, 1) := by decide +kernel
theorem dL_tells_258 : decode cL_tells 258 = .ok (.iload 6, 2) := by decide +kernel
theorem dL_tells_260 : decode cL_tells 260 = .ok (.bipush 20, 2) := by decide +kernel
theorem dL_tells_262 : decode cL_tells 262 = .ok (.ishr, 1) := by decide +kernel
theorem dL_tells_263 : decode cL_tells 263 = .ok (.bipush 7, 2) := by decide +kernel
theorem dL_tells_265 : decode cL_tells 265 = .ok (.iand, 1) := by decide +kernel
theorem dL_tells_266 : decode cL_tells 266 = .ok (.iadd, 1) := by decide +kernel
theorem dL_tells_267 : decode cL_tells 267 = .ok (.iastore, 1) := by decide +kernel
theorem dL_tells_268 : decode cL_tells 268 = .ok (.aload_n 0, 1) := by decide +kernel
theorem dL_tells_269 : decode cL_tells 269 = .ok (.iload 7, 2) := by decide +kernel
theorem dL_tells_271 : decode cL_tells 271 = .ok (.iload 8, 2) := by decide +kernel
theorem dL_tells_273 : decode cL_tells 273 = .ok (.aload_n 3, 1) := by decide +kernel
theorem dL_tells_274 : decode cL_tells 274 = .ok (.bipush 24, 2) := by decide +kernel
theorem dL_tells_276 : decode cL_tells 276 = .ok (.iload 5, 2) := by decide +kernel
theorem dL_tells_278 : decode cL_tells 278 = .ok (.iadd, 1) := by decide +kernel
theorem dL_tells_279 : decode cL_tells 279 = .ok (.iaload, 1) := by decide +kernel
theorem dL_tells_280 : decode cL_tells 280 = .ok (.aload_n 3, 1) := by decide +kernel
theorem dL_tells_281 : decode cL_tells 281 = .ok (.bipush 34, 2) := by decide +kernel
theorem dL_tells_283 : decode cL_tells 283 = .ok (.iload 5, 2) := by decide +kernel
theorem dL_tells_285 : decode cL_tells 285 = .ok (.iadd, 1) := by decide +kernel
theorem dL_tells_286 : decode cL_tells 286 = .ok (.iaload, 1) := by decide +kernel
theorem dL_tells_287 : decode cL_tells 287 = .ok (.invokevirtual 25, 3) := by decide +kernel
theorem dL_tells_290 : decode cL_tells 290 = .ok (.iload 5, 2) := by decide +kernel
theorem dL_tells_292 : decode cL_tells 292 = .ok (.if_icmp .ne 19, 3) := by decide +kernel
theorem dL_tells_295 : decode cL_tells 295 = .ok (.aload_n 0, 1) := by decide +kernel
theorem dL_tells_296 : decode cL_tells 296 = .ok (.iload 5, 2) := by decide +kernel
theorem dL_tells_298 : decode cL_tells 298 = .ok (.aload_n 3, 1) := by decide +kernel
theorem dL_tells_299 : decode cL_tells 299 = .ok (.bipush 44, 2) := by decide +kernel
theorem dL_tells_301 : decode cL_tells 301 = .ok (.iload 5, 2) := by decide +kernel
theorem dL_tells_303 : decode cL_tells 303 = .ok (.iadd, 1) := by decide +kernel
theorem dL_tells_304 : decode cL_tells 304 = .ok (.iaload, 1) := by decide +kernel
theorem dL_tells_305 : decode cL_tells 305 = .ok (.invokevirtual 29, 3) := by decide +kernel
theorem dL_tells_308 : decode cL_tells 308 = .ok (.ifCond .eq 5, 3) := by decide +kernel
theorem dL_tells_311 : decode cL_tells 311 = .ok (.iconst 0, 1) := by decide +kernel
theorem dL_tells_312 : decode cL_tells 312 = .ok (.ireturn, 1) := by decide +kernel
theorem dL_tells_313 : decode cL_tells 313 = .ok (.iinc 5 1, 3) := by decide +kernel
theorem dL_tells_316 : decode cL_tells 316 = .ok (.goto (-269), 3) := by decide +kernel
theorem dL_tells_319 : decode cL_tells 319 = .ok (.iload 4, 2) := by decide +kernel
theorem dL_tells_321 : decode cL_tells 321 = .ok (.bipush 9, 2) := by decide +kernel
theorem dL_tells_323 : decode cL_tells 323 = .ok (.ishr, 1) := by decide +kernel
theorem dL_tells_324 : decode cL_tells 324 = .ok (.aload_n 3, 1) := by decide +kernel
theorem dL_tells_325 : decode cL_tells 325 = .ok (.iconst 0, 1) := by decide +kernel
theorem dL_tells_326 : decode cL_tells 326 = .ok (.iaload, 1) := by decide +kernel
theorem dL_tells_327 : decode cL_tells 327 = .ok (.invokestatic 15, 3) := by decide +kernel
theorem dL_tells_330 : decode cL_tells 330 = .ok (.istore 5, 2) := by decide +kernel
theorem dL_tells_332 : decode cL_tells 332 = .ok (.iload 4, 2) := by decide +kernel
theorem dL_tells_334 : decode cL_tells 334 = .ok (.bipush 12, 2) := by decide +kernel
theorem dL_tells_336 : decode cL_tells 336 = .ok (.ishr, 1) := by decide +kernel
theorem dL_tells_337 : decode cL_tells 337 = .ok (.iconst 1, 1) := by decide +kernel
theorem dL_tells_338 : decode cL_tells 338 = .ok (.aload_n 3, 1) := by decide +kernel
theorem dL_tells_339 : decode cL_tells 339 = .ok (.iconst 0, 1) := by decide +kernel
theorem dL_tells_340 : decode cL_tells 340 = .ok (.iaload, 1) := by decide +kernel
theorem dL_tells_341 : decode cL_tells 341 = .ok (.ishl, 1) := by decide +kernel
theorem dL_tells_342 : decode cL_tells 342 = .ok (.invokestatic 15, 3) := by decide +kernel
theorem dL_tells_345 : decode cL_tells 345 = .ok (.istore 6, 2) := by decide +kernel
theorem dL_tells_347 : decode cL_tells 347 = .ok (.aload_n 3, 1) := by decide +kernel
theorem dL_tells_348 : decode cL_tells 348 = .ok (.iconst 2, 1) := by decide +kernel
theorem dL_tells_349 : decode cL_tells 349 = .ok (.iload 6, 2) := by decide +kernel
theorem dL_tells_351 : decode cL_tells 351 = .ok (.iconst 1, 1) := by decide +kernel
theorem dL_tells_352 : decode cL_tells 352 = .ok (.iload 5, 2) := by decide +kernel
theorem dL_tells_354 : decode cL_tells 354 = .ok (.ishl, 1) := by decide +kernel
theorem dL_tells_355 : decode cL_tells 355 = .ok (.ior, 1) := by decide +kernel
theorem dL_tells_356 : decode cL_tells 356 = .ok (.iastore, 1) := by decide +kernel
theorem dL_tells_357 : decode cL_tells 357 = .ok (.aload_n 0, 1) := by decide +kernel
theorem dL_tells_358 : decode cL_tells 358 = .ok (.iload 5, 2) := by decide +kernel
theorem dL_tells_360 : decode cL_tells 360 = .ok (.invokevirtual 32, 3) := by decide +kernel
theorem dL_tells_363 : decode cL_tells 363 = .ok (.ifCond .ne 27, 3) := by decide +kernel
theorem dL_tells_366 : decode cL_tells 366 = .ok (.aload_n 0, 1) := by decide +kernel
theorem dL_tells_367 : decode cL_tells 367 = .ok (.iload 6, 2) := by decide +kernel
theorem dL_tells_369 : decode cL_tells 369 = .ok (.invokevirtual 35, 3) := by decide +kernel
theorem dL_tells_372 : decode cL_tells 372 = .ok (.ifCond .ne 18, 3) := by decide +kernel
theorem dL_tells_375 : decode cL_tells 375 = .ok (.aload_n 0, 1) := by decide +kernel
theorem dL_tells_376 : decode cL_tells 376 = .ok (.iconst 1, 1) := by decide +kernel
theorem dL_tells_377 : decode cL_tells 377 = .ok (.invokevirtual 38, 3) := by decide +kernel
theorem dL_tells_380 : decode cL_tells 380 = .ok (.aload_n 3, 1) := by decide +kernel
theorem dL_tells_381 : decode cL_tells 381 = .ok (.iconst 1, 1) := by decide +kernel
theorem dL_tells_382 : decode cL_tells 382 = .ok (.iaload, 1) := by decide +kernel
theorem dL_tells_383 : decode cL_tells 383 = .ok (.if_icmp .ne 7, 3) := by decide +kernel
theorem dL_tells_386 : decode cL_tells 386 = .ok (.iconst 1, 1) := by decide +kernel
theorem dL_tells_387 : decode cL_tells 387 = .ok (.goto 4, 3) := by decide +kernel
theorem dL_tells_390 : decode cL_tells 390 = .ok (.iconst 0, 1) := by decide +kernel
theorem dL_tells_391 : decode cL_tells 391 = .ok (.ireturn, 1) := by decide +kernel
theorem dL_less_0 : decode cL_less 0 = .ok (.lload_n 2, 1) := by decide +kernel
theorem dL_less_1 : decode cL_less 1 = .ok (.lload 6, 2) := by decide +kernel
theorem dL_less_3 : decode cL_less 3 = .ok (.invokestatic 49, 3) := by decide +kernel
theorem dL_less_6 : decode cL_less 6 = .ok (.lstore 8, 2) := by decide +kernel
theorem dL_less_8 : decode cL_less 8 = .ok (.lload_n 0, 1) := by decide +kernel
theorem dL_less_9 : decode cL_less 9 = .ok (.lload 6, 2) := by decide +kernel
theorem dL_less_11 : decode cL_less 11 = .ok (.lload 8, 2) := by decide +kernel
theorem dL_less_13 : decode cL_less 13 = .ok (.ldiv, 1) := by decide +kernel
theorem dL_less_14 : decode cL_less 14 = .ok (.lmul, 1) := by decide +kernel
theorem dL_less_15 : decode cL_less 15 = .ok (.lload 4, 2) := by decide +kernel
theorem dL_less_17 : decode cL_less 17 = .ok (.lload_n 2, 1) := by decide +kernel
theorem dL_less_18 : decode cL_less 18 = .ok (.lload 8, 2) := by decide +kernel
theorem dL_less_20 : decode cL_less 20 = .ok (.ldiv, 1) := by decide +kernel
theorem dL_less_21 : decode cL_less 21 = .ok (.lmul, 1) := by decide +kernel
theorem dL_less_22 : decode cL_less 22 = .ok (.lcmp, 1) := by decide +kernel
theorem dL_less_23 : decode cL_less 23 = .ok (.ifCond .ge 7, 3) := by decide +kernel
theorem dL_less_26 : decode cL_less 26 = .ok (.iconst 1, 1) := by decide +kernel
theorem dL_less_27 : decode cL_less 27 = .ok (.goto 4, 3) := by decide +kernel
theorem dL_less_30 : decode cL_less 30 = .ok (.iconst 0, 1) := by decide +kernel
theorem dL_less_31 : decode cL_less 31 = .ok (.ireturn, 1) := by decide +kernel
theorem dL_splits_0 : decode cL_splits 0 = .ok (.aload_n 0, 1) := by decide +kernel
theorem dL_splits_1 : decode cL_splits 1 = .ok (.iload_n 1, 1) := by decide +kernel
theorem dL_splits_2 : decode cL_splits 2 = .ok (.iconst 4, 1) := by decide +kernel
theorem dL_splits_3 : decode cL_splits 3 = .ok (.invokevirtual 53, 3) := by decide +kernel
theorem dL_splits_6 : decode cL_splits 6 = .ok (.istore_n 2, 1) := by decide +kernel
theorem dL_splits_7 : decode cL_splits 7 = .ok (.aload_n 0, 1) := by decide +kernel
theorem dL_splits_8 : decode cL_splits 8 = .ok (.iload_n 1, 1) := by decide +kernel
theorem dL_splits_9 : decode cL_splits 9 = .ok (.iconst 2, 1) := by decide +kernel
theorem dL_splits_10 : decode cL_splits 10 = .ok (.invokevirtual 53, 3) := by decide +kernel
theorem dL_splits_13 : decode cL_splits 13 = .ok (.i2l, 1) := by decide +kernel
theorem dL_splits_14 : decode cL_splits 14 = .ok (.lstore_n 3, 1) := by decide +kernel
theorem dL_splits_15 : decode cL_splits 15 = .ok (.aload_n 0, 1) := by decide +kernel
theorem dL_splits_16 : decode cL_splits 16 = .ok (.iload_n 1, 1) := by decide +kernel
theorem dL_splits_17 : decode cL_splits 17 = .ok (.iconst 3, 1) := by decide +kernel
theorem dL_splits_18 : decode cL_splits 18 = .ok (.invokevirtual 53, 3) := by decide +kernel
theorem dL_splits_21 : decode cL_splits 21 = .ok (.i2l, 1) := by decide +kernel
theorem dL_splits_22 : decode cL_splits 22 = .ok (.lstore 5, 2) := by decide +kernel
theorem dL_splits_24 : decode cL_splits 24 = .ok (.aload_n 0, 1) := by decide +kernel
theorem dL_splits_25 : decode cL_splits 25 = .ok (.iload_n 1, 1) := by decide +kernel
theorem dL_splits_26 : decode cL_splits 26 = .ok (.iconst 0, 1) := by decide +kernel
theorem dL_splits_27 : decode cL_splits 27 = .ok (.invokevirtual 56, 3) := by decide +kernel
theorem dL_splits_30 : decode cL_splits 30 = .ok (.lstore 7, 2) := by decide +kernel
theorem dL_splits_32 : decode cL_splits 32 = .ok (.aload_n 0, 1) := by decide +kernel
theorem dL_splits_33 : decode cL_splits 33 = .ok (.iload_n 1, 1) := by decide +kernel
theorem dL_splits_34 : decode cL_splits 34 = .ok (.iconst 1, 1) := by decide +kernel
theorem dL_splits_35 : decode cL_splits 35 = .ok (.invokevirtual 56, 3) := by decide +kernel
theorem dL_splits_38 : decode cL_splits 38 = .ok (.lstore 9, 2) := by decide +kernel
theorem dL_splits_40 : decode cL_splits 40 = .ok (.aload_n 0, 1) := by decide +kernel
theorem dL_splits_41 : decode cL_splits 41 = .ok (.iload_n 1, 1) := by decide +kernel
theorem dL_splits_42 : decode cL_splits 42 = .ok (.iconst 0, 1) := by decide +kernel
theorem dL_splits_43 : decode cL_splits 43 = .ok (.invokevirtual 29, 3) := by decide +kernel
theorem dL_splits_46 : decode cL_splits 46 = .ok (.iload_n 2, 1) := by decide +kernel
theorem dL_splits_47 : decode cL_splits 47 = .ok (.if_icmp .eq 5, 3) := by decide +kernel
theorem dL_splits_50 : decode cL_splits 50 = .ok (.iconst 0, 1) := by decide +kernel
theorem dL_splits_51 : decode cL_splits 51 = .ok (.ireturn, 1) := by decide +kernel
theorem dL_splits_52 : decode cL_splits 52 = .ok (.aload_n 0, 1) := by decide +kernel
theorem dL_splits_53 : decode cL_splits 53 = .ok (.iconst 0, 1) := by decide +kernel
theorem dL_splits_54 : decode cL_splits 54 = .ok (.invokevirtual 60, 3) := by decide +kernel
theorem dL_splits_57 : decode cL_splits 57 = .ok (.lstore 11, 2) := by decide +kernel
theorem dL_splits_59 : decode cL_splits 59 = .ok (.aload_n 0, 1) := by decide +kernel
theorem dL_splits_60 : decode cL_splits 60 = .ok (.iconst 1, 1) := by decide +kernel
theorem dL_splits_61 : decode cL_splits 61 = .ok (.invokevirtual 60, 3) := by decide +kernel
theorem dL_splits_64 : decode cL_splits 64 = .ok (.lstore 13, 2) := by decide +kernel
theorem dL_splits_66 : decode cL_splits 66 = .ok (.aload_n 0, 1) := by decide +kernel
theorem dL_splits_67 : decode cL_splits 67 = .ok (.iload_n 1, 1) := by decide +kernel
theorem dL_splits_68 : decode cL_splits 68 = .ok (.iconst 1, 1) := by decide +kernel
theorem dL_splits_69 : decode cL_splits 69 = .ok (.invokevirtual 29, 3) := by decide +kernel
theorem dL_splits_72 : decode cL_splits 72 = .ok (.ifCond .eq 5, 3) := by decide +kernel
theorem dL_splits_75 : decode cL_splits 75 = .ok (.iconst 0, 1) := by decide +kernel
theorem dL_splits_76 : decode cL_splits 76 = .ok (.ireturn, 1) := by decide +kernel
theorem dL_splits_77 : decode cL_splits 77 = .ok (.aload_n 0, 1) := by decide +kernel
theorem dL_splits_78 : decode cL_splits 78 = .ok (.iconst 0, 1) := by decide +kernel
theorem dL_splits_79 : decode cL_splits 79 = .ok (.invokevirtual 60, 3) := by decide +kernel
theorem dL_splits_82 : decode cL_splits 82 = .ok (.lstore 15, 2) := by decide +kernel
theorem dL_splits_84 : decode cL_splits 84 = .ok (.aload_n 0, 1) := by decide +kernel
theorem dL_splits_85 : decode cL_splits 85 = .ok (.iconst 1, 1) := by decide +kernel
theorem dL_splits_86 : decode cL_splits 86 = .ok (.invokevirtual 60, 3) := by decide +kernel
theorem dL_splits_89 : decode cL_splits 89 = .ok (.lstore 17, 2) := by decide +kernel
theorem dL_splits_91 : decode cL_splits 91 = .ok (.aload_n 0, 1) := by decide +kernel
theorem dL_splits_92 : decode cL_splits 92 = .ok (.iload_n 1, 1) := by decide +kernel
theorem dL_splits_93 : decode cL_splits 93 = .ok (.iconst 2, 1) := by decide +kernel
theorem dL_splits_94 : decode cL_splits 94 = .ok (.invokevirtual 29, 3) := by decide +kernel
theorem dL_splits_97 : decode cL_splits 97 = .ok (.iconst 1, 1) := by decide +kernel
theorem dL_splits_98 : decode cL_splits 98 = .ok (.if_icmp .eq 5, 3) := by decide +kernel
theorem dL_splits_101 : decode cL_splits 101 = .ok (.iconst 0, 1) := by decide +kernel
theorem dL_splits_102 : decode cL_splits 102 = .ok (.ireturn, 1) := by decide +kernel
theorem dL_splits_103 : decode cL_splits 103 = .ok (.aload_n 0, 1) := by decide +kernel
theorem dL_splits_104 : decode cL_splits 104 = .ok (.iconst 0, 1) := by decide +kernel
theorem dL_splits_105 : decode cL_splits 105 = .ok (.invokevirtual 60, 3) := by decide +kernel
theorem dL_splits_108 : decode cL_splits 108 = .ok (.lstore 19, 2) := by decide +kernel
theorem dL_splits_110 : decode cL_splits 110 = .ok (.aload_n 0, 1) := by decide +kernel
theorem dL_splits_111 : decode cL_splits 111 = .ok (.iconst 1, 1) := by decide +kernel
theorem dL_splits_112 : decode cL_splits 112 = .ok (.invokevirtual 60, 3) := by decide +kernel
theorem dL_splits_115 : decode cL_splits 115 = .ok (.lstore 21, 2) := by decide +kernel
theorem dL_splits_117 : decode cL_splits 117 = .ok (.aload_n 0, 1) := by decide +kernel
theorem dL_splits_118 : decode cL_splits 118 = .ok (.iload_n 1, 1) := by decide +kernel
theorem dL_splits_119 : decode cL_splits 119 = .ok (.iload_n 2, 1) := by decide +kernel
theorem dL_splits_120 : decode cL_splits 120 = .ok (.invokevirtual 29, 3) := by decide +kernel
theorem dL_splits_123 : decode cL_splits 123 = .ok (.iconst 2, 1) := by decide +kernel
theorem dL_splits_124 : decode cL_splits 124 = .ok (.if_icmp .ne 59, 3) := by decide +kernel
theorem dL_splits_127 : decode cL_splits 127 = .ok (.lload 15, 2) := by decide +kernel
theorem dL_splits_129 : decode cL_splits 129 = .ok (.lload 17, 2) := by decide +kernel
theorem dL_splits_131 : decode cL_splits 131 = .ok (.lload 19, 2) := by decide +kernel
theorem dL_splits_133 : decode cL_splits 133 = .ok (.lload 21, 2) := by decide +kernel
theorem dL_splits_135 : decode cL_splits 135 = .ok (.invokestatic 64, 3) := by decide +kernel
theorem dL_splits_138 : decode cL_splits 138 = .ok (.ifCond .ne 45, 3) := by decide +kernel
theorem dL_splits_141 : decode cL_splits 141 = .ok (.lload 15, 2) := by decide +kernel
theorem dL_splits_143 : decode cL_splits 143 = .ok (.lload 17, 2) := by decide +kernel
theorem dL_splits_145 : decode cL_splits 145 = .ok (.lload 11, 2) := by decide +kernel
theorem dL_splits_147 : decode cL_splits 147 = .ok (.lload 13, 2) := by decide +kernel
theorem dL_splits_149 : decode cL_splits 149 = .ok (.invokestatic 64, 3) := by decide +kernel
theorem dL_splits_152 : decode cL_splits 152 = .ok (.ifCond .ne 31, 3) := by decide +kernel
theorem dL_splits_155 : decode cL_splits 155 = .ok (.lload 11, 2) := by decide +kernel
theorem dL_splits_157 : decode cL_splits 157 = .ok (.lload 13, 2) := by decide +kernel
theorem dL_splits_159 : decode cL_splits 159 = .ok (.lload 19, 2) := by decide +kernel
theorem dL_splits_161 : decode cL_splits 161 = .ok (.lload 21, 2) := by decide +kernel
theorem dL_splits_163 : decode cL_splits 163 = .ok (.invokestatic 64, 3) := by decide +kernel
theorem dL_splits_166 : decode cL_splits 166 = .ok (.ifCond .ne 17, 3) := by decide +kernel
theorem dL_splits_169 : decode cL_splits 169 = .ok (.lload 7, 2) := by decide +kernel
theorem dL_splits_171 : decode cL_splits 171 = .ok (.lconst 0, 1) := by decide +kernel
theorem dL_splits_172 : decode cL_splits 172 = .ok (.lcmp, 1) := by decide +kernel
theorem dL_splits_173 : decode cL_splits 173 = .ok (.ifCond .lt 10, 3) := by decide +kernel
theorem dL_splits_176 : decode cL_splits 176 = .ok (.lload 9, 2) := by decide +kernel
theorem dL_splits_178 : decode cL_splits 178 = .ok (.lconst 1, 1) := by decide +kernel
theorem dL_splits_179 : decode cL_splits 179 = .ok (.lcmp, 1) := by decide +kernel
theorem dL_splits_180 : decode cL_splits 180 = .ok (.ifCond .ge 5, 3) := by decide +kernel
theorem dL_splits_183 : decode cL_splits 183 = .ok (.iconst 0, 1) := by decide +kernel
theorem dL_splits_184 : decode cL_splits 184 = .ok (.ireturn, 1) := by decide +kernel
theorem dL_splits_185 : decode cL_splits 185 = .ok (.lload 17, 2) := by decide +kernel
theorem dL_splits_187 : decode cL_splits 187 = .ok (.lload 17, 2) := by decide +kernel
theorem dL_splits_189 : decode cL_splits 189 = .ok (.lload 21, 2) := by decide +kernel
theorem dL_splits_191 : decode cL_splits 191 = .ok (.invokestatic 49, 3) := by decide +kernel
theorem dL_splits_194 : decode cL_splits 194 = .ok (.ldiv, 1) := by decide +kernel
theorem dL_splits_195 : decode cL_splits 195 = .ok (.lload 21, 2) := by decide +kernel
theorem dL_splits_197 : decode cL_splits 197 = .ok (.lmul, 1) := by decide +kernel
theorem dL_splits_198 : decode cL_splits 198 = .ok (.lstore 23, 2) := by decide +kernel
theorem dL_splits_200 : decode cL_splits 200 = .ok (.lload 23, 2) := by decide +kernel
theorem dL_splits_202 : decode cL_splits 202 = .ok (.lload 17, 2) := by decide +kernel
theorem dL_splits_204 : decode cL_splits 204 = .ok (.ldiv, 1) := by decide +kernel
theorem dL_splits_205 : decode cL_splits 205 = .ok (.lload 15, 2) := by decide +kernel
theorem dL_splits_207 : decode cL_splits 207 = .ok (.lmul, 1) := by decide +kernel
theorem dL_splits_208 : decode cL_splits 208 = .ok (.lstore 25, 2) := by decide +kernel
theorem dL_splits_210 : decode cL_splits 210 = .ok (.lload 23, 2) := by decide +kernel
theorem dL_splits_212 : decode cL_splits 212 = .ok (.lload 21, 2) := by decide +kernel
theorem dL_splits_214 : decode cL_splits 214 = .ok (.ldiv, 1) := by decide +kernel
theorem dL_splits_215 : decode cL_splits 215 = .ok (.lload 19, 2) := by decide +kernel
theorem dL_splits_217 : decode cL_splits 217 = .ok (.lmul, 1) := by decide +kernel
theorem dL_splits_218 : decode cL_splits 218 = .ok (.lstore 27, 2) := by decide +kernel
theorem dL_splits_220 : decode cL_splits 220 = .ok (.lload_n 3, 1) := by decide +kernel
theorem dL_splits_221 : decode cL_splits 221 = .ok (.lload 25, 2) := by decide +kernel
theorem dL_splits_223 : decode cL_splits 223 = .ok (.lmul, 1) := by decide +kernel
theorem dL_splits_224 : decode cL_splits 224 = .ok (.lload 5, 2) := by decide +kernel
theorem dL_splits_226 : decode cL_splits 226 = .ok (.lload_n 3, 1) := by decide +kernel
theorem dL_splits_227 : decode cL_splits 227 = .ok (.lsub, 1) := by decide +kernel
theorem dL_splits_228 : decode cL_splits 228 = .ok (.lload 27, 2) := by decide +kernel
theorem dL_splits_230 : decode cL_splits 230 = .ok (.lmul, 1) := by decide +kernel
theorem dL_splits_231 : decode cL_splits 231 = .ok (.ladd, 1) := by decide +kernel
theorem dL_splits_232 : decode cL_splits 232 = .ok (.lstore 29, 2) := by decide +kernel
theorem dL_splits_234 : decode cL_splits 234 = .ok (.lload 5, 2) := by decide +kernel
theorem dL_splits_236 : decode cL_splits 236 = .ok (.lload 23, 2) := by decide +kernel
theorem dL_splits_238 : decode cL_splits 238 = .ok (.lmul, 1) := by decide +kernel
theorem dL_splits_239 : decode cL_splits 239 = .ok (.lstore 31, 2) := by decide +kernel
theorem dL_splits_241 : decode cL_splits 241 = .ok (.lload 29, 2) := by decide +kernel
theorem dL_splits_243 : decode cL_splits 243 = .ok (.lload 31, 2) := by decide +kernel
theorem dL_splits_245 : decode cL_splits 245 = .ok (.invokestatic 49, 3) := by decide +kernel
theorem dL_splits_248 : decode cL_splits 248 = .ok (.lstore 33, 2) := by decide +kernel
theorem dL_splits_250 : decode cL_splits 250 = .ok (.lload 25, 2) := by decide +kernel
theorem dL_splits_252 : decode cL_splits 252 = .ok (.lload 27, 2) := by decide +kernel
theorem dL_splits_254 : decode cL_splits 254 = .ok (.lsub, 1) := by decide +kernel
theorem dL_splits_255 : decode cL_splits 255 = .ok (.lload 23, 2) := by decide +kernel
theorem dL_splits_257 : decode cL_splits 257 = .ok (.invokestatic 49, 3) := by decide +kernel
theorem dL_splits_260 : decode cL_splits 260 = .ok (.lstore 35, 2) := by decide +kernel
theorem dL_splits_262 : decode cL_splits 262 = .ok (.lload 11, 2) := by decide +kernel
theorem dL_splits_264 : decode cL_splits 264 = .ok (.lload 29, 2) := by decide +kernel
theorem dL_splits_266 : decode cL_splits 266 = .ok (.lload 33, 2) := by decide +kernel
theorem dL_splits_268 : decode cL_splits 268 = .ok (.ldiv, 1) := by decide +kernel
theorem dL_splits_269 : decode cL_splits 269 = .ok (.lcmp, 1) := by decide +kernel
theorem dL_splits_270 : decode cL_splits 270 = .ok (.ifCond .ne 43, 3) := by decide +kernel
theorem dL_splits_273 : decode cL_splits 273 = .ok (.lload 13, 2) := by decide +kernel
theorem dL_splits_275 : decode cL_splits 275 = .ok (.lload 31, 2) := by decide +kernel
theorem dL_splits_277 : decode cL_splits 277 = .ok (.lload 33, 2) := by decide +kernel
theorem dL_splits_279 : decode cL_splits 279 = .ok (.ldiv, 1) := by decide +kernel
theorem dL_splits_280 : decode cL_splits 280 = .ok (.lcmp, 1) := by decide +kernel
theorem dL_splits_281 : decode cL_splits 281 = .ok (.ifCond .ne 32, 3) := by decide +kernel
theorem dL_splits_284 : decode cL_splits 284 = .ok (.lload 7, 2) := by decide +kernel
theorem dL_splits_286 : decode cL_splits 286 = .ok (.lload 25, 2) := by decide +kernel
theorem dL_splits_288 : decode cL_splits 288 = .ok (.lload 27, 2) := by decide +kernel
theorem dL_splits_290 : decode cL_splits 290 = .ok (.lsub, 1) := by decide +kernel
theorem dL_splits_291 : decode cL_splits 291 = .ok (.lload 35, 2) := by decide +kernel
theorem dL_splits_293 : decode cL_splits 293 = .ok (.ldiv, 1) := by decide +kernel
theorem dL_splits_294 : decode cL_splits 294 = .ok (.lcmp, 1) := by decide +kernel
theorem dL_splits_295 : decode cL_splits 295 = .ok (.ifCond .ne 18, 3) := by decide +kernel
theorem dL_splits_298 : decode cL_splits 298 = .ok (.lload 9, 2) := by decide +kernel
theorem dL_splits_300 : decode cL_splits 300 = .ok (.lload 23, 2) := by decide +kernel
theorem dL_splits_302 : decode cL_splits 302 = .ok (.lload 35, 2) := by decide +kernel
theorem dL_splits_304 : decode cL_splits 304 = .ok (.ldiv, 1) := by decide +kernel
theorem dL_splits_305 : decode cL_splits 305 = .ok (.lcmp, 1) := by decide +kernel
theorem dL_splits_306 : decode cL_splits 306 = .ok (.ifCond .ne 7, 3) := by decide +kernel
theorem dL_splits_309 : decode cL_splits 309 = .ok (.iconst 1, 1) := by decide +kernel
theorem dL_splits_310 : decode cL_splits 310 = .ok (.goto 4, 3) := by decide +kernel
theorem dL_splits_313 : decode cL_splits 313 = .ok (.iconst 0, 1) := by decide +kernel
theorem dL_splits_314 : decode cL_splits 314 = .ok (.ireturn, 1) := by decide +kernel
theorem dL_law_0 : decode cL_law 0 = .ok (.new 20, 3) := by decide +kernel
theorem dL_law_3 : decode cL_law 3 = .ok (.dup, 1) := by decide +kernel
theorem dL_law_4 : decode cL_law 4 = .ok (.invokespecial 68, 3) := by decide +kernel
theorem dL_law_7 : decode cL_law 7 = .ok (.astore_n 1, 1) := by decide +kernel
theorem dL_law_8 : decode cL_law 8 = .ok (.bipush 54, 2) := by decide +kernel
theorem dL_law_10 : decode cL_law 10 = .ok (.newarray .int, 2) := by decide +kernel
theorem dL_law_12 : decode cL_law 12 = .ok (.astore_n 2, 1) := by decide +kernel
theorem dL_law_13 : decode cL_law 13 = .ok (.iconst 0, 1) := by decide +kernel
theorem dL_law_14 : decode cL_law 14 = .ok (.istore_n 3, 1) := by decide +kernel
theorem dL_law_15 : decode cL_law 15 = .ok (.iload_n 3, 1) := by decide +kernel
theorem dL_law_16 : decode cL_law 16 = .ok (.iconst 3, 1) := by decide +kernel
theorem dL_law_17 : decode cL_law 17 = .ok (.if_icmp .ge 1114, 3) := by decide +kernel
theorem dL_law_20 : decode cL_law 20 = .ok (.aload_n 1, 1) := by decide +kernel
theorem dL_law_21 : decode cL_law 21 = .ok (.aload_n 0, 1) := by decide +kernel
theorem dL_law_22 : decode cL_law 22 = .ok (.bipush 13, 2) := by decide +kernel
theorem dL_law_24 : decode cL_law 24 = .ok (.iload_n 3, 1) := by decide +kernel
theorem dL_law_25 : decode cL_law 25 = .ok (.imul, 1) := by decide +kernel
theorem dL_law_26 : decode cL_law 26 = .ok (.aload_n 2, 1) := by decide +kernel
theorem dL_law_27 : decode cL_law 27 = .ok (.invokestatic 69, 3) := by decide +kernel
theorem dL_law_30 : decode cL_law 30 = .ok (.ifCond .ne 5, 3) := by decide +kernel
theorem dL_law_33 : decode cL_law 33 = .ok (.iconst 0, 1) := by decide +kernel
theorem dL_law_34 : decode cL_law 34 = .ok (.ireturn, 1) := by decide +kernel
theorem dL_law_35 : decode cL_law 35 = .ok (.aload_n 0, 1) := by decide +kernel
theorem dL_law_36 : decode cL_law 36 = .ok (.bipush 13, 2) := by decide +kernel
theorem dL_law_38 : decode cL_law 38 = .ok (.iload_n 3, 1) := by decide +kernel
theorem dL_law_39 : decode cL_law 39 = .ok (.imul, 1) := by decide +kernel
theorem dL_law_40 : decode cL_law 40 = .ok (.bipush 11, 2) := by decide +kernel
theorem dL_law_42 : decode cL_law 42 = .ok (.iadd, 1) := by decide +kernel
theorem dL_law_43 : decode cL_law 43 = .ok (.invokestatic 9, 3) := by decide +kernel
theorem dL_law_46 : decode cL_law 46 = .ok (.istore 4, 2) := by decide +kernel
theorem dL_law_48 : decode cL_law 48 = .ok (.aload_n 1, 1) := by decide +kernel
theorem dL_law_49 : decode cL_law 49 = .ok (.iconst 0, 1) := by decide +kernel
theorem dL_law_50 : decode cL_law 50 = .ok (.invokevirtual 60, 3) := by decide +kernel
theorem dL_law_53 : decode cL_law 53 = .ok (.lstore 5, 2) := by decide +kernel
theorem dL_law_55 : decode cL_law 55 = .ok (.aload_n 1, 1) := by decide +kernel
theorem dL_law_56 : decode cL_law 56 = .ok (.iconst 1, 1) := by decide +kernel
theorem dL_law_57 : decode cL_law 57 = .ok (.invokevirtual 60, 3) := by decide +kernel
theorem dL_law_60 : decode cL_law 60 = .ok (.lstore 7, 2) := by decide +kernel
theorem dL_law_62 : decode cL_law 62 = .ok (.lload 5, 2) := by decide +kernel
theorem dL_law_64 : decode cL_law 64 = .ok (.lconst 0, 1) := by decide +kernel
theorem dL_law_65 : decode cL_law 65 = .ok (.lcmp, 1) := by decide +kernel
theorem dL_law_66 : decode cL_law 66 = .ok (.ifCond .lt 114, 3) := by decide +kernel
theorem dL_law_69 : decode cL_law 69 = .ok (.lload 5, 2) := by decide +kernel
theorem dL_law_71 : decode cL_law 71 = .ok (.lload 7, 2) := by decide +kernel
theorem dL_law_73 : decode cL_law 73 = .ok (.lcmp, 1) := by decide +kernel
theorem dL_law_74 : decode cL_law 74 = .ok (.ifCond .gt 106, 3) := by decide +kernel
theorem dL_law_77 : decode cL_law 77 = .ok (.lload 5, 2) := by decide +kernel
theorem dL_law_79 : decode cL_law 79 = .ok (.lload 7, 2) := by decide +kernel
theorem dL_law_81 : decode cL_law 81 = .ok (.invokestatic 49, 3) := by decide +kernel
theorem dL_law_84 : decode cL_law 84 = .ok (.lconst 1, 1) := by decide +kernel
theorem dL_law_85 : decode cL_law 85 = .ok (.lcmp, 1) := by decide +kernel
theorem dL_law_86 : decode cL_law 86 = .ok (.ifCond .ne 94, 3) := by decide +kernel
theorem dL_law_89 : decode cL_law 89 = .ok (.aload_n 1, 1) := by decide +kernel
theorem dL_law_90 : decode cL_law 90 = .ok (.iconst 0, 1) := by decide +kernel
theorem dL_law_91 : decode cL_law 91 = .ok (.invokevirtual 73, 3) := by decide +kernel
theorem dL_law_94 : decode cL_law 94 = .ok (.lload 5, 2) := by decide +kernel
theorem dL_law_96 : decode cL_law 96 = .ok (.lcmp, 1) := by decide +kernel
theorem dL_law_97 : decode cL_law 97 = .ok (.ifCond .ne 83, 3) := by decide +kernel
theorem dL_law_100 : decode cL_law 100 = .ok (.aload_n 1, 1) := by decide +kernel
theorem dL_law_101 : decode cL_law 101 = .ok (.iconst 1, 1) := by decide +kernel
theorem dL_law_102 : decode cL_law 102 = .ok (.invokevirtual 73, 3) := by decide +kernel
theorem dL_law_105 : decode cL_law 105 = .ok (.lload 7, 2) := by decide +kernel
theorem dL_law_107 : decode cL_law 107 = .ok (.lcmp, 1) := by decide +kernel
theorem dL_law_108 : decode cL_law 108 = .ok (.ifCond .ne 72, 3) := by decide +kernel
theorem dL_law_111 : decode cL_law 111 = .ok (.aload_n 1, 1) := by decide +kernel
theorem dL_law_112 : decode cL_law 112 = .ok (.iconst 3, 1) := by decide +kernel
theorem dL_law_113 : decode cL_law 113 = .ok (.invokevirtual 73, 3) := by decide +kernel
theorem dL_law_116 : decode cL_law 116 = .ok (.aload_n 2, 1) := by decide +kernel
theorem dL_law_117 : decode cL_law 117 = .ok (.iconst 1, 1) := by decide +kernel
theorem dL_law_118 : decode cL_law 118 = .ok (.iaload, 1) := by decide +kernel
theorem dL_law_119 : decode cL_law 119 = .ok (.iconst 1, 1) := by decide +kernel
theorem dL_law_120 : decode cL_law 120 = .ok (.iadd, 1) := by decide +kernel
theorem dL_law_121 : decode cL_law 121 = .ok (.i2l, 1) := by decide +kernel
theorem dL_law_122 : decode cL_law 122 = .ok (.lcmp, 1) := by decide +kernel
theorem dL_law_123 : decode cL_law 123 = .ok (.ifCond .gt 57, 3) := by decide +kernel
theorem dL_law_126 : decode cL_law 126 = .ok (.aload_n 1, 1) := by decide +kernel
theorem dL_law_127 : decode cL_law 127 = .ok (.iconst 2, 1) := by decide +kernel
theorem dL_law_128 : decode cL_law 128 = .ok (.invokevirtual 73, 3) := by decide +kernel
theorem dL_law_131 : decode cL_law 131 = .ok (.aload_n 1, 1) := by decide +kernel
theorem dL_law_132 : decode cL_law 132 = .ok (.iconst 3, 1) := by decide +kernel
theorem dL_law_133 : decode cL_law 133 = .ok (.invokevirtual 73, 3) := by decide +kernel
theorem dL_law_136 : decode cL_law 136 = .ok (.lcmp, 1) := by decide +kernel
theorem dL_law_137 : decode cL_law 137 = .ok (.ifCond .lt 43, 3) := by decide +kernel
theorem dL_law_140 : decode cL_law 140 = .ok (.aload_n 1, 1) := by decide +kernel
theorem dL_law_141 : decode cL_law 141 = .ok (.iconst 4, 1) := by decide +kernel
theorem dL_law_142 : decode cL_law 142 = .ok (.invokevirtual 73, 3) := by decide +kernel
theorem dL_law_145 : decode cL_law 145 = .ok (.ldc2_w 76, 3) := by decide +kernel
theorem dL_law_148 : decode cL_law 148 = .ok (.aload_n 2, 1) := by decide +kernel
theorem dL_law_149 : decode cL_law 149 = .ok (.iconst 1, 1) := by decide +kernel
theorem dL_law_150 : decode cL_law 150 = .ok (.iaload, 1) := by decide +kernel
theorem dL_law_151 : decode cL_law 151 = .ok (.i2l, 1) := by decide +kernel
theorem dL_law_152 : decode cL_law 152 = .ok (.lmul, 1) := by decide +kernel
theorem dL_law_153 : decode cL_law 153 = .ok (.aload_n 1, 1) := by decide +kernel
theorem dL_law_154 : decode cL_law 154 = .ok (.iconst 2, 1) := by decide +kernel
theorem dL_law_155 : decode cL_law 155 = .ok (.invokevirtual 73, 3) := by decide +kernel
theorem dL_law_158 : decode cL_law 158 = .ok (.lmul, 1) := by decide +kernel
theorem dL_law_159 : decode cL_law 159 = .ok (.lcmp, 1) := by decide +kernel
theorem dL_law_160 : decode cL_law 160 = .ok (.ifCond .gt 20, 3) := by decide +kernel
theorem dL_law_163 : decode cL_law 163 = .ok (.lload 5, 2) := by decide +kernel
theorem dL_law_165 : decode cL_law 165 = .ok (.lconst 0, 1) := by decide +kernel
theorem dL_law_166 : decode cL_law 166 = .ok (.lcmp, 1) := by decide +kernel
theorem dL_law_167 : decode cL_law 167 = .ok (.ifCond .le 15, 3) := by decide +kernel
theorem dL_law_170 : decode cL_law 170 = .ok (.aload_n 1, 1) := by decide +kernel
theorem dL_law_171 : decode cL_law 171 = .ok (.bipush 6, 2) := by decide +kernel
theorem dL_law_173 : decode cL_law 173 = .ok (.invokevirtual 38, 3) := by decide +kernel
theorem dL_law_176 : decode cL_law 176 = .ok (.iconst 1, 1) := by decide +kernel
theorem dL_law_177 : decode cL_law 177 = .ok (.if_icmp .eq 5, 3) := by decide +kernel
theorem dL_law_180 : decode cL_law 180 = .ok (.iconst 0, 1) := by decide +kernel
theorem dL_law_181 : decode cL_law 181 = .ok (.ireturn, 1) := by decide +kernel
theorem dL_law_182 : decode cL_law 182 = .ok (.iconst 0, 1) := by decide +kernel
theorem dL_law_183 : decode cL_law 183 = .ok (.istore 9, 2) := by decide +kernel
theorem dL_law_185 : decode cL_law 185 = .ok (.iload 9, 2) := by decide +kernel
theorem dL_law_187 : decode cL_law 187 = .ok (.aload_n 2, 1) := by decide +kernel
theorem dL_law_188 : decode cL_law 188 = .ok (.iconst 1, 1) := by decide +kernel
theorem dL_law_189 : decode cL_law 189 = .ok (.iaload, 1) := by decide +kernel
theorem dL_law_190 : decode cL_law 190 = .ok (.if_icmp .ge 20, 3) := by decide +kernel
theorem dL_law_193 : decode cL_law 193 = .ok (.aload_n 1, 1) := by decide +kernel
theorem dL_law_194 : decode cL_law 194 = .ok (.iload 9, 2) := by decide +kernel
theorem dL_law_196 : decode cL_law 196 = .ok (.invokestatic 78, 3) := by decide +kernel
theorem dL_law_199 : decode cL_law 199 = .ok (.ifCond .ne 5, 3) := by decide +kernel
theorem dL_law_202 : decode cL_law 202 = .ok (.iconst 0, 1) := by decide +kernel
theorem dL_law_203 : decode cL_law 203 = .ok (.ireturn, 1) := by decide +kernel
theorem dL_law_204 : decode cL_law 204 = .ok (.iinc 9 1, 3) := by decide +kernel
theorem dL_law_207 : decode cL_law 207 = .ok (.goto (-22), 3) := by decide +kernel
theorem dL_law_210 : decode cL_law 210 = .ok (.aload_n 1, 1) := by decide +kernel
theorem dL_law_211 : decode cL_law 211 = .ok (.iconst 0, 1) := by decide +kernel
theorem dL_law_212 : decode cL_law 212 = .ok (.invokevirtual 60, 3) := by decide +kernel
theorem dL_law_215 : decode cL_law 215 = .ok (.lload 5, 2) := by decide +kernel
theorem dL_law_217 : decode cL_law 217 = .ok (.lcmp, 1) := by decide +kernel
theorem dL_law_218 : decode cL_law 218 = .ok (.ifCond .ne 14, 3) := by decide +kernel
theorem dL_law_221 : decode cL_law 221 = .ok (.aload_n 1, 1) := by decide +kernel
theorem dL_law_222 : decode cL_law 222 = .ok (.iconst 1, 1) := by decide +kernel
theorem dL_law_223 : decode cL_law 223 = .ok (.invokevirtual 60, 3) := by decide +kernel
theorem dL_law_226 : decode cL_law 226 = .ok (.lload 7, 2) := by decide +kernel
theorem dL_law_228 : decode cL_law 228 = .ok (.lcmp, 1) := by decide +kernel
theorem dL_law_229 : decode cL_law 229 = .ok (.ifCond .eq 5, 3) := by decide +kernel
theorem dL_law_232 : decode cL_law 232 = .ok (.iconst 0, 1) := by decide +kernel
theorem dL_law_233 : decode cL_law 233 = .ok (.ireturn, 1) := by decide +kernel
theorem dL_law_234 : decode cL_law 234 = .ok (.aload_n 1, 1) := by decide +kernel
theorem dL_law_235 : decode cL_law 235 = .ok (.invokevirtual 82, 3) := by decide +kernel
theorem dL_law_238 : decode cL_law 238 = .ok (.istore 9, 2) := by decide +kernel
theorem dL_law_240 : decode cL_law 240 = .ok (.iconst 0, 1) := by decide +kernel
theorem dL_law_241 : decode cL_law 241 = .ok (.istore 10, 2) := by decide +kernel
theorem dL_law_243 : decode cL_law 243 = .ok (.iload 10, 2) := by decide +kernel
theorem dL_law_245 : decode cL_law 245 = .ok (.aload_n 2, 1) := by decide +kernel
theorem dL_law_246 : decode cL_law 246 = .ok (.iconst 1, 1) := by decide +kernel
theorem dL_law_247 : decode cL_law 247 = .ok (.iaload, 1) := by decide +kernel
theorem dL_law_248 : decode cL_law 248 = .ok (.if_icmp .ge 94, 3) := by decide +kernel
theorem dL_law_251 : decode cL_law 251 = .ok (.aload_n 1, 1) := by decide +kernel
theorem dL_law_252 : decode cL_law 252 = .ok (.iload 10, 2) := by decide +kernel
theorem dL_law_254 : decode cL_law 254 = .ok (.iconst 4, 1) := by decide +kernel
theorem dL_law_255 : decode cL_law 255 = .ok (.invokevirtual 53, 3) := by decide +kernel
theorem dL_law_258 : decode cL_law 258 = .ok (.ifCond .ne 7, 3) := by decide +kernel
theorem dL_law_261 : decode cL_law 261 = .ok (.iconst 1, 1) := by decide +kernel
theorem dL_law_262 : decode cL_law 262 = .ok (.goto 4, 3) := by decide +kernel
theorem dL_law_265 : decode cL_law 265 = .ok (.iconst 0, 1) := by decide +kernel
theorem dL_law_266 : decode cL_law 266 = .ok (.istore 11, 2) := by decide +kernel
theorem dL_law_268 : decode cL_law 268 = .ok (.iload 9, 2) := by decide +kernel
theorem dL_law_270 : decode cL_law 270 = .ok (.ifCond .ge 8, 3) := by decide +kernel
theorem dL_law_273 : decode cL_law 273 = .ok (.iload 11, 2) := by decide +kernel
theorem dL_law_275 : decode cL_law 275 = .ok (.ifCond .ne 59, 3) := by decide +kernel
theorem dL_law_278 : decode cL_law 278 = .ok (.iload 9, 2) := by decide +kernel
theorem dL_law_280 : decode cL_law 280 = .ok (.ifCond .lt 42, 3) := by decide +kernel
theorem dL_law_283 : decode cL_law 283 = .ok (.iload 11, 2) := by decide +kernel
theorem dL_law_285 : decode cL_law 285 = .ok (.ifCond .eq 37, 3) := by decide +kernel
theorem dL_law_288 : decode cL_law 288 = .ok (.aload_n 1, 1) := by decide +kernel
theorem dL_law_289 : decode cL_law 289 = .ok (.iload 9, 2) := by decide +kernel
theorem dL_law_291 : decode cL_law 291 = .ok (.iconst 0, 1) := by decide +kernel
theorem dL_law_292 : decode cL_law 292 = .ok (.invokevirtual 56, 3) := by decide +kernel
theorem dL_law_295 : decode cL_law 295 = .ok (.aload_n 1, 1) := by decide +kernel
theorem dL_law_296 : decode cL_law 296 = .ok (.iload 9, 2) := by decide +kernel
theorem dL_law_298 : decode cL_law 298 = .ok (.iconst 1, 1) := by decide +kernel
theorem dL_law_299 : decode cL_law 299 = .ok (.invokevirtual 56, 3) := by decide +kernel
theorem dL_law_302 : decode cL_law 302 = .ok (.aload_n 1, 1) := by decide +kernel
theorem dL_law_303 : decode cL_law 303 = .ok (.iload 10, 2) := by decide +kernel
theorem dL_law_305 : decode cL_law 305 = .ok (.iconst 0, 1) := by decide +kernel
theorem dL_law_306 : decode cL_law 306 = .ok (.invokevirtual 56, 3) := by decide +kernel
theorem dL_law_309 : decode cL_law 309 = .ok (.aload_n 1, 1) := by decide +kernel
theorem dL_law_310 : decode cL_law 310 = .ok (.iload 10, 2) := by decide +kernel
theorem dL_law_312 : decode cL_law 312 = .ok (.iconst 1, 1) := by decide +kernel
theorem dL_law_313 : decode cL_law 313 = .ok (.invokevirtual 56, 3) := by decide +kernel
theorem dL_law_316 : decode cL_law 316 = .ok (.invokestatic 64, 3) := by decide +kernel
theorem dL_law_319 : decode cL_law 319 = .ok (.ifCond .ne 15, 3) := by decide +kernel
theorem dL_law_322 : decode cL_law 322 = .ok (.iload 9, 2) := by decide +kernel
theorem dL_law_324 : decode cL_law 324 = .ok (.iload 10, 2) := by decide +kernel
theorem dL_law_326 : decode cL_law 326 = .ok (.if_icmp .ne 10, 3) := by decide +kernel
theorem dL_law_329 : decode cL_law 329 = .ok (.iload 11, 2) := by decide +kernel
theorem dL_law_331 : decode cL_law 331 = .ok (.ifCond .ne 5, 3) := by decide +kernel
theorem dL_law_334 : decode cL_law 334 = .ok (.iconst 0, 1) := by decide +kernel
theorem dL_law_335 : decode cL_law 335 = .ok (.ireturn, 1) := by decide +kernel
theorem dL_law_336 : decode cL_law 336 = .ok (.iinc 10 1, 3) := by decide +kernel
theorem dL_law_339 : decode cL_law 339 = .ok (.goto (-96), 3) := by decide +kernel
theorem dL_law_342 : decode cL_law 342 = .ok (.iload 4, 2) := by decide +kernel
theorem dL_law_344 : decode cL_law 344 = .ok (.bipush 10, 2) := by decide +kernel
theorem dL_law_346 : decode cL_law 346 = .ok (.invokestatic 15, 3) := by decide +kernel
theorem dL_law_349 : decode cL_law 349 = .ok (.istore 10, 2) := by decide +kernel
theorem dL_law_351 : decode cL_law 351 = .ok (.iload 10, 2) := by decide +kernel
theorem dL_law_353 : decode cL_law 353 = .ok (.aload_n 2, 1) := by decide +kernel
theorem dL_law_354 : decode cL_law 354 = .ok (.iconst 1, 1) := by decide +kernel
theorem dL_law_355 : decode cL_law 355 = .ok (.iaload, 1) := by decide +kernel
theorem dL_law_356 : decode cL_law 356 = .ok (.if_icmp .ge 113, 3) := by decide +kernel
theorem dL_law_359 : decode cL_law 359 = .ok (.aload_n 1, 1) := by decide +kernel
theorem dL_law_360 : decode cL_law 360 = .ok (.iload 10, 2) := by decide +kernel
theorem dL_law_362 : decode cL_law 362 = .ok (.iconst 3, 1) := by decide +kernel
theorem dL_law_363 : decode cL_law 363 = .ok (.invokevirtual 53, 3) := by decide +kernel
theorem dL_law_366 : decode cL_law 366 = .ok (.istore 11, 2) := by decide +kernel
theorem dL_law_368 : decode cL_law 368 = .ok (.aload_n 1, 1) := by decide +kernel
theorem dL_law_369 : decode cL_law 369 = .ok (.iload 10, 2) := by decide +kernel
theorem dL_law_371 : decode cL_law 371 = .ok (.iconst 2, 1) := by decide +kernel
theorem dL_law_372 : decode cL_law 372 = .ok (.invokevirtual 53, 3) := by decide +kernel
theorem dL_law_375 : decode cL_law 375 = .ok (.istore 12, 2) := by decide +kernel
theorem dL_law_377 : decode cL_law 377 = .ok (.aload_n 1, 1) := by decide +kernel
theorem dL_law_378 : decode cL_law 378 = .ok (.iload 10, 2) := by decide +kernel
theorem dL_law_380 : decode cL_law 380 = .ok (.iload 12, 2) := by decide +kernel
theorem dL_law_382 : decode cL_law 382 = .ok (.iload 11, 2) := by decide +kernel
theorem dL_law_384 : decode cL_law 384 = .ok (.iconst 0, 1) := by decide +kernel
theorem dL_law_385 : decode cL_law 385 = .ok (.invokevirtual 86, 3) := by decide +kernel
theorem dL_law_388 : decode cL_law 388 = .ok (.lstore 13, 2) := by decide +kernel
theorem dL_law_390 : decode cL_law 390 = .ok (.aload_n 1, 1) := by decide +kernel
theorem dL_law_391 : decode cL_law 391 = .ok (.iload 10, 2) := by decide +kernel
theorem dL_law_393 : decode cL_law 393 = .ok (.iload 12, 2) := by decide +kernel
theorem dL_law_395 : decode cL_law 395 = .ok (.iload 11, 2) := by decide +kernel
theorem dL_law_397 : decode cL_law 397 = .ok (.iconst 1, 1) := by decide +kernel
theorem dL_law_398 : decode cL_law 398 = .ok (.invokevirtual 86, 3) := by decide +kernel
theorem dL_law_401 : decode cL_law 401 = .ok (.lstore 15, 2) := by decide +kernel
theorem dL_law_403 : decode cL_law 403 = .ok (.aload_n 1, 1) := by decide +kernel
theorem dL_law_404 : decode cL_law 404 = .ok (.iload 10, 2) := by decide +kernel
theorem dL_law_406 : decode cL_law 406 = .ok (.iload 11, 2) := by decide +kernel
theorem dL_law_408 : decode cL_law 408 = .ok (.iload 11, 2) := by decide +kernel
theorem dL_law_410 : decode cL_law 410 = .ok (.iconst 0, 1) := by decide +kernel
theorem dL_law_411 : decode cL_law 411 = .ok (.invokevirtual 86, 3) := by decide +kernel
theorem dL_law_414 : decode cL_law 414 = .ok (.lstore 17, 2) := by decide +kernel
theorem dL_law_416 : decode cL_law 416 = .ok (.aload_n 1, 1) := by decide +kernel
theorem dL_law_417 : decode cL_law 417 = .ok (.iload 10, 2) := by decide +kernel
theorem dL_law_419 : decode cL_law 419 = .ok (.iload 11, 2) := by decide +kernel
theorem dL_law_421 : decode cL_law 421 = .ok (.iload 11, 2) := by decide +kernel
theorem dL_law_423 : decode cL_law 423 = .ok (.iconst 1, 1) := by decide +kernel
theorem dL_law_424 : decode cL_law 424 = .ok (.invokevirtual 86, 3) := by decide +kernel
theorem dL_law_427 : decode cL_law 427 = .ok (.lstore 19, 2) := by decide +kernel
theorem dL_law_429 : decode cL_law 429 = .ok (.lload 17, 2) := by decide +kernel
theorem dL_law_431 : decode cL_law 431 = .ok (.lload 19, 2) := by decide +kernel
theorem dL_law_433 : decode cL_law 433 = .ok (.lload 13, 2) := by decide +kernel
theorem dL_law_435 : decode cL_law 435 = .ok (.lload 15, 2) := by decide +kernel
theorem dL_law_437 : decode cL_law 437 = .ok (.invokestatic 64, 3) := by decide +kernel
theorem dL_law_440 : decode cL_law 440 = .ok (.ifCond .ne 27, 3) := by decide +kernel
theorem dL_law_443 : decode cL_law 443 = .ok (.aload_n 1, 1) := by decide +kernel
theorem dL_law_444 : decode cL_law 444 = .ok (.iload 10, 2) := by decide +kernel
theorem dL_law_446 : decode cL_law 446 = .ok (.iconst 2, 1) := by decide +kernel
theorem dL_law_447 : decode cL_law 447 = .ok (.invokevirtual 53, 3) := by decide +kernel
theorem dL_law_450 : decode cL_law 450 = .ok (.iload 12, 2) := by decide +kernel
theorem dL_law_452 : decode cL_law 452 = .ok (.if_icmp .ne 15, 3) := by decide +kernel
theorem dL_law_455 : decode cL_law 455 = .ok (.aload_n 1, 1) := by decide +kernel
theorem dL_law_456 : decode cL_law 456 = .ok (.iload 10, 2) := by decide +kernel
theorem dL_law_458 : decode cL_law 458 = .ok (.iconst 3, 1) := by decide +kernel
theorem dL_law_459 : decode cL_law 459 = .ok (.invokevirtual 53, 3) := by decide +kernel
theorem dL_law_462 : decode cL_law 462 = .ok (.iload 11, 2) := by decide +kernel
theorem dL_law_464 : decode cL_law 464 = .ok (.if_icmp .eq 5, 3) := by decide +kernel
theorem dL_law_467 : decode cL_law 467 = .ok (.iconst 0, 1) := by decide +kernel
theorem dL_law_468 : decode cL_law 468 = .ok (.ireturn, 1) := by decide +kernel
theorem dL_law_469 : decode cL_law 469 = .ok (.iload 4, 2) := by decide +kernel
theorem dL_law_471 : decode cL_law 471 = .ok (.iconst 4, 1) := by decide +kernel
theorem dL_law_472 : decode cL_law 472 = .ok (.ishr, 1) := by decide +kernel
theorem dL_law_473 : decode cL_law 473 = .ok (.aload_n 2, 1) := by decide +kernel
theorem dL_law_474 : decode cL_law 474 = .ok (.iconst 0, 1) := by decide +kernel
theorem dL_law_475 : decode cL_law 475 = .ok (.iaload, 1) := by decide +kernel
theorem dL_law_476 : decode cL_law 476 = .ok (.invokestatic 15, 3) := by decide +kernel
theorem dL_law_479 : decode cL_law 479 = .ok (.istore 11, 2) := by decide +kernel
theorem dL_law_481 : decode cL_law 481 = .ok (.aload_n 1, 1) := by decide +kernel
theorem dL_law_482 : decode cL_law 482 = .ok (.iconst 3, 1) := by decide +kernel
theorem dL_law_483 : decode cL_law 483 = .ok (.invokevirtual 38, 3) := by decide +kernel
theorem dL_law_486 : decode cL_law 486 = .ok (.istore 12, 2) := by decide +kernel
theorem dL_law_488 : decode cL_law 488 = .ok (.aload_n 1, 1) := by decide +kernel
theorem dL_law_489 : decode cL_law 489 = .ok (.iload 12, 2) := by decide +kernel
theorem dL_law_491 : decode cL_law 491 = .ok (.iconst 1, 1) := by decide +kernel
theorem dL_law_492 : decode cL_law 492 = .ok (.iload 11, 2) := by decide +kernel
theorem dL_law_494 : decode cL_law 494 = .ok (.ishl, 1) := by decide +kernel
theorem dL_law_495 : decode cL_law 495 = .ok (.ior, 1) := by decide +kernel
theorem dL_law_496 : decode cL_law 496 = .ok (.invokevirtual 35, 3) := by decide +kernel
theorem dL_law_499 : decode cL_law 499 = .ok (.iload 12, 2) := by decide +kernel
theorem dL_law_501 : decode cL_law 501 = .ok (.if_icmp .ne 53, 3) := by decide +kernel
theorem dL_law_504 : decode cL_law 504 = .ok (.lload 5, 2) := by decide +kernel
theorem dL_law_506 : decode cL_law 506 = .ok (.lload 7, 2) := by decide +kernel
theorem dL_law_508 : decode cL_law 508 = .ok (.aload_n 1, 1) := by decide +kernel
theorem dL_law_509 : decode cL_law 509 = .ok (.iconst 0, 1) := by decide +kernel
theorem dL_law_510 : decode cL_law 510 = .ok (.invokevirtual 60, 3) := by decide +kernel
theorem dL_law_513 : decode cL_law 513 = .ok (.aload_n 1, 1) := by decide +kernel
theorem dL_law_514 : decode cL_law 514 = .ok (.iconst 1, 1) := by decide +kernel
theorem dL_law_515 : decode cL_law 515 = .ok (.invokevirtual 60, 3) := by decide +kernel
theorem dL_law_518 : decode cL_law 518 = .ok (.invokestatic 64, 3) := by decide +kernel
theorem dL_law_521 : decode cL_law 521 = .ok (.ifCond .ne 33, 3) := by decide +kernel
theorem dL_law_524 : decode cL_law 524 = .ok (.aload_n 1, 1) := by decide +kernel
theorem dL_law_525 : decode cL_law 525 = .ok (.iconst 0, 1) := by decide +kernel
theorem dL_law_526 : decode cL_law 526 = .ok (.invokevirtual 73, 3) := by decide +kernel
theorem dL_law_529 : decode cL_law 529 = .ok (.aload_n 1, 1) := by decide +kernel
theorem dL_law_530 : decode cL_law 530 = .ok (.iconst 0, 1) := by decide +kernel
theorem dL_law_531 : decode cL_law 531 = .ok (.invokevirtual 60, 3) := by decide +kernel
theorem dL_law_534 : decode cL_law 534 = .ok (.lcmp, 1) := by decide +kernel
theorem dL_law_535 : decode cL_law 535 = .ok (.ifCond .ne 19, 3) := by decide +kernel
theorem dL_law_538 : decode cL_law 538 = .ok (.aload_n 1, 1) := by decide +kernel
theorem dL_law_539 : decode cL_law 539 = .ok (.iload 12, 2) := by decide +kernel
theorem dL_law_541 : decode cL_law 541 = .ok (.invokevirtual 35, 3) := by decide +kernel
theorem dL_law_544 : decode cL_law 544 = .ok (.iload 12, 2) := by decide +kernel
theorem dL_law_546 : decode cL_law 546 = .ok (.iconst 1, 1) := by decide +kernel
theorem dL_law_547 : decode cL_law 547 = .ok (.iload 11, 2) := by decide +kernel
theorem dL_law_549 : decode cL_law 549 = .ok (.ishl, 1) := by decide +kernel
theorem dL_law_550 : decode cL_law 550 = .ok (.ior, 1) := by decide +kernel
theorem dL_law_551 : decode cL_law 551 = .ok (.if_icmp .eq 5, 3) := by decide +kernel
theorem dL_law_554 : decode cL_law 554 = .ok (.iconst 0, 1) := by decide +kernel
theorem dL_law_555 : decode cL_law 555 = .ok (.ireturn, 1) := by decide +kernel
theorem dL_law_556 : decode cL_law 556 = .ok (.iload 4, 2) := by decide +kernel
theorem dL_law_558 : decode cL_law 558 = .ok (.bipush 8, 2) := by decide +kernel
theorem dL_law_560 : decode cL_law 560 = .ok (.ishr, 1) := by decide +kernel
theorem dL_law_561 : decode cL_law 561 = .ok (.aload_n 2, 1) := by decide +kernel
theorem dL_law_562 : decode cL_law 562 = .ok (.iconst 0, 1) := by decide +kernel
theorem dL_law_563 : decode cL_law 563 = .ok (.iaload, 1) := by decide +kernel
theorem dL_law_564 : decode cL_law 564 = .ok (.invokestatic 15, 3) := by decide +kernel
theorem dL_law_567 : decode cL_law 567 = .ok (.istore 13, 2) := by decide +kernel
theorem dL_law_569 : decode cL_law 569 = .ok (.aload_n 1, 1) := by decide +kernel
theorem dL_law_570 : decode cL_law 570 = .ok (.iload 11, 2) := by decide +kernel
theorem dL_law_572 : decode cL_law 572 = .ok (.iload 13, 2) := by decide +kernel
theorem dL_law_574 : decode cL_law 574 = .ok (.iconst 0, 1) := by decide +kernel
theorem dL_law_575 : decode cL_law 575 = .ok (.invokevirtual 90, 3) := by decide +kernel
theorem dL_law_578 : decode cL_law 578 = .ok (.lstore 14, 2) := by decide +kernel
theorem dL_law_580 : decode cL_law 580 = .ok (.aload_n 1, 1) := by decide +kernel
theorem dL_law_581 : decode cL_law 581 = .ok (.iload 11, 2) := by decide +kernel
theorem dL_law_583 : decode cL_law 583 = .ok (.iload 13, 2) := by decide +kernel
theorem dL_law_585 : decode cL_law 585 = .ok (.iconst 1, 1) := by decide +kernel
theorem dL_law_586 : decode cL_law 586 = .ok (.invokevirtual 90, 3) := by decide +kernel
theorem dL_law_589 : decode cL_law 589 = .ok (.lstore 16, 2) := by decide +kernel
theorem dL_law_591 : decode cL_law 591 = .ok (.aload_n 2, 1) := by decide +kernel
theorem dL_law_592 : decode cL_law 592 = .ok (.iconst 2, 1) := by decide +kernel
theorem dL_law_593 : decode cL_law 593 = .ok (.iaload, 1) := by decide +kernel
theorem dL_law_594 : decode cL_law 594 = .ok (.iload 11, 2) := by decide +kernel
theorem dL_law_596 : decode cL_law 596 = .ok (.ishr, 1) := by decide +kernel
theorem dL_law_597 : decode cL_law 597 = .ok (.iconst 1, 1) := by decide +kernel
theorem dL_law_598 : decode cL_law 598 = .ok (.iand, 1) := by decide +kernel
theorem dL_law_599 : decode cL_law 599 = .ok (.iconst 1, 1) := by decide +kernel
theorem dL_law_600 : decode cL_law 600 = .ok (.if_icmp .ne 19, 3) := by decide +kernel
theorem dL_law_603 : decode cL_law 603 = .ok (.aload_n 2, 1) := by decide +kernel
theorem dL_law_604 : decode cL_law 604 = .ok (.iconst 2, 1) := by decide +kernel
theorem dL_law_605 : decode cL_law 605 = .ok (.iaload, 1) := by decide +kernel
theorem dL_law_606 : decode cL_law 606 = .ok (.iload 13, 2) := by decide +kernel
theorem dL_law_608 : decode cL_law 608 = .ok (.ishr, 1) := by decide +kernel
theorem dL_law_609 : decode cL_law 609 = .ok (.iconst 1, 1) := by decide +kernel
theorem dL_law_610 : decode cL_law 610 = .ok (.iand, 1) := by decide +kernel
theorem dL_law_611 : decode cL_law 611 = .ok (.iconst 1, 1) := by decide +kernel
theorem dL_law_612 : decode cL_law 612 = .ok (.if_icmp .ne 7, 3) := by decide +kernel
theorem dL_law_615 : decode cL_law 615 = .ok (.iconst 1, 1) := by decide +kernel
theorem dL_law_616 : decode cL_law 616 = .ok (.goto 4, 3) := by decide +kernel
theorem dL_law_619 : decode cL_law 619 = .ok (.iconst 0, 1) := by decide +kernel
theorem dL_law_620 : decode cL_law 620 = .ok (.istore 18, 2) := by decide +kernel
theorem dL_law_622 : decode cL_law 622 = .ok (.aload_n 1, 1) := by decide +kernel
theorem dL_law_623 : decode cL_law 623 = .ok (.iload 13, 2) := by decide +kernel
theorem dL_law_625 : decode cL_law 625 = .ok (.iload 11, 2) := by decide +kernel
theorem dL_law_627 : decode cL_law 627 = .ok (.iconst 0, 1) := by decide +kernel
theorem dL_law_628 : decode cL_law 628 = .ok (.invokevirtual 90, 3) := by decide +kernel
theorem dL_law_631 : decode cL_law 631 = .ok (.lload 14, 2) := by decide +kernel
theorem dL_law_633 : decode cL_law 633 = .ok (.lcmp, 1) := by decide +kernel
theorem dL_law_634 : decode cL_law 634 = .ok (.ifCond .ne 91, 3) := by decide +kernel
theorem dL_law_637 : decode cL_law 637 = .ok (.aload_n 1, 1) := by decide +kernel
theorem dL_law_638 : decode cL_law 638 = .ok (.iload 13, 2) := by decide +kernel
theorem dL_law_640 : decode cL_law 640 = .ok (.iload 11, 2) := by decide +kernel
theorem dL_law_642 : decode cL_law 642 = .ok (.iconst 1, 1) := by decide +kernel
theorem dL_law_643 : decode cL_law 643 = .ok (.invokevirtual 90, 3) := by decide +kernel
theorem dL_law_646 : decode cL_law 646 = .ok (.lload 16, 2) := by decide +kernel
theorem dL_law_648 : decode cL_law 648 = .ok (.lcmp, 1) := by decide +kernel
theorem dL_law_649 : decode cL_law 649 = .ok (.ifCond .ne 76, 3) := by decide +kernel
theorem dL_law_652 : decode cL_law 652 = .ok (.iload 18, 2) := by decide +kernel
theorem dL_law_654 : decode cL_law 654 = .ok (.ifCond .eq 17, 3) := by decide +kernel
theorem dL_law_657 : decode cL_law 657 = .ok (.lload 14, 2) := by decide +kernel
theorem dL_law_659 : decode cL_law 659 = .ok (.lload 16, 2) := by decide +kernel
theorem dL_law_661 : decode cL_law 661 = .ok (.lload 5, 2) := by decide +kernel
theorem dL_law_663 : decode cL_law 663 = .ok (.lload 7, 2) := by decide +kernel
theorem dL_law_665 : decode cL_law 665 = .ok (.invokestatic 64, 3) := by decide +kernel
theorem dL_law_668 : decode cL_law 668 = .ok (.ifCond .ne 57, 3) := by decide +kernel
theorem dL_law_671 : decode cL_law 671 = .ok (.iload 11, 2) := by decide +kernel
theorem dL_law_673 : decode cL_law 673 = .ok (.iload 13, 2) := by decide +kernel
theorem dL_law_675 : decode cL_law 675 = .ok (.if_icmp .ne 11, 3) := by decide +kernel
theorem dL_law_678 : decode cL_law 678 = .ok (.lload 14, 2) := by decide +kernel
theorem dL_law_680 : decode cL_law 680 = .ok (.lload 16, 2) := by decide +kernel
theorem dL_law_682 : decode cL_law 682 = .ok (.lcmp, 1) := by decide +kernel
theorem dL_law_683 : decode cL_law 683 = .ok (.ifCond .ne 42, 3) := by decide +kernel
theorem dL_law_686 : decode cL_law 686 = .ok (.aload_n 1, 1) := by decide +kernel
theorem dL_law_687 : decode cL_law 687 = .ok (.iconst 0, 1) := by decide +kernel
theorem dL_law_688 : decode cL_law 688 = .ok (.invokevirtual 94, 3) := by decide +kernel
theorem dL_law_691 : decode cL_law 691 = .ok (.aload_n 1, 1) := by decide +kernel
theorem dL_law_692 : decode cL_law 692 = .ok (.iconst 1, 1) := by decide +kernel
theorem dL_law_693 : decode cL_law 693 = .ok (.invokevirtual 94, 3) := by decide +kernel
theorem dL_law_696 : decode cL_law 696 = .ok (.lconst 1, 1) := by decide +kernel
theorem dL_law_697 : decode cL_law 697 = .ok (.lconst 1, 1) := by decide +kernel
theorem dL_law_698 : decode cL_law 698 = .ok (.invokestatic 64, 3) := by decide +kernel
theorem dL_law_701 : decode cL_law 701 = .ok (.ifCond .ne 24, 3) := by decide +kernel
theorem dL_law_704 : decode cL_law 704 = .ok (.aload_n 2, 1) := by decide +kernel
theorem dL_law_705 : decode cL_law 705 = .ok (.iconst 0, 1) := by decide +kernel
theorem dL_law_706 : decode cL_law 706 = .ok (.iaload, 1) := by decide +kernel
theorem dL_law_707 : decode cL_law 707 = .ok (.i2l, 1) := by decide +kernel
theorem dL_law_708 : decode cL_law 708 = .ok (.lconst 1, 1) := by decide +kernel
theorem dL_law_709 : decode cL_law 709 = .ok (.aload_n 1, 1) := by decide +kernel
theorem dL_law_710 : decode cL_law 710 = .ok (.iconst 0, 1) := by decide +kernel
theorem dL_law_711 : decode cL_law 711 = .ok (.invokevirtual 94, 3) := by decide +kernel
theorem dL_law_714 : decode cL_law 714 = .ok (.aload_n 1, 1) := by decide +kernel
theorem dL_law_715 : decode cL_law 715 = .ok (.iconst 1, 1) := by decide +kernel
theorem dL_law_716 : decode cL_law 716 = .ok (.invokevirtual 94, 3) := by decide +kernel
theorem dL_law_719 : decode cL_law 719 = .ok (.invokestatic 64, 3) := by decide +kernel
theorem dL_law_722 : decode cL_law 722 = .ok (.ifCond .eq 5, 3) := by decide +kernel
theorem dL_law_725 : decode cL_law 725 = .ok (.iconst 0, 1) := by decide +kernel
theorem dL_law_726 : decode cL_law 726 = .ok (.ireturn, 1) := by decide +kernel
theorem dL_law_727 : decode cL_law 727 = .ok (.aload_n 1, 1) := by decide +kernel
theorem dL_law_728 : decode cL_law 728 = .ok (.invokevirtual 97, 3) := by decide +kernel
theorem dL_law_731 : decode cL_law 731 = .ok (.istore 19, 2) := by decide +kernel
theorem dL_law_733 : decode cL_law 733 = .ok (.aload_n 1, 1) := by decide +kernel
theorem dL_law_734 : decode cL_law 734 = .ok (.iconst 0, 1) := by decide +kernel
theorem dL_law_735 : decode cL_law 735 = .ok (.invokevirtual 100, 3) := by decide +kernel
theorem dL_law_738 : decode cL_law 738 = .ok (.istore 20, 2) := by decide +kernel
theorem dL_law_740 : decode cL_law 740 = .ok (.aload_n 1, 1) := by decide +kernel
theorem dL_law_741 : decode cL_law 741 = .ok (.iconst 1, 1) := by decide +kernel
theorem dL_law_742 : decode cL_law 742 = .ok (.invokevirtual 100, 3) := by decide +kernel
theorem dL_law_745 : decode cL_law 745 = .ok (.istore 21, 2) := by decide +kernel
theorem dL_law_747 : decode cL_law 747 = .ok (.aload_n 1, 1) := by decide +kernel
theorem dL_law_748 : decode cL_law 748 = .ok (.aload_n 2, 1) := by decide +kernel
theorem dL_law_749 : decode cL_law 749 = .ok (.iconst 1, 1) := by decide +kernel
theorem dL_law_750 : decode cL_law 750 = .ok (.iaload, 1) := by decide +kernel
theorem dL_law_751 : decode cL_law 751 = .ok (.invokevirtual 103, 3) := by decide +kernel
theorem dL_law_754 : decode cL_law 754 = .ok (.iconst 1, 1) := by decide +kernel
theorem dL_law_755 : decode cL_law 755 = .ok (.if_icmp .ne 7, 3) := by decide +kernel
theorem dL_law_758 : decode cL_law 758 = .ok (.iconst 1, 1) := by decide +kernel
theorem dL_law_759 : decode cL_law 759 = .ok (.goto 4, 3) := by decide +kernel
theorem dL_law_762 : decode cL_law 762 = .ok (.iconst 0, 1) := by decide +kernel
theorem dL_law_763 : decode cL_law 763 = .ok (.istore 22, 2) := by decide +kernel
theorem dL_law_765 : decode cL_law 765 = .ok (.aload_n 1, 1) := by decide +kernel
theorem dL_law_766 : decode cL_law 766 = .ok (.aload_n 2, 1) := by decide +kernel
theorem dL_law_767 : decode cL_law 767 = .ok (.iconst 1, 1) := by decide +kernel
theorem dL_law_768 : decode cL_law 768 = .ok (.iaload, 1) := by decide +kernel
theorem dL_law_769 : decode cL_law 769 = .ok (.invokevirtual 103, 3) := by decide +kernel
theorem dL_law_772 : decode cL_law 772 = .ok (.iconst 1, 1) := by decide +kernel
theorem dL_law_773 : decode cL_law 773 = .ok (.if_icmp .gt 82, 3) := by decide +kernel
theorem dL_law_776 : decode cL_law 776 = .ok (.iload 22, 2) := by decide +kernel
theorem dL_law_778 : decode cL_law 778 = .ok (.iload 21, 2) := by decide +kernel
theorem dL_law_780 : decode cL_law 780 = .ok (.ifCond .lt 7, 3) := by decide +kernel
theorem dL_law_783 : decode cL_law 783 = .ok (.iconst 1, 1) := by decide +kernel
theorem dL_law_784 : decode cL_law 784 = .ok (.goto 4, 3) := by decide +kernel
theorem dL_law_787 : decode cL_law 787 = .ok (.iconst 0, 1) := by decide +kernel
theorem dL_law_788 : decode cL_law 788 = .ok (.if_icmp .ne 67, 3) := by decide +kernel
theorem dL_law_791 : decode cL_law 791 = .ok (.iload 21, 2) := by decide +kernel
theorem dL_law_793 : decode cL_law 793 = .ok (.ifCond .le 14, 3) := by decide +kernel
theorem dL_law_796 : decode cL_law 796 = .ok (.aload_n 1, 1) := by decide +kernel
theorem dL_law_797 : decode cL_law 797 = .ok (.iload 21, 2) := by decide +kernel
theorem dL_law_799 : decode cL_law 799 = .ok (.iconst 1, 1) := by decide +kernel
theorem dL_law_800 : decode cL_law 800 = .ok (.isub, 1) := by decide +kernel
theorem dL_law_801 : decode cL_law 801 = .ok (.invokevirtual 103, 3) := by decide +kernel
theorem dL_law_804 : decode cL_law 804 = .ok (.ifCond .ne 51, 3) := by decide +kernel
theorem dL_law_807 : decode cL_law 807 = .ok (.iload 21, 2) := by decide +kernel
theorem dL_law_809 : decode cL_law 809 = .ok (.ifCond .lt 13, 3) := by decide +kernel
theorem dL_law_812 : decode cL_law 812 = .ok (.aload_n 1, 1) := by decide +kernel
theorem dL_law_813 : decode cL_law 813 = .ok (.iload 21, 2) := by decide +kernel
theorem dL_law_815 : decode cL_law 815 = .ok (.invokevirtual 103, 3) := by decide +kernel
theorem dL_law_818 : decode cL_law 818 = .ok (.iconst 1, 1) := by decide +kernel
theorem dL_law_819 : decode cL_law 819 = .ok (.if_icmp .lt 36, 3) := by decide +kernel
theorem dL_law_822 : decode cL_law 822 = .ok (.iload 19, 2) := by decide +kernel
theorem dL_law_824 : decode cL_law 824 = .ok (.ifCond .lt 31, 3) := by decide +kernel
theorem dL_law_827 : decode cL_law 827 = .ok (.aload_n 2, 1) := by decide +kernel
theorem dL_law_828 : decode cL_law 828 = .ok (.iconst 1, 1) := by decide +kernel
theorem dL_law_829 : decode cL_law 829 = .ok (.iaload, 1) := by decide +kernel
theorem dL_law_830 : decode cL_law 830 = .ok (.ifCond .le 15, 3) := by decide +kernel
theorem dL_law_833 : decode cL_law 833 = .ok (.aload_n 1, 1) := by decide +kernel
theorem dL_law_834 : decode cL_law 834 = .ok (.aload_n 2, 1) := by decide +kernel
theorem dL_law_835 : decode cL_law 835 = .ok (.iconst 1, 1) := by decide +kernel
theorem dL_law_836 : decode cL_law 836 = .ok (.iaload, 1) := by decide +kernel
theorem dL_law_837 : decode cL_law 837 = .ok (.iconst 1, 1) := by decide +kernel
theorem dL_law_838 : decode cL_law 838 = .ok (.isub, 1) := by decide +kernel
theorem dL_law_839 : decode cL_law 839 = .ok (.invokevirtual 106, 3) := by decide +kernel
theorem dL_law_842 : decode cL_law 842 = .ok (.ifCond .ne 13, 3) := by decide +kernel
theorem dL_law_845 : decode cL_law 845 = .ok (.iload 22, 2) := by decide +kernel
theorem dL_law_847 : decode cL_law 847 = .ok (.ifCond .ne 10, 3) := by decide +kernel
theorem dL_law_850 : decode cL_law 850 = .ok (.iload 20, 2) := by decide +kernel
theorem dL_law_852 : decode cL_law 852 = .ok (.ifCond .eq 5, 3) := by decide +kernel
theorem dL_law_855 : decode cL_law 855 = .ok (.iconst 0, 1) := by decide +kernel
theorem dL_law_856 : decode cL_law 856 = .ok (.ireturn, 1) := by decide +kernel
theorem dL_law_857 : decode cL_law 857 = .ok (.iconst 2, 1) := by decide +kernel
theorem dL_law_858 : decode cL_law 858 = .ok (.iload 4, 2) := by decide +kernel
theorem dL_law_860 : decode cL_law 860 = .ok (.bipush 12, 2) := by decide +kernel
theorem dL_law_862 : decode cL_law 862 = .ok (.ishr, 1) := by decide +kernel
theorem dL_law_863 : decode cL_law 863 = .ok (.bipush 8, 2) := by decide +kernel
theorem dL_law_865 : decode cL_law 865 = .ok (.invokestatic 15, 3) := by decide +kernel
theorem dL_law_868 : decode cL_law 868 = .ok (.iadd, 1) := by decide +kernel
theorem dL_law_869 : decode cL_law 869 = .ok (.istore 23, 2) := by decide +kernel
theorem dL_law_871 : decode cL_law 871 = .ok (.iload 4, 2) := by decide +kernel
theorem dL_law_873 : decode cL_law 873 = .ok (.bipush 16, 2) := by decide +kernel
theorem dL_law_875 : decode cL_law 875 = .ok (.ishr, 1) := by decide +kernel
theorem dL_law_876 : decode cL_law 876 = .ok (.iload 23, 2) := by decide +kernel
theorem dL_law_878 : decode cL_law 878 = .ok (.iconst 1, 1) := by decide +kernel
theorem dL_law_879 : decode cL_law 879 = .ok (.iadd, 1) := by decide +kernel
theorem dL_law_880 : decode cL_law 880 = .ok (.invokestatic 15, 3) := by decide +kernel
theorem dL_law_883 : decode cL_law 883 = .ok (.istore 24, 2) := by decide +kernel
theorem dL_law_885 : decode cL_law 885 = .ok (.iconst 0, 1) := by decide +kernel
theorem dL_law_886 : decode cL_law 886 = .ok (.istore 25, 2) := by decide +kernel
theorem dL_law_888 : decode cL_law 888 = .ok (.iload 25, 2) := by decide +kernel
theorem dL_law_890 : decode cL_law 890 = .ok (.aload_n 2, 1) := by decide +kernel
theorem dL_law_891 : decode cL_law 891 = .ok (.iconst 1, 1) := by decide +kernel
theorem dL_law_892 : decode cL_law 892 = .ok (.iaload, 1) := by decide +kernel
theorem dL_law_893 : decode cL_law 893 = .ok (.if_icmp .ge 34, 3) := by decide +kernel
theorem dL_law_896 : decode cL_law 896 = .ok (.aload_n 1, 1) := by decide +kernel
theorem dL_law_897 : decode cL_law 897 = .ok (.iload 25, 2) := by decide +kernel
theorem dL_law_899 : decode cL_law 899 = .ok (.iconst 0, 1) := by decide +kernel
theorem dL_law_900 : decode cL_law 900 = .ok (.invokevirtual 29, 3) := by decide +kernel
theorem dL_law_903 : decode cL_law 903 = .ok (.ifCond .lt 16, 3) := by decide +kernel
theorem dL_law_906 : decode cL_law 906 = .ok (.aload_n 1, 1) := by decide +kernel
theorem dL_law_907 : decode cL_law 907 = .ok (.iload 25, 2) := by decide +kernel
theorem dL_law_909 : decode cL_law 909 = .ok (.iload 24, 2) := by decide +kernel
theorem dL_law_911 : decode cL_law 911 = .ok (.iload 23, 2) := by decide +kernel
theorem dL_law_913 : decode cL_law 913 = .ok (.invokevirtual 109, 3) := by decide +kernel
theorem dL_law_916 : decode cL_law 916 = .ok (.ifCond .ge 5, 3) := by decide +kernel
theorem dL_law_919 : decode cL_law 919 = .ok (.iconst 0, 1) := by decide +kernel
theorem dL_law_920 : decode cL_law 920 = .ok (.ireturn, 1) := by decide +kernel
theorem dL_law_921 : decode cL_law 921 = .ok (.iinc 25 1, 3) := by decide +kernel
theorem dL_law_924 : decode cL_law 924 = .ok (.goto (-36), 3) := by decide +kernel
theorem dL_law_927 : decode cL_law 927 = .ok (.aload_n 1, 1) := by decide +kernel
theorem dL_law_928 : decode cL_law 928 = .ok (.iload 24, 2) := by decide +kernel
theorem dL_law_930 : decode cL_law 930 = .ok (.iload 23, 2) := by decide +kernel
theorem dL_law_932 : decode cL_law 932 = .ok (.iconst 0, 1) := by decide +kernel
theorem dL_law_933 : decode cL_law 933 = .ok (.invokevirtual 113, 3) := by decide +kernel
theorem dL_law_936 : decode cL_law 936 = .ok (.lstore 25, 2) := by decide +kernel
theorem dL_law_938 : decode cL_law 938 = .ok (.aload_n 1, 1) := by decide +kernel
theorem dL_law_939 : decode cL_law 939 = .ok (.iload 24, 2) := by decide +kernel
theorem dL_law_941 : decode cL_law 941 = .ok (.iload 23, 2) := by decide +kernel
theorem dL_law_943 : decode cL_law 943 = .ok (.iconst 1, 1) := by decide +kernel
theorem dL_law_944 : decode cL_law 944 = .ok (.invokevirtual 113, 3) := by decide +kernel
theorem dL_law_947 : decode cL_law 947 = .ok (.lstore 27, 2) := by decide +kernel
theorem dL_law_949 : decode cL_law 949 = .ok (.lload 25, 2) := by decide +kernel
theorem dL_law_951 : decode cL_law 951 = .ok (.lload 27, 2) := by decide +kernel
theorem dL_law_953 : decode cL_law 953 = .ok (.invokestatic 49, 3) := by decide +kernel
theorem dL_law_956 : decode cL_law 956 = .ok (.lstore 29, 2) := by decide +kernel
theorem dL_law_958 : decode cL_law 958 = .ok (.aload_n 1, 1) := by decide +kernel
theorem dL_law_959 : decode cL_law 959 = .ok (.iconst 0, 1) := by decide +kernel
theorem dL_law_960 : decode cL_law 960 = .ok (.invokevirtual 60, 3) := by decide +kernel
theorem dL_law_963 : decode cL_law 963 = .ok (.lload 25, 2) := by decide +kernel
theorem dL_law_965 : decode cL_law 965 = .ok (.lload 29, 2) := by decide +kernel
theorem dL_law_967 : decode cL_law 967 = .ok (.ldiv, 1) := by decide +kernel
theorem dL_law_968 : decode cL_law 968 = .ok (.lcmp, 1) := by decide +kernel
theorem dL_law_969 : decode cL_law 969 = .ok (.ifCond .ne 45, 3) := by decide +kernel
theorem dL_law_972 : decode cL_law 972 = .ok (.aload_n 1, 1) := by decide +kernel
theorem dL_law_973 : decode cL_law 973 = .ok (.iconst 1, 1) := by decide +kernel
theorem dL_law_974 : decode cL_law 974 = .ok (.invokevirtual 60, 3) := by decide +kernel
theorem dL_law_977 : decode cL_law 977 = .ok (.lload 27, 2) := by decide +kernel
theorem dL_law_979 : decode cL_law 979 = .ok (.lload 29, 2) := by decide +kernel
theorem dL_law_981 : decode cL_law 981 = .ok (.ldiv, 1) := by decide +kernel
theorem dL_law_982 : decode cL_law 982 = .ok (.lcmp, 1) := by decide +kernel
theorem dL_law_983 : decode cL_law 983 = .ok (.ifCond .ne 31, 3) := by decide +kernel
theorem dL_law_986 : decode cL_law 986 = .ok (.aload_n 1, 1) := by decide +kernel
theorem dL_law_987 : decode cL_law 987 = .ok (.iconst 0, 1) := by decide +kernel
theorem dL_law_988 : decode cL_law 988 = .ok (.invokevirtual 73, 3) := by decide +kernel
theorem dL_law_991 : decode cL_law 991 = .ok (.aload_n 1, 1) := by decide +kernel
theorem dL_law_992 : decode cL_law 992 = .ok (.iconst 0, 1) := by decide +kernel
theorem dL_law_993 : decode cL_law 993 = .ok (.invokevirtual 60, 3) := by decide +kernel
theorem dL_law_996 : decode cL_law 996 = .ok (.lcmp, 1) := by decide +kernel
theorem dL_law_997 : decode cL_law 997 = .ok (.ifCond .ne 17, 3) := by decide +kernel
theorem dL_law_1000 : decode cL_law 1000 = .ok (.aload_n 1, 1) := by decide +kernel
theorem dL_law_1001 : decode cL_law 1001 = .ok (.iconst 1, 1) := by decide +kernel
theorem dL_law_1002 : decode cL_law 1002 = .ok (.invokevirtual 73, 3) := by decide +kernel
theorem dL_law_1005 : decode cL_law 1005 = .ok (.aload_n 1, 1) := by decide +kernel
theorem dL_law_1006 : decode cL_law 1006 = .ok (.iconst 1, 1) := by decide +kernel
theorem dL_law_1007 : decode cL_law 1007 = .ok (.invokevirtual 60, 3) := by decide +kernel
theorem dL_law_1010 : decode cL_law 1010 = .ok (.lcmp, 1) := by decide +kernel
theorem dL_law_1011 : decode cL_law 1011 = .ok (.ifCond .eq 5, 3) := by decide +kernel
theorem dL_law_1014 : decode cL_law 1014 = .ok (.iconst 0, 1) := by decide +kernel
theorem dL_law_1015 : decode cL_law 1015 = .ok (.ireturn, 1) := by decide +kernel
theorem dL_law_1016 : decode cL_law 1016 = .ok (.aload_n 2, 1) := by decide +kernel
theorem dL_law_1017 : decode cL_law 1017 = .ok (.iconst 1, 1) := by decide +kernel
theorem dL_law_1018 : decode cL_law 1018 = .ok (.iaload, 1) := by decide +kernel
theorem dL_law_1019 : decode cL_law 1019 = .ok (.bipush 10, 2) := by decide +kernel
theorem dL_law_1021 : decode cL_law 1021 = .ok (.if_icmp .ge 104, 3) := by decide +kernel
theorem dL_law_1024 : decode cL_law 1024 = .ok (.iconst 0, 1) := by decide +kernel
theorem dL_law_1025 : decode cL_law 1025 = .ok (.istore 31, 2) := by decide +kernel
theorem dL_law_1027 : decode cL_law 1027 = .ok (.iconst 0, 1) := by decide +kernel
theorem dL_law_1028 : decode cL_law 1028 = .ok (.istore 32, 2) := by decide +kernel
theorem dL_law_1030 : decode cL_law 1030 = .ok (.iconst 0, 1) := by decide +kernel
theorem dL_law_1031 : decode cL_law 1031 = .ok (.istore 33, 2) := by decide +kernel
theorem dL_law_1033 : decode cL_law 1033 = .ok (.iload 33, 2) := by decide +kernel
theorem dL_law_1035 : decode cL_law 1035 = .ok (.aload_n 2, 1) := by decide +kernel
theorem dL_law_1036 : decode cL_law 1036 = .ok (.iconst 1, 1) := by decide +kernel
theorem dL_law_1037 : decode cL_law 1037 = .ok (.iaload, 1) := by decide +kernel
theorem dL_law_1038 : decode cL_law 1038 = .ok (.if_icmp .gt 20, 3) := by decide +kernel
theorem dL_law_1041 : decode cL_law 1041 = .ok (.iload 31, 2) := by decide +kernel
theorem dL_law_1043 : decode cL_law 1043 = .ok (.aload_n 1, 1) := by decide +kernel
theorem dL_law_1044 : decode cL_law 1044 = .ok (.iload 33, 2) := by decide +kernel
theorem dL_law_1046 : decode cL_law 1046 = .ok (.invokevirtual 103, 3) := by decide +kernel
theorem dL_law_1049 : decode cL_law 1049 = .ok (.iadd, 1) := by decide +kernel
theorem dL_law_1050 : decode cL_law 1050 = .ok (.istore 31, 2) := by decide +kernel
theorem dL_law_1052 : decode cL_law 1052 = .ok (.iinc 33 1, 3) := by decide +kernel
theorem dL_law_1055 : decode cL_law 1055 = .ok (.goto (-22), 3) := by decide +kernel
theorem dL_law_1058 : decode cL_law 1058 = .ok (.aload_n 1, 1) := by decide +kernel
theorem dL_law_1059 : decode cL_law 1059 = .ok (.iconst 0, 1) := by decide +kernel
theorem dL_law_1060 : decode cL_law 1060 = .ok (.iconst 1, 1) := by decide +kernel
theorem dL_law_1061 : decode cL_law 1061 = .ok (.iconst 1, 1) := by decide +kernel
theorem dL_law_1062 : decode cL_law 1062 = .ok (.iconst 2, 1) := by decide +kernel
theorem dL_law_1063 : decode cL_law 1063 = .ok (.invokevirtual 25, 3) := by decide +kernel
theorem dL_law_1066 : decode cL_law 1066 = .ok (.aload_n 2, 1) := by decide +kernel
theorem dL_law_1067 : decode cL_law 1067 = .ok (.iconst 1, 1) := by decide +kernel
theorem dL_law_1068 : decode cL_law 1068 = .ok (.iaload, 1) := by decide +kernel
theorem dL_law_1069 : decode cL_law 1069 = .ok (.if_icmp .eq 5, 3) := by decide +kernel
theorem dL_law_1072 : decode cL_law 1072 = .ok (.iconst 0, 1) := by decide +kernel
theorem dL_law_1073 : decode cL_law 1073 = .ok (.ireturn, 1) := by decide +kernel
theorem dL_law_1074 : decode cL_law 1074 = .ok (.iconst 0, 1) := by decide +kernel
theorem dL_law_1075 : decode cL_law 1075 = .ok (.istore 33, 2) := by decide +kernel
theorem dL_law_1077 : decode cL_law 1077 = .ok (.iload 33, 2) := by decide +kernel
theorem dL_law_1079 : decode cL_law 1079 = .ok (.aload_n 2, 1) := by decide +kernel
theorem dL_law_1080 : decode cL_law 1080 = .ok (.iconst 1, 1) := by decide +kernel
theorem dL_law_1081 : decode cL_law 1081 = .ok (.iaload, 1) := by decide +kernel
theorem dL_law_1082 : decode cL_law 1082 = .ok (.iconst 1, 1) := by decide +kernel
theorem dL_law_1083 : decode cL_law 1083 = .ok (.iadd, 1) := by decide +kernel
theorem dL_law_1084 : decode cL_law 1084 = .ok (.if_icmp .gt 20, 3) := by decide +kernel
theorem dL_law_1087 : decode cL_law 1087 = .ok (.iload 32, 2) := by decide +kernel
theorem dL_law_1089 : decode cL_law 1089 = .ok (.aload_n 1, 1) := by decide +kernel
theorem dL_law_1090 : decode cL_law 1090 = .ok (.iload 33, 2) := by decide +kernel
theorem dL_law_1092 : decode cL_law 1092 = .ok (.invokevirtual 103, 3) := by decide +kernel
theorem dL_law_1095 : decode cL_law 1095 = .ok (.iadd, 1) := by decide +kernel
theorem dL_law_1096 : decode cL_law 1096 = .ok (.istore 32, 2) := by decide +kernel
theorem dL_law_1098 : decode cL_law 1098 = .ok (.iinc 33 1, 3) := by decide +kernel
theorem dL_law_1101 : decode cL_law 1101 = .ok (.goto (-24), 3) := by decide +kernel
theorem dL_law_1104 : decode cL_law 1104 = .ok (.iload 32, 2) := by decide +kernel
theorem dL_law_1106 : decode cL_law 1106 = .ok (.iconst 2, 1) := by decide +kernel
theorem dL_law_1107 : decode cL_law 1107 = .ok (.iload 31, 2) := by decide +kernel
theorem dL_law_1109 : decode cL_law 1109 = .ok (.imul, 1) := by decide +kernel
theorem dL_law_1110 : decode cL_law 1110 = .ok (.if_icmp .lt 13, 3) := by decide +kernel
theorem dL_law_1113 : decode cL_law 1113 = .ok (.aload_n 1, 1) := by decide +kernel
theorem dL_law_1114 : decode cL_law 1114 = .ok (.invokevirtual 116, 3) := by decide +kernel
theorem dL_law_1117 : decode cL_law 1117 = .ok (.aload_n 2, 1) := by decide +kernel
theorem dL_law_1118 : decode cL_law 1118 = .ok (.iconst 1, 1) := by decide +kernel
theorem dL_law_1119 : decode cL_law 1119 = .ok (.iaload, 1) := by decide +kernel
theorem dL_law_1120 : decode cL_law 1120 = .ok (.if_icmp .eq 5, 3) := by decide +kernel
theorem dL_law_1123 : decode cL_law 1123 = .ok (.iconst 0, 1) := by decide +kernel
theorem dL_law_1124 : decode cL_law 1124 = .ok (.ireturn, 1) := by decide +kernel
theorem dL_law_1125 : decode cL_law 1125 = .ok (.iinc 3 1, 3) := by decide +kernel
theorem dL_law_1128 : decode cL_law 1128 = .ok (.goto (-1113), 3) := by decide +kernel
theorem dL_law_1131 : decode cL_law 1131 = .ok (.iconst 1, 1) := by decide +kernel
theorem dL_law_1132 : decode cL_law 1132 = .ok (.ireturn, 1) := by decide +kernel
