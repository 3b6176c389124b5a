theorem dX9_init_0 : decode cX9_init 0 = .ok (.aload_n 0, 1) := by decide +kernel
theorem dX9_init_1 : decode cX9_init 1 = .ok (.invokespecial 1, 3) := by decide +kernel
theorem dX9_init_4 : decode cX9_init 4 = .ok (.aload_n 0, 1) := by decide +kernel
theorem dX9_init_5 : decode cX9_init 5 = .ok (.iconst 4, 1) := by decide +kernel
theorem dX9_init_6 : decode cX9_init 6 = .ok (.newarray .int, 2) := by decide +kernel
theorem dX9_init_8 : decode cX9_init 8 = .ok (.putfield 7, 3) := by decide +kernel
theorem dX9_init_11 : decode cX9_init 11 = .ok (.aload_n 0, 1) := by decide +kernel
theorem dX9_init_12 : decode cX9_init 12 = .ok (.bipush 24, 2) := by decide +kernel
theorem dX9_init_14 : decode cX9_init 14 = .ok (.newarray .long, 2) := by decide +kernel
theorem dX9_init_16 : decode cX9_init 16 = .ok (.putfield 13, 3) := by decide +kernel
theorem dX9_init_19 : decode cX9_init 19 = .ok (.aload_n 0, 1) := by decide +kernel
theorem dX9_init_20 : decode cX9_init 20 = .ok (.iconst 4, 1) := by decide +kernel
theorem dX9_init_21 : decode cX9_init 21 = .ok (.newarray .int, 2) := by decide +kernel
theorem dX9_init_23 : decode cX9_init 23 = .ok (.putfield 17, 3) := by decide +kernel
theorem dX9_init_26 : decode cX9_init 26 = .ok (.aload_n 0, 1) := by decide +kernel
theorem dX9_init_27 : decode cX9_init 27 = .ok (.bipush 6, 2) := by decide +kernel
theorem dX9_init_29 : decode cX9_init 29 = .ok (.newarray .int, 2) := by decide +kernel
theorem dX9_init_31 : decode cX9_init 31 = .ok (.putfield 20, 3) := by decide +kernel
theorem dX9_init_34 : decode cX9_init 34 = .ok (.aload_n 0, 1) := by decide +kernel
theorem dX9_init_35 : decode cX9_init 35 = .ok (.bipush 6, 2) := by decide +kernel
theorem dX9_init_37 : decode cX9_init 37 = .ok (.newarray .int, 2) := by decide +kernel
theorem dX9_init_39 : decode cX9_init 39 = .ok (.putfield 23, 3) := by decide +kernel
theorem dX9_init_42 : decode cX9_init 42 = .ok (.aload_n 0, 1) := by decide +kernel
theorem dX9_init_43 : decode cX9_init 43 = .ok (.bipush 6, 2) := by decide +kernel
theorem dX9_init_45 : decode cX9_init 45 = .ok (.newarray .int, 2) := by decide +kernel
theorem dX9_init_47 : decode cX9_init 47 = .ok (.putfield 26, 3) := by decide +kernel
theorem dX9_init_50 : decode cX9_init 50 = .ok (.aload_n 0, 1) := by decide +kernel
theorem dX9_init_51 : decode cX9_init 51 = .ok (.bipush 40, 2) := by decide +kernel
theorem dX9_init_53 : decode cX9_init 53 = .ok (.newarray .byte, 2) := by decide +kernel
theorem dX9_init_55 : decode cX9_init 55 = .ok (.putfield 29, 3) := by decide +kernel
theorem dX9_init_58 : decode cX9_init 58 = .ok (.aload_n 0, 1) := by decide +kernel
theorem dX9_init_59 : decode cX9_init 59 = .ok (.bipush 6, 2) := by decide +kernel
theorem dX9_init_61 : decode cX9_init 61 = .ok (.newarray .long, 2) := by decide +kernel
theorem dX9_init_63 : decode cX9_init 63 = .ok (.putfield 33, 3) := by decide +kernel
theorem dX9_init_66 : decode cX9_init 66 = .ok (.aload_n 0, 1) := by decide +kernel
theorem dX9_init_67 : decode cX9_init 67 = .ok (.bipush 6, 2) := by decide +kernel
theorem dX9_init_69 : decode cX9_init 69 = .ok (.newarray .long, 2) := by decide +kernel
theorem dX9_init_71 : decode cX9_init 71 = .ok (.putfield 36, 3) := by decide +kernel
theorem dX9_init_74 : decode cX9_init 74 = .ok (.aload_n 0, 1) := by decide +kernel
theorem dX9_init_75 : decode cX9_init 75 = .ok (.bipush 6, 2) := by decide +kernel
theorem dX9_init_77 : decode cX9_init 77 = .ok (.newarray .long, 2) := by decide +kernel
theorem dX9_init_79 : decode cX9_init 79 = .ok (.putfield 39, 3) := by decide +kernel
theorem dX9_init_82 : decode cX9_init 82 = .ok (.aload_n 0, 1) := by decide +kernel
theorem dX9_init_83 : decode cX9_init 83 = .ok (.bipush 36, 2) := by decide +kernel
theorem dX9_init_85 : decode cX9_init 85 = .ok (.newarray .long, 2) := by decide +kernel
theorem dX9_init_87 : decode cX9_init 87 = .ok (.putfield 42, 3) := by decide +kernel
theorem dX9_init_90 : decode cX9_init 90 = .ok (.aload_n 0, 1) := by decide +kernel
theorem dX9_init_91 : decode cX9_init 91 = .ok (.bipush 6, 2) := by decide +kernel
theorem dX9_init_93 : decode cX9_init 93 = .ok (.newarray .int, 2) := by decide +kernel
theorem dX9_init_95 : decode cX9_init 95 = .ok (.putfield 45, 3) := by decide +kernel
theorem dX9_init_98 : decode cX9_init 98 = .ok (.aload_n 0, 1) := by decide +kernel
theorem dX9_init_99 : decode cX9_init 99 = .ok (.bipush 6, 2) := by decide +kernel
theorem dX9_init_101 : decode cX9_init 101 = .ok (.newarray .int, 2) := by decide +kernel
theorem dX9_init_103 : decode cX9_init 103 = .ok (.putfield 48, 3) := by decide +kernel
theorem dX9_init_106 : decode cX9_init 106 = .ok (.aload_n 0, 1) := by decide +kernel
theorem dX9_init_107 : decode cX9_init 107 = .ok (.bipush 6, 2) := by decide +kernel
theorem dX9_init_109 : decode cX9_init 109 = .ok (.newarray .long, 2) := by decide +kernel
theorem dX9_init_111 : decode cX9_init 111 = .ok (.putfield 51, 3) := by decide +kernel
theorem dX9_init_114 : decode cX9_init 114 = .ok (.aload_n 0, 1) := by decide +kernel
theorem dX9_init_115 : decode cX9_init 115 = .ok (.bipush 6, 2) := by decide +kernel
theorem dX9_init_117 : decode cX9_init 117 = .ok (.newarray .long, 2) := by decide +kernel
theorem dX9_init_119 : decode cX9_init 119 = .ok (.putfield 54, 3) := by decide +kernel
theorem dX9_init_122 : decode cX9_init 122 = .ok (.aload_n 0, 1) := by decide +kernel
theorem dX9_init_123 : decode cX9_init 123 = .ok (.bipush 6, 2) := by decide +kernel
theorem dX9_init_125 : decode cX9_init 125 = .ok (.newarray .long, 2) := by decide +kernel
theorem dX9_init_127 : decode cX9_init 127 = .ok (.putfield 57, 3) := by decide +kernel
theorem dX9_init_130 : decode cX9_init 130 = .ok (.aload_n 0, 1) := by decide +kernel
theorem dX9_init_131 : decode cX9_init 131 = .ok (.bipush 6, 2) := by decide +kernel
theorem dX9_init_133 : decode cX9_init 133 = .ok (.newarray .long, 2) := by decide +kernel
theorem dX9_init_135 : decode cX9_init 135 = .ok (.putfield 60, 3) := by decide +kernel
theorem dX9_init_138 : decode cX9_init 138 = .ok (.aload_n 0, 1) := by decide +kernel
theorem dX9_init_139 : decode cX9_init 139 = .ok (.sipush 256, 3) := by decide +kernel
theorem dX9_init_142 : decode cX9_init 142 = .ok (.newarray .long, 2) := by decide +kernel
theorem dX9_init_144 : decode cX9_init 144 = .ok (.putfield 63, 3) := by decide +kernel
theorem dX9_init_147 : decode cX9_init 147 = .ok (.aload_n 0, 1) := by decide +kernel
theorem dX9_init_148 : decode cX9_init 148 = .ok (.sipush 256, 3) := by decide +kernel
theorem dX9_init_151 : decode cX9_init 151 = .ok (.newarray .long, 2) := by decide +kernel
theorem dX9_init_153 : decode cX9_init 153 = .ok (.putfield 66, 3) := by decide +kernel
theorem dX9_init_156 : decode cX9_init 156 = .ok (.aload_n 0, 1) := by decide +kernel
theorem dX9_init_157 : decode cX9_init 157 = .ok (.sipush 256, 3) := by decide +kernel
theorem dX9_init_160 : decode cX9_init 160 = .ok (.newarray .long, 2) := by decide +kernel
theorem dX9_init_162 : decode cX9_init 162 = .ok (.putfield 69, 3) := by decide +kernel
theorem dX9_init_165 : decode cX9_init 165 = .ok (.aload_n 0, 1) := by decide +kernel
theorem dX9_init_166 : decode cX9_init 166 = .ok (.bipush 12, 2) := by decide +kernel
theorem dX9_init_168 : decode cX9_init 168 = .ok (.newarray .long, 2) := by decide +kernel
theorem dX9_init_170 : decode cX9_init 170 = .ok (.putfield 72, 3) := by decide +kernel
theorem dX9_init_173 : decode cX9_init 173 = .ok (.aload_n 0, 1) := by decide +kernel
theorem dX9_init_174 : decode cX9_init 174 = .ok (.bipush 64, 2) := by decide +kernel
theorem dX9_init_176 : decode cX9_init 176 = .ok (.newarray .int, 2) := by decide +kernel
theorem dX9_init_178 : decode cX9_init 178 = .ok (.putfield 75, 3) := by decide +kernel
theorem dX9_init_181 : decode cX9_init 181 = .ok (.aload_n 0, 1) := by decide +kernel
theorem dX9_init_182 : decode cX9_init 182 = .ok (.bipush 36, 2) := by decide +kernel
theorem dX9_init_184 : decode cX9_init 184 = .ok (.newarray .long, 2) := by decide +kernel
theorem dX9_init_186 : decode cX9_init 186 = .ok (.putfield 78, 3) := by decide +kernel
theorem dX9_init_189 : decode cX9_init 189 = .ok (.aload_n 0, 1) := by decide +kernel
theorem dX9_init_190 : decode cX9_init 190 = .ok (.bipush 6, 2) := by decide +kernel
theorem dX9_init_192 : decode cX9_init 192 = .ok (.newarray .int, 2) := by decide +kernel
theorem dX9_init_194 : decode cX9_init 194 = .ok (.putfield 81, 3) := by decide +kernel
theorem dX9_init_197 : decode cX9_init 197 = .ok (.aload_n 0, 1) := by decide +kernel
theorem dX9_init_198 : decode cX9_init 198 = .ok (.bipush 6, 2) := by decide +kernel
theorem dX9_init_200 : decode cX9_init 200 = .ok (.newarray .int, 2) := by decide +kernel
theorem dX9_init_202 : decode cX9_init 202 = .ok (.putfield 84, 3) := by decide +kernel
theorem dX9_init_205 : decode cX9_init 205 = .ok (.aload_n 0, 1) := by decide +kernel
theorem dX9_init_206 : decode cX9_init 206 = .ok (.bipush 6, 2) := by decide +kernel
theorem dX9_init_208 : decode cX9_init 208 = .ok (.newarray .int, 2) := by decide +kernel
theorem dX9_init_210 : decode cX9_init 210 = .ok (.putfield 87, 3) := by decide +kernel
theorem dX9_init_213 : decode cX9_init 213 = .ok (.aload_n 0, 1) := by decide +kernel
theorem dX9_init_214 : decode cX9_init 214 = .ok (.iconst 4, 1) := by decide +kernel
theorem dX9_init_215 : decode cX9_init 215 = .ok (.newarray .int, 2) := by decide +kernel
theorem dX9_init_217 : decode cX9_init 217 = .ok (.putfield 90, 3) := by decide +kernel
theorem dX9_init_220 : decode cX9_init 220 = .ok (.aload_n 0, 1) := by decide +kernel
theorem dX9_init_221 : decode cX9_init 221 = .ok (.iconst 4, 1) := by decide +kernel
theorem dX9_init_222 : decode cX9_init 222 = .ok (.newarray .int, 2) := by decide +kernel
theorem dX9_init_224 : decode cX9_init 224 = .ok (.putfield 93, 3) := by decide +kernel
theorem dX9_init_227 : decode cX9_init 227 = .ok (.aload_n 0, 1) := by decide +kernel
theorem dX9_init_228 : decode cX9_init 228 = .ok (.bipush 24, 2) := by decide +kernel
theorem dX9_init_230 : decode cX9_init 230 = .ok (.newarray .long, 2) := by decide +kernel
theorem dX9_init_232 : decode cX9_init 232 = .ok (.putfield 96, 3) := by decide +kernel
theorem dX9_init_235 : decode cX9_init 235 = .ok (.aload_n 0, 1) := by decide +kernel
theorem dX9_init_236 : decode cX9_init 236 = .ok (.bipush 6, 2) := by decide +kernel
theorem dX9_init_238 : decode cX9_init 238 = .ok (.newarray .int, 2) := by decide +kernel
theorem dX9_init_240 : decode cX9_init 240 = .ok (.putfield 99, 3) := by decide +kernel
theorem dX9_init_243 : decode cX9_init 243 = .ok (.aload_n 0, 1) := by decide +kernel
theorem dX9_init_244 : decode cX9_init 244 = .ok (.bipush 6, 2) := by decide +kernel
theorem dX9_init_246 : decode cX9_init 246 = .ok (.newarray .int, 2) := by decide +kernel
theorem dX9_init_248 : decode cX9_init 248 = .ok (.putfield 102, 3) := by decide +kernel
theorem dX9_init_251 : decode cX9_init 251 = .ok (.aload_n 0, 1) := by decide +kernel
theorem dX9_init_252 : decode cX9_init 252 = .ok (.bipush 6, 2) := by decide +kernel
theorem dX9_init_254 : decode cX9_init 254 = .ok (.newarray .int, 2) := by decide +kernel
theorem dX9_init_256 : decode cX9_init 256 = .ok (.putfield 105, 3) := by decide +kernel
theorem dX9_init_259 : decode cX9_init 259 = .ok (.iconst 0, 1) := by decide +kernel
theorem dX9_init_260 : decode cX9_init 260 = .ok (.istore_n 1, 1) := by decide +kernel
theorem dX9_init_261 : decode cX9_init 261 = .ok (.iload_n 1, 1) := by decide +kernel
theorem dX9_init_262 : decode cX9_init 262 = .ok (.iconst 4, 1) := by decide +kernel
theorem dX9_init_263 : decode cX9_init 263 = .ok (.if_icmp .ge 16, 3) := by decide +kernel
theorem dX9_init_266 : decode cX9_init 266 = .ok (.aload_n 0, 1) := by decide +kernel
theorem dX9_init_267 : decode cX9_init 267 = .ok (.getfield 17, 3) := by decide +kernel
theorem dX9_init_270 : decode cX9_init 270 = .ok (.iload_n 1, 1) := by decide +kernel
theorem dX9_init_271 : decode cX9_init 271 = .ok (.iconst (-1), 1) := by decide +kernel
theorem dX9_init_272 : decode cX9_init 272 = .ok (.iastore, 1) := by decide +kernel
theorem dX9_init_273 : decode cX9_init 273 = .ok (.iinc 1 1, 3) := by decide +kernel
theorem dX9_init_276 : decode cX9_init 276 = .ok (.goto (-15), 3) := by decide +kernel
theorem dX9_init_279 : decode cX9_init 279 = .ok (.return_, 1) := by decide +kernel
theorem dX9_within_0 : decode cX9_within 0 = .ok (.lload_n 0, 1) := by decide +kernel
theorem dX9_within_1 : decode cX9_within 1 = .ok (.lload_n 2, 1) := by decide +kernel
theorem dX9_within_2 : decode cX9_within 2 = .ok (.lcmp, 1) := by decide +kernel
theorem dX9_within_3 : decode cX9_within 3 = .ok (.ifCond .lt 14, 3) := by decide +kernel
theorem dX9_within_6 : decode cX9_within 6 = .ok (.lload_n 0, 1) := by decide +kernel
theorem dX9_within_7 : decode cX9_within 7 = .ok (.lload 4, 2) := by decide +kernel
theorem dX9_within_9 : decode cX9_within 9 = .ok (.lcmp, 1) := by decide +kernel
theorem dX9_within_10 : decode cX9_within 10 = .ok (.ifCond .gt 7, 3) := by decide +kernel
theorem dX9_within_13 : decode cX9_within 13 = .ok (.iconst 1, 1) := by decide +kernel
theorem dX9_within_14 : decode cX9_within 14 = .ok (.goto 4, 3) := by decide +kernel
theorem dX9_within_17 : decode cX9_within 17 = .ok (.iconst 0, 1) := by decide +kernel
theorem dX9_within_18 : decode cX9_within 18 = .ok (.ireturn, 1) := by decide +kernel
theorem dX9_isIn_0 : decode cX9_isIn 0 = .ok (.iload_n 0, 1) := by decide +kernel
theorem dX9_isIn_1 : decode cX9_isIn 1 = .ok (.iload_n 1, 1) := by decide +kernel
theorem dX9_isIn_2 : decode cX9_isIn 2 = .ok (.ishr, 1) := by decide +kernel
theorem dX9_isIn_3 : decode cX9_isIn 3 = .ok (.iconst 1, 1) := by decide +kernel
theorem dX9_isIn_4 : decode cX9_isIn 4 = .ok (.iand, 1) := by decide +kernel
theorem dX9_isIn_5 : decode cX9_isIn 5 = .ok (.iconst 1, 1) := by decide +kernel
theorem dX9_isIn_6 : decode cX9_isIn 6 = .ok (.if_icmp .ne 7, 3) := by decide +kernel
theorem dX9_isIn_9 : decode cX9_isIn 9 = .ok (.iconst 1, 1) := by decide +kernel
theorem dX9_isIn_10 : decode cX9_isIn 10 = .ok (.goto 4, 3) := by decide +kernel
theorem dX9_isIn_13 : decode cX9_isIn 13 = .ok (.iconst 0, 1) := by decide +kernel
theorem dX9_isIn_14 : decode cX9_isIn 14 = .ok (.ireturn, 1) := by decide +kernel
theorem dX9_size_0 : decode cX9_size 0 = .ok (.iconst 0, 1) := by decide +kernel
theorem dX9_size_1 : decode cX9_size 1 = .ok (.istore_n 1, 1) := by decide +kernel
theorem dX9_size_2 : decode cX9_size 2 = .ok (.iconst 0, 1) := by decide +kernel
theorem dX9_size_3 : decode cX9_size 3 = .ok (.istore_n 2, 1) := by decide +kernel
theorem dX9_size_4 : decode cX9_size 4 = .ok (.iload_n 2, 1) := by decide +kernel
theorem dX9_size_5 : decode cX9_size 5 = .ok (.bipush 16, 2) := by decide +kernel
theorem dX9_size_7 : decode cX9_size 7 = .ok (.if_icmp .ge 17, 3) := by decide +kernel
theorem dX9_size_10 : decode cX9_size 10 = .ok (.iload_n 1, 1) := by decide +kernel
theorem dX9_size_11 : decode cX9_size 11 = .ok (.iload_n 0, 1) := by decide +kernel
theorem dX9_size_12 : decode cX9_size 12 = .ok (.iload_n 2, 1) := by decide +kernel
theorem dX9_size_13 : decode cX9_size 13 = .ok (.ishr, 1) := by decide +kernel
theorem dX9_size_14 : decode cX9_size 14 = .ok (.iconst 1, 1) := by decide +kernel
theorem dX9_size_15 : decode cX9_size 15 = .ok (.iand, 1) := by decide +kernel
theorem dX9_size_16 : decode cX9_size 16 = .ok (.iadd, 1) := by decide +kernel
theorem dX9_size_17 : decode cX9_size 17 = .ok (.istore_n 1, 1) := by decide +kernel
theorem dX9_size_18 : decode cX9_size 18 = .ok (.iinc 2 1, 3) := by decide +kernel
theorem dX9_size_21 : decode cX9_size 21 = .ok (.goto (-17), 3) := by decide +kernel
theorem dX9_size_24 : decode cX9_size 24 = .ok (.iload_n 1, 1) := by decide +kernel
theorem dX9_size_25 : decode cX9_size 25 = .ok (.ireturn, 1) := by decide +kernel
theorem dX9_above_0 : decode cX9_above 0 = .ok (.lload_n 0, 1) := by decide +kernel
theorem dX9_above_1 : decode cX9_above 1 = .ok (.lconst 0, 1) := by decide +kernel
theorem dX9_above_2 : decode cX9_above 2 = .ok (.lcmp, 1) := by decide +kernel
theorem dX9_above_3 : decode cX9_above 3 = .ok (.ifCond .ge 8, 3) := by decide +kernel
theorem dX9_above_6 : decode cX9_above 6 = .ok (.lload_n 0, 1) := by decide +kernel
theorem dX9_above_7 : decode cX9_above 7 = .ok (.lneg, 1) := by decide +kernel
theorem dX9_above_8 : decode cX9_above 8 = .ok (.goto 4, 3) := by decide +kernel
theorem dX9_above_11 : decode cX9_above 11 = .ok (.lload_n 0, 1) := by decide +kernel
theorem dX9_above_12 : decode cX9_above 12 = .ok (.lreturn, 1) := by decide +kernel
theorem dX9_divisor_0 : decode cX9_divisor 0 = .ok (.lload_n 0, 1) := by decide +kernel
theorem dX9_divisor_1 : decode cX9_divisor 1 = .ok (.invokestatic 108, 3) := by decide +kernel
theorem dX9_divisor_4 : decode cX9_divisor 4 = .ok (.lstore 4, 2) := by decide +kernel
theorem dX9_divisor_6 : decode cX9_divisor 6 = .ok (.lload_n 2, 1) := by decide +kernel
theorem dX9_divisor_7 : decode cX9_divisor 7 = .ok (.invokestatic 108, 3) := by decide +kernel
theorem dX9_divisor_10 : decode cX9_divisor 10 = .ok (.lstore 6, 2) := by decide +kernel
theorem dX9_divisor_12 : decode cX9_divisor 12 = .ok (.lload 6, 2) := by decide +kernel
theorem dX9_divisor_14 : decode cX9_divisor 14 = .ok (.lconst 0, 1) := by decide +kernel
theorem dX9_divisor_15 : decode cX9_divisor 15 = .ok (.lcmp, 1) := by decide +kernel
theorem dX9_divisor_16 : decode cX9_divisor 16 = .ok (.ifCond .eq 21, 3) := by decide +kernel
theorem dX9_divisor_19 : decode cX9_divisor 19 = .ok (.lload 4, 2) := by decide +kernel
theorem dX9_divisor_21 : decode cX9_divisor 21 = .ok (.lload 6, 2) := by decide +kernel
theorem dX9_divisor_23 : decode cX9_divisor 23 = .ok (.lrem, 1) := by decide +kernel
theorem dX9_divisor_24 : decode cX9_divisor 24 = .ok (.lstore 8, 2) := by decide +kernel
theorem dX9_divisor_26 : decode cX9_divisor 26 = .ok (.lload 6, 2) := by decide +kernel
theorem dX9_divisor_28 : decode cX9_divisor 28 = .ok (.lstore 4, 2) := by decide +kernel
theorem dX9_divisor_30 : decode cX9_divisor 30 = .ok (.lload 8, 2) := by decide +kernel
theorem dX9_divisor_32 : decode cX9_divisor 32 = .ok (.lstore 6, 2) := by decide +kernel
theorem dX9_divisor_34 : decode cX9_divisor 34 = .ok (.goto (-22), 3) := by decide +kernel
theorem dX9_divisor_37 : decode cX9_divisor 37 = .ok (.lload 4, 2) := by decide +kernel
theorem dX9_divisor_39 : decode cX9_divisor 39 = .ok (.lreturn, 1) := by decide +kernel
theorem dX9_letter_0 : decode cX9_letter 0 = .ok (.iload_n 1, 1) := by decide +kernel
theorem dX9_letter_1 : decode cX9_letter 1 = .ok (.i2l, 1) := by decide +kernel
theorem dX9_letter_2 : decode cX9_letter 2 = .ok (.ldc2_w 112, 3) := by decide +kernel
theorem dX9_letter_5 : decode cX9_letter 5 = .ok (.ldc2_w 114, 3) := by decide +kernel
theorem dX9_letter_8 : decode cX9_letter 8 = .ok (.invokestatic 116, 3) := by decide +kernel
theorem dX9_letter_11 : decode cX9_letter 11 = .ok (.ifCond .ne 6, 3) := by decide +kernel
theorem dX9_letter_14 : decode cX9_letter 14 = .ok (.bipush (-102), 2) := by decide +kernel
theorem dX9_letter_16 : decode cX9_letter 16 = .ok (.ireturn, 1) := by decide +kernel
theorem dX9_letter_17 : decode cX9_letter 17 = .ok (.aload_n 0, 1) := by decide +kernel
theorem dX9_letter_18 : decode cX9_letter 18 = .ok (.getfield 120, 3) := by decide +kernel
theorem dX9_letter_21 : decode cX9_letter 21 = .ok (.bipush 40, 2) := by decide +kernel
theorem dX9_letter_23 : decode cX9_letter 23 = .ok (.if_icmp .ne 6, 3) := by decide +kernel
theorem dX9_letter_26 : decode cX9_letter 26 = .ok (.bipush (-104), 2) := by decide +kernel
theorem dX9_letter_28 : decode cX9_letter 28 = .ok (.ireturn, 1) := by decide +kernel
theorem dX9_letter_29 : decode cX9_letter 29 = .ok (.aload_n 0, 1) := by decide +kernel
theorem dX9_letter_30 : decode cX9_letter 30 = .ok (.getfield 29, 3) := by decide +kernel
theorem dX9_letter_33 : decode cX9_letter 33 = .ok (.aload_n 0, 1) := by decide +kernel
theorem dX9_letter_34 : decode cX9_letter 34 = .ok (.getfield 120, 3) := by decide +kernel
theorem dX9_letter_37 : decode cX9_letter 37 = .ok (.iload_n 1, 1) := by decide +kernel
theorem dX9_letter_38 : decode cX9_letter 38 = .ok (.i2b, 1) := by decide +kernel
theorem dX9_letter_39 : decode cX9_letter 39 = .ok (.bastore, 1) := by decide +kernel
theorem dX9_letter_40 : decode cX9_letter 40 = .ok (.aload_n 0, 1) := by decide +kernel
theorem dX9_letter_41 : decode cX9_letter 41 = .ok (.dup, 1) := by decide +kernel
theorem dX9_letter_42 : decode cX9_letter 42 = .ok (.getfield 120, 3) := by decide +kernel
theorem dX9_letter_45 : decode cX9_letter 45 = .ok (.iconst 1, 1) := by decide +kernel
theorem dX9_letter_46 : decode cX9_letter 46 = .ok (.iadd, 1) := by decide +kernel
theorem dX9_letter_47 : decode cX9_letter 47 = .ok (.putfield 120, 3) := by decide +kernel
theorem dX9_letter_50 : decode cX9_letter 50 = .ok (.aload_n 0, 1) := by decide +kernel
theorem dX9_letter_51 : decode cX9_letter 51 = .ok (.getfield 120, 3) := by decide +kernel
theorem dX9_letter_54 : decode cX9_letter 54 = .ok (.ireturn, 1) := by decide +kernel
theorem dX9_blank_0 : decode cX9_blank 0 = .ok (.aload_n 0, 1) := by decide +kernel
theorem dX9_blank_1 : decode cX9_blank 1 = .ok (.getfield 120, 3) := by decide +kernel
theorem dX9_blank_4 : decode cX9_blank 4 = .ok (.istore_n 1, 1) := by decide +kernel
theorem dX9_blank_5 : decode cX9_blank 5 = .ok (.aload_n 0, 1) := by decide +kernel
theorem dX9_blank_6 : decode cX9_blank 6 = .ok (.iconst 0, 1) := by decide +kernel
theorem dX9_blank_7 : decode cX9_blank 7 = .ok (.putfield 120, 3) := by decide +kernel
theorem dX9_blank_10 : decode cX9_blank 10 = .ok (.iload_n 1, 1) := by decide +kernel
theorem dX9_blank_11 : decode cX9_blank 11 = .ok (.ireturn, 1) := by decide +kernel
theorem dX9_at_0 : decode cX9_at 0 = .ok (.iload_n 1, 1) := by decide +kernel
theorem dX9_at_1 : decode cX9_at 1 = .ok (.aload_n 0, 1) := by decide +kernel
theorem dX9_at_2 : decode cX9_at 2 = .ok (.getfield 120, 3) := by decide +kernel
theorem dX9_at_5 : decode cX9_at 5 = .ok (.if_icmp .ge 12, 3) := by decide +kernel
theorem dX9_at_8 : decode cX9_at 8 = .ok (.aload_n 0, 1) := by decide +kernel
theorem dX9_at_9 : decode cX9_at 9 = .ok (.getfield 29, 3) := by decide +kernel
theorem dX9_at_12 : decode cX9_at 12 = .ok (.iload_n 1, 1) := by decide +kernel
theorem dX9_at_13 : decode cX9_at 13 = .ok (.baload, 1) := by decide +kernel
theorem dX9_at_14 : decode cX9_at 14 = .ok (.goto 4, 3) := by decide +kernel
theorem dX9_at_17 : decode cX9_at 17 = .ok (.iconst 0, 1) := by decide +kernel
theorem dX9_at_18 : decode cX9_at 18 = .ok (.ireturn, 1) := by decide +kernel
theorem dX9_isFigure_0 : decode cX9_isFigure 0 = .ok (.aload_n 0, 1) := by decide +kernel
theorem dX9_isFigure_1 : decode cX9_isFigure 1 = .ok (.iload_n 1, 1) := by decide +kernel
theorem dX9_isFigure_2 : decode cX9_isFigure 2 = .ok (.invokevirtual 124, 3) := by decide +kernel
theorem dX9_isFigure_5 : decode cX9_isFigure 5 = .ok (.bipush 48, 2) := by decide +kernel
theorem dX9_isFigure_7 : decode cX9_isFigure 7 = .ok (.isub, 1) := by decide +kernel
theorem dX9_isFigure_8 : decode cX9_isFigure 8 = .ok (.i2l, 1) := by decide +kernel
theorem dX9_isFigure_9 : decode cX9_isFigure 9 = .ok (.iload_n 2, 1) := by decide +kernel
theorem dX9_isFigure_10 : decode cX9_isFigure 10 = .ok (.i2l, 1) := by decide +kernel
theorem dX9_isFigure_11 : decode cX9_isFigure 11 = .ok (.iload_n 3, 1) := by decide +kernel
theorem dX9_isFigure_12 : decode cX9_isFigure 12 = .ok (.i2l, 1) := by decide +kernel
theorem dX9_isFigure_13 : decode cX9_isFigure 13 = .ok (.invokestatic 116, 3) := by decide +kernel
theorem dX9_isFigure_16 : decode cX9_isFigure 16 = .ok (.ireturn, 1) := by decide +kernel
theorem dX9_broken_0 : decode cX9_broken 0 = .ok (.aload_n 0, 1) := by decide +kernel
theorem dX9_broken_1 : decode cX9_broken 1 = .ok (.iconst 1, 1) := by decide +kernel
theorem dX9_broken_2 : decode cX9_broken 2 = .ok (.putfield 128, 3) := by decide +kernel
theorem dX9_broken_5 : decode cX9_broken 5 = .ok (.iload_n 1, 1) := by decide +kernel
theorem dX9_broken_6 : decode cX9_broken 6 = .ok (.ireturn, 1) := by decide +kernel
theorem dX9_readPower_0 : decode cX9_readPower 0 = .ok (.iload_n 1, 1) := by decide +kernel
theorem dX9_readPower_1 : decode cX9_readPower 1 = .ok (.istore 4, 2) := by decide +kernel
theorem dX9_readPower_3 : decode cX9_readPower 3 = .ok (.iconst 1, 1) := by decide +kernel
theorem dX9_readPower_4 : decode cX9_readPower 4 = .ok (.istore 5, 2) := by decide +kernel
theorem dX9_readPower_6 : decode cX9_readPower 6 = .ok (.aload_n 0, 1) := by decide +kernel
theorem dX9_readPower_7 : decode cX9_readPower 7 = .ok (.iload 4, 2) := by decide +kernel
theorem dX9_readPower_9 : decode cX9_readPower 9 = .ok (.invokevirtual 124, 3) := by decide +kernel
theorem dX9_readPower_12 : decode cX9_readPower 12 = .ok (.bipush 94, 2) := by decide +kernel
theorem dX9_readPower_14 : decode cX9_readPower 14 = .ok (.if_icmp .ne 71, 3) := by decide +kernel
theorem dX9_readPower_17 : decode cX9_readPower 17 = .ok (.iinc 4 1, 3) := by decide +kernel
theorem dX9_readPower_20 : decode cX9_readPower 20 = .ok (.aload_n 0, 1) := by decide +kernel
theorem dX9_readPower_21 : decode cX9_readPower 21 = .ok (.getfield 132, 3) := by decide +kernel
theorem dX9_readPower_24 : decode cX9_readPower 24 = .ok (.iconst 2, 1) := by decide +kernel
theorem dX9_readPower_25 : decode cX9_readPower 25 = .ok (.if_icmp .gt 9, 3) := by decide +kernel
theorem dX9_readPower_28 : decode cX9_readPower 28 = .ok (.aload_n 0, 1) := by decide +kernel
theorem dX9_readPower_29 : decode cX9_readPower 29 = .ok (.iload_n 1, 1) := by decide +kernel
theorem dX9_readPower_30 : decode cX9_readPower 30 = .ok (.invokevirtual 135, 3) := by decide +kernel
theorem dX9_readPower_33 : decode cX9_readPower 33 = .ok (.ireturn, 1) := by decide +kernel
theorem dX9_readPower_34 : decode cX9_readPower 34 = .ok (.aload_n 0, 1) := by decide +kernel
theorem dX9_readPower_35 : decode cX9_readPower 35 = .ok (.iload 4, 2) := by decide +kernel
theorem dX9_readPower_37 : decode cX9_readPower 37 = .ok (.iconst 2, 1) := by decide +kernel
theorem dX9_readPower_38 : decode cX9_readPower 38 = .ok (.aload_n 0, 1) := by decide +kernel
theorem dX9_readPower_39 : decode cX9_readPower 39 = .ok (.getfield 132, 3) := by decide +kernel
theorem dX9_readPower_42 : decode cX9_readPower 42 = .ok (.iconst 1, 1) := by decide +kernel
theorem dX9_readPower_43 : decode cX9_readPower 43 = .ok (.isub, 1) := by decide +kernel
theorem dX9_readPower_44 : decode cX9_readPower 44 = .ok (.iconst 5, 1) := by decide +kernel
theorem dX9_readPower_45 : decode cX9_readPower 45 = .ok (.if_icmp .ge 12, 3) := by decide +kernel
theorem dX9_readPower_48 : decode cX9_readPower 48 = .ok (.aload_n 0, 1) := by decide +kernel
theorem dX9_readPower_49 : decode cX9_readPower 49 = .ok (.getfield 132, 3) := by decide +kernel
theorem dX9_readPower_52 : decode cX9_readPower 52 = .ok (.iconst 1, 1) := by decide +kernel
theorem dX9_readPower_53 : decode cX9_readPower 53 = .ok (.isub, 1) := by decide +kernel
theorem dX9_readPower_54 : decode cX9_readPower 54 = .ok (.goto 4, 3) := by decide +kernel
theorem dX9_readPower_57 : decode cX9_readPower 57 = .ok (.iconst 5, 1) := by decide +kernel
theorem dX9_readPower_58 : decode cX9_readPower 58 = .ok (.invokevirtual 138, 3) := by decide +kernel
theorem dX9_readPower_61 : decode cX9_readPower 61 = .ok (.ifCond .ne 10, 3) := by decide +kernel
theorem dX9_readPower_64 : decode cX9_readPower 64 = .ok (.aload_n 0, 1) := by decide +kernel
theorem dX9_readPower_65 : decode cX9_readPower 65 = .ok (.iload 4, 2) := by decide +kernel
theorem dX9_readPower_67 : decode cX9_readPower 67 = .ok (.invokevirtual 135, 3) := by decide +kernel
theorem dX9_readPower_70 : decode cX9_readPower 70 = .ok (.ireturn, 1) := by decide +kernel
theorem dX9_readPower_71 : decode cX9_readPower 71 = .ok (.aload_n 0, 1) := by decide +kernel
theorem dX9_readPower_72 : decode cX9_readPower 72 = .ok (.iload 4, 2) := by decide +kernel
theorem dX9_readPower_74 : decode cX9_readPower 74 = .ok (.invokevirtual 124, 3) := by decide +kernel
theorem dX9_readPower_77 : decode cX9_readPower 77 = .ok (.bipush 48, 2) := by decide +kernel
theorem dX9_readPower_79 : decode cX9_readPower 79 = .ok (.isub, 1) := by decide +kernel
theorem dX9_readPower_80 : decode cX9_readPower 80 = .ok (.istore 5, 2) := by decide +kernel
theorem dX9_readPower_82 : decode cX9_readPower 82 = .ok (.iinc 4 1, 3) := by decide +kernel
theorem dX9_readPower_85 : decode cX9_readPower 85 = .ok (.aload_n 0, 1) := by decide +kernel
theorem dX9_readPower_86 : decode cX9_readPower 86 = .ok (.getfield 33, 3) := by decide +kernel
theorem dX9_readPower_89 : decode cX9_readPower 89 = .ok (.iload 5, 2) := by decide +kernel
theorem dX9_readPower_91 : decode cX9_readPower 91 = .ok (.lload_n 2, 1) := by decide +kernel
theorem dX9_readPower_92 : decode cX9_readPower 92 = .ok (.lastore, 1) := by decide +kernel
theorem dX9_readPower_93 : decode cX9_readPower 93 = .ok (.aload_n 0, 1) := by decide +kernel
theorem dX9_readPower_94 : decode cX9_readPower 94 = .ok (.iload 5, 2) := by decide +kernel
theorem dX9_readPower_96 : decode cX9_readPower 96 = .ok (.putfield 132, 3) := by decide +kernel
theorem dX9_readPower_99 : decode cX9_readPower 99 = .ok (.iload 4, 2) := by decide +kernel
theorem dX9_readPower_101 : decode cX9_readPower 101 = .ok (.ireturn, 1) := by decide +kernel
theorem dX9_readTerm_0 : decode cX9_readTerm 0 = .ok (.iload_n 1, 1) := by decide +kernel
theorem dX9_readTerm_1 : decode cX9_readTerm 1 = .ok (.istore_n 3, 1) := by decide +kernel
theorem dX9_readTerm_2 : decode cX9_readTerm 2 = .ok (.lconst 0, 1) := by decide +kernel
theorem dX9_readTerm_3 : decode cX9_readTerm 3 = .ok (.lstore 4, 2) := by decide +kernel
theorem dX9_readTerm_5 : decode cX9_readTerm 5 = .ok (.iconst 0, 1) := by decide +kernel
theorem dX9_readTerm_6 : decode cX9_readTerm 6 = .ok (.istore 6, 2) := by decide +kernel
theorem dX9_readTerm_8 : decode cX9_readTerm 8 = .ok (.iload 6, 2) := by decide +kernel
theorem dX9_readTerm_10 : decode cX9_readTerm 10 = .ok (.iconst 3, 1) := by decide +kernel
theorem dX9_readTerm_11 : decode cX9_readTerm 11 = .ok (.if_icmp .ge 51, 3) := by decide +kernel
theorem dX9_readTerm_14 : decode cX9_readTerm 14 = .ok (.aload_n 0, 1) := by decide +kernel
theorem dX9_readTerm_15 : decode cX9_readTerm 15 = .ok (.iload_n 3, 1) := by decide +kernel
theorem dX9_readTerm_16 : decode cX9_readTerm 16 = .ok (.iload 6, 2) := by decide +kernel
theorem dX9_readTerm_18 : decode cX9_readTerm 18 = .ok (.ifCond .ne 7, 3) := by decide +kernel
theorem dX9_readTerm_21 : decode cX9_readTerm 21 = .ok (.iconst 1, 1) := by decide +kernel
theorem dX9_readTerm_22 : decode cX9_readTerm 22 = .ok (.goto 4, 3) := by decide +kernel
theorem dX9_readTerm_25 : decode cX9_readTerm 25 = .ok (.iconst 0, 1) := by decide +kernel
theorem dX9_readTerm_26 : decode cX9_readTerm 26 = .ok (.bipush 9, 2) := by decide +kernel
theorem dX9_readTerm_28 : decode cX9_readTerm 28 = .ok (.invokevirtual 138, 3) := by decide +kernel
theorem dX9_readTerm_31 : decode cX9_readTerm 31 = .ok (.ifCond .eq 31, 3) := by decide +kernel
theorem dX9_readTerm_34 : decode cX9_readTerm 34 = .ok (.ldc2_w 142, 3) := by decide +kernel
theorem dX9_readTerm_37 : decode cX9_readTerm 37 = .ok (.lload 4, 2) := by decide +kernel
theorem dX9_readTerm_39 : decode cX9_readTerm 39 = .ok (.lmul, 1) := by decide +kernel
theorem dX9_readTerm_40 : decode cX9_readTerm 40 = .ok (.aload_n 0, 1) := by decide +kernel
theorem dX9_readTerm_41 : decode cX9_readTerm 41 = .ok (.iload_n 3, 1) := by decide +kernel
theorem dX9_readTerm_42 : decode cX9_readTerm 42 = .ok (.invokevirtual 124, 3) := by decide +kernel
theorem dX9_readTerm_45 : decode cX9_readTerm 45 = .ok (.i2l, 1) := by decide +kernel
theorem dX9_readTerm_46 : decode cX9_readTerm 46 = .ok (.ladd, 1) := by decide +kernel
theorem dX9_readTerm_47 : decode cX9_readTerm 47 = .ok (.ldc2_w 144, 3) := by decide +kernel
theorem dX9_readTerm_50 : decode cX9_readTerm 50 = .ok (.lsub, 1) := by decide +kernel
theorem dX9_readTerm_51 : decode cX9_readTerm 51 = .ok (.lstore 4, 2) := by decide +kernel
theorem dX9_readTerm_53 : decode cX9_readTerm 53 = .ok (.iinc 6 1, 3) := by decide +kernel
theorem dX9_readTerm_56 : decode cX9_readTerm 56 = .ok (.iinc 3 1, 3) := by decide +kernel
theorem dX9_readTerm_59 : decode cX9_readTerm 59 = .ok (.goto (-51), 3) := by decide +kernel
theorem dX9_readTerm_62 : decode cX9_readTerm 62 = .ok (.iload_n 2, 1) := by decide +kernel
theorem dX9_readTerm_63 : decode cX9_readTerm 63 = .ok (.ifCond .eq 9, 3) := by decide +kernel
theorem dX9_readTerm_66 : decode cX9_readTerm 66 = .ok (.ldc2_w 146, 3) := by decide +kernel
theorem dX9_readTerm_69 : decode cX9_readTerm 69 = .ok (.goto 4, 3) := by decide +kernel
theorem dX9_readTerm_72 : decode cX9_readTerm 72 = .ok (.lconst 1, 1) := by decide +kernel
theorem dX9_readTerm_73 : decode cX9_readTerm 73 = .ok (.lstore 7, 2) := by decide +kernel
theorem dX9_readTerm_75 : decode cX9_readTerm 75 = .ok (.aload_n 0, 1) := by decide +kernel
theorem dX9_readTerm_76 : decode cX9_readTerm 76 = .ok (.iload_n 3, 1) := by decide +kernel
theorem dX9_readTerm_77 : decode cX9_readTerm 77 = .ok (.invokevirtual 124, 3) := by decide +kernel
theorem dX9_readTerm_80 : decode cX9_readTerm 80 = .ok (.bipush 120, 2) := by decide +kernel
theorem dX9_readTerm_82 : decode cX9_readTerm 82 = .ok (.if_icmp .ne 51, 3) := by decide +kernel
theorem dX9_readTerm_85 : decode cX9_readTerm 85 = .ok (.aload_n 0, 1) := by decide +kernel
theorem dX9_readTerm_86 : decode cX9_readTerm 86 = .ok (.getfield 132, 3) := by decide +kernel
theorem dX9_readTerm_89 : decode cX9_readTerm 89 = .ok (.iconst 2, 1) := by decide +kernel
theorem dX9_readTerm_90 : decode cX9_readTerm 90 = .ok (.if_icmp .lt 15, 3) := by decide +kernel
theorem dX9_readTerm_93 : decode cX9_readTerm 93 = .ok (.iload 6, 2) := by decide +kernel
theorem dX9_readTerm_95 : decode cX9_readTerm 95 = .ok (.ifCond .le 16, 3) := by decide +kernel
theorem dX9_readTerm_98 : decode cX9_readTerm 98 = .ok (.lload 4, 2) := by decide +kernel
theorem dX9_readTerm_100 : decode cX9_readTerm 100 = .ok (.lconst 1, 1) := by decide +kernel
theorem dX9_readTerm_101 : decode cX9_readTerm 101 = .ok (.lcmp, 1) := by decide +kernel
theorem dX9_readTerm_102 : decode cX9_readTerm 102 = .ok (.ifCond .ne 9, 3) := by decide +kernel
theorem dX9_readTerm_105 : decode cX9_readTerm 105 = .ok (.aload_n 0, 1) := by decide +kernel
theorem dX9_readTerm_106 : decode cX9_readTerm 106 = .ok (.iload_n 3, 1) := by decide +kernel
theorem dX9_readTerm_107 : decode cX9_readTerm 107 = .ok (.invokevirtual 135, 3) := by decide +kernel
theorem dX9_readTerm_110 : decode cX9_readTerm 110 = .ok (.ireturn, 1) := by decide +kernel
theorem dX9_readTerm_111 : decode cX9_readTerm 111 = .ok (.aload_n 0, 1) := by decide +kernel
theorem dX9_readTerm_112 : decode cX9_readTerm 112 = .ok (.iload_n 3, 1) := by decide +kernel
theorem dX9_readTerm_113 : decode cX9_readTerm 113 = .ok (.iconst 1, 1) := by decide +kernel
theorem dX9_readTerm_114 : decode cX9_readTerm 114 = .ok (.iadd, 1) := by decide +kernel
theorem dX9_readTerm_115 : decode cX9_readTerm 115 = .ok (.lload 7, 2) := by decide +kernel
theorem dX9_readTerm_117 : decode cX9_readTerm 117 = .ok (.iload 6, 2) := by decide +kernel
theorem dX9_readTerm_119 : decode cX9_readTerm 119 = .ok (.ifCond .ne 7, 3) := by decide +kernel
theorem dX9_readTerm_122 : decode cX9_readTerm 122 = .ok (.lconst 1, 1) := by decide +kernel
theorem dX9_readTerm_123 : decode cX9_readTerm 123 = .ok (.goto 5, 3) := by decide +kernel
theorem dX9_readTerm_126 : decode cX9_readTerm 126 = .ok (.lload 4, 2) := by decide +kernel
theorem dX9_readTerm_128 : decode cX9_readTerm 128 = .ok (.lmul, 1) := by decide +kernel
theorem dX9_readTerm_129 : decode cX9_readTerm 129 = .ok (.invokevirtual 148, 3) := by decide +kernel
theorem dX9_readTerm_132 : decode cX9_readTerm 132 = .ok (.ireturn, 1) := by decide +kernel
theorem dX9_readTerm_133 : decode cX9_readTerm 133 = .ok (.iload 6, 2) := by decide +kernel
theorem dX9_readTerm_135 : decode cX9_readTerm 135 = .ok (.ifCond .ne 9, 3) := by decide +kernel
theorem dX9_readTerm_138 : decode cX9_readTerm 138 = .ok (.aload_n 0, 1) := by decide +kernel
theorem dX9_readTerm_139 : decode cX9_readTerm 139 = .ok (.iload_n 3, 1) := by decide +kernel
theorem dX9_readTerm_140 : decode cX9_readTerm 140 = .ok (.invokevirtual 135, 3) := by decide +kernel
theorem dX9_readTerm_143 : decode cX9_readTerm 143 = .ok (.ireturn, 1) := by decide +kernel
theorem dX9_readTerm_144 : decode cX9_readTerm 144 = .ok (.aload_n 0, 1) := by decide +kernel
theorem dX9_readTerm_145 : decode cX9_readTerm 145 = .ok (.getfield 33, 3) := by decide +kernel
theorem dX9_readTerm_148 : decode cX9_readTerm 148 = .ok (.iconst 0, 1) := by decide +kernel
theorem dX9_readTerm_149 : decode cX9_readTerm 149 = .ok (.lload 7, 2) := by decide +kernel
theorem dX9_readTerm_151 : decode cX9_readTerm 151 = .ok (.lload 4, 2) := by decide +kernel
theorem dX9_readTerm_153 : decode cX9_readTerm 153 = .ok (.lmul, 1) := by decide +kernel
theorem dX9_readTerm_154 : decode cX9_readTerm 154 = .ok (.lastore, 1) := by decide +kernel
theorem dX9_readTerm_155 : decode cX9_readTerm 155 = .ok (.aload_n 0, 1) := by decide +kernel
theorem dX9_readTerm_156 : decode cX9_readTerm 156 = .ok (.iconst 0, 1) := by decide +kernel
theorem dX9_readTerm_157 : decode cX9_readTerm 157 = .ok (.putfield 132, 3) := by decide +kernel
theorem dX9_readTerm_160 : decode cX9_readTerm 160 = .ok (.iload_n 3, 1) := by decide +kernel
theorem dX9_readTerm_161 : decode cX9_readTerm 161 = .ok (.ireturn, 1) := by decide +kernel
theorem dX9_readText_0 : decode cX9_readText 0 = .ok (.aload_n 0, 1) := by decide +kernel
theorem dX9_readText_1 : decode cX9_readText 1 = .ok (.iconst 0, 1) := by decide +kernel
theorem dX9_readText_2 : decode cX9_readText 2 = .ok (.putfield 152, 3) := by decide +kernel
theorem dX9_readText_5 : decode cX9_readText 5 = .ok (.aload_n 0, 1) := by decide +kernel
theorem dX9_readText_6 : decode cX9_readText 6 = .ok (.iconst 0, 1) := by decide +kernel
theorem dX9_readText_7 : decode cX9_readText 7 = .ok (.putfield 128, 3) := by decide +kernel
theorem dX9_readText_10 : decode cX9_readText 10 = .ok (.aload_n 0, 1) := by decide +kernel
theorem dX9_readText_11 : decode cX9_readText 11 = .ok (.bipush 6, 2) := by decide +kernel
theorem dX9_readText_13 : decode cX9_readText 13 = .ok (.putfield 132, 3) := by decide +kernel
theorem dX9_readText_16 : decode cX9_readText 16 = .ok (.iconst 0, 1) := by decide +kernel
theorem dX9_readText_17 : decode cX9_readText 17 = .ok (.istore_n 1, 1) := by decide +kernel
theorem dX9_readText_18 : decode cX9_readText 18 = .ok (.iload_n 1, 1) := by decide +kernel
theorem dX9_readText_19 : decode cX9_readText 19 = .ok (.bipush 6, 2) := by decide +kernel
theorem dX9_readText_21 : decode cX9_readText 21 = .ok (.if_icmp .ge 16, 3) := by decide +kernel
theorem dX9_readText_24 : decode cX9_readText 24 = .ok (.aload_n 0, 1) := by decide +kernel
theorem dX9_readText_25 : decode cX9_readText 25 = .ok (.getfield 33, 3) := by decide +kernel
theorem dX9_readText_28 : decode cX9_readText 28 = .ok (.iload_n 1, 1) := by decide +kernel
theorem dX9_readText_29 : decode cX9_readText 29 = .ok (.lconst 0, 1) := by decide +kernel
theorem dX9_readText_30 : decode cX9_readText 30 = .ok (.lastore, 1) := by decide +kernel
theorem dX9_readText_31 : decode cX9_readText 31 = .ok (.iinc 1 1, 3) := by decide +kernel
theorem dX9_readText_34 : decode cX9_readText 34 = .ok (.goto (-16), 3) := by decide +kernel
theorem dX9_readText_37 : decode cX9_readText 37 = .ok (.aload_n 0, 1) := by decide +kernel
theorem dX9_readText_38 : decode cX9_readText 38 = .ok (.iconst 0, 1) := by decide +kernel
theorem dX9_readText_39 : decode cX9_readText 39 = .ok (.invokevirtual 124, 3) := by decide +kernel
theorem dX9_readText_42 : decode cX9_readText 42 = .ok (.bipush 45, 2) := by decide +kernel
theorem dX9_readText_44 : decode cX9_readText 44 = .ok (.if_icmp .ne 7, 3) := by decide +kernel
theorem dX9_readText_47 : decode cX9_readText 47 = .ok (.iconst 1, 1) := by decide +kernel
theorem dX9_readText_48 : decode cX9_readText 48 = .ok (.goto 4, 3) := by decide +kernel
theorem dX9_readText_51 : decode cX9_readText 51 = .ok (.iconst 0, 1) := by decide +kernel
theorem dX9_readText_52 : decode cX9_readText 52 = .ok (.istore_n 1, 1) := by decide +kernel
theorem dX9_readText_53 : decode cX9_readText 53 = .ok (.aload_n 0, 1) := by decide +kernel
theorem dX9_readText_54 : decode cX9_readText 54 = .ok (.iload_n 1, 1) := by decide +kernel
theorem dX9_readText_55 : decode cX9_readText 55 = .ok (.iload_n 1, 1) := by decide +kernel
theorem dX9_readText_56 : decode cX9_readText 56 = .ok (.iconst 1, 1) := by decide +kernel
theorem dX9_readText_57 : decode cX9_readText 57 = .ok (.if_icmp .ne 7, 3) := by decide +kernel
theorem dX9_readText_60 : decode cX9_readText 60 = .ok (.iconst 1, 1) := by decide +kernel
theorem dX9_readText_61 : decode cX9_readText 61 = .ok (.goto 4, 3) := by decide +kernel
theorem dX9_readText_64 : decode cX9_readText 64 = .ok (.iconst 0, 1) := by decide +kernel
theorem dX9_readText_65 : decode cX9_readText 65 = .ok (.invokevirtual 155, 3) := by decide +kernel
theorem dX9_readText_68 : decode cX9_readText 68 = .ok (.istore_n 1, 1) := by decide +kernel
theorem dX9_readText_69 : decode cX9_readText 69 = .ok (.aload_n 0, 1) := by decide +kernel
theorem dX9_readText_70 : decode cX9_readText 70 = .ok (.getfield 128, 3) := by decide +kernel
theorem dX9_readText_73 : decode cX9_readText 73 = .ok (.ifCond .ne 56, 3) := by decide +kernel
theorem dX9_readText_76 : decode cX9_readText 76 = .ok (.aload_n 0, 1) := by decide +kernel
theorem dX9_readText_77 : decode cX9_readText 77 = .ok (.getfield 132, 3) := by decide +kernel
theorem dX9_readText_80 : decode cX9_readText 80 = .ok (.ifCond .le 49, 3) := by decide +kernel
theorem dX9_readText_83 : decode cX9_readText 83 = .ok (.aload_n 0, 1) := by decide +kernel
theorem dX9_readText_84 : decode cX9_readText 84 = .ok (.iload_n 1, 1) := by decide +kernel
theorem dX9_readText_85 : decode cX9_readText 85 = .ok (.invokevirtual 124, 3) := by decide +kernel
theorem dX9_readText_88 : decode cX9_readText 88 = .ok (.bipush 43, 2) := by decide +kernel
theorem dX9_readText_90 : decode cX9_readText 90 = .ok (.if_icmp .eq 13, 3) := by decide +kernel
theorem dX9_readText_93 : decode cX9_readText 93 = .ok (.aload_n 0, 1) := by decide +kernel
theorem dX9_readText_94 : decode cX9_readText 94 = .ok (.iload_n 1, 1) := by decide +kernel
theorem dX9_readText_95 : decode cX9_readText 95 = .ok (.invokevirtual 124, 3) := by decide +kernel
theorem dX9_readText_98 : decode cX9_readText 98 = .ok (.bipush 45, 2) := by decide +kernel
theorem dX9_readText_100 : decode cX9_readText 100 = .ok (.if_icmp .ne 29, 3) := by decide +kernel
theorem dX9_readText_103 : decode cX9_readText 103 = .ok (.aload_n 0, 1) := by decide +kernel
theorem dX9_readText_104 : decode cX9_readText 104 = .ok (.iload_n 1, 1) := by decide +kernel
theorem dX9_readText_105 : decode cX9_readText 105 = .ok (.iconst 1, 1) := by decide +kernel
theorem dX9_readText_106 : decode cX9_readText 106 = .ok (.iadd, 1) := by decide +kernel
theorem dX9_readText_107 : decode cX9_readText 107 = .ok (.aload_n 0, 1) := by decide +kernel
theorem dX9_readText_108 : decode cX9_readText 108 = .ok (.iload_n 1, 1) := by decide +kernel
theorem dX9_readText_109 : decode cX9_readText 109 = .ok (.invokevirtual 124, 3) := by decide +kernel
theorem dX9_readText_112 : decode cX9_readText 112 = .ok (.bipush 45, 2) := by decide +kernel
theorem dX9_readText_114 : decode cX9_readText 114 = .ok (.if_icmp .ne 7, 3) := by decide +kernel
theorem dX9_readText_117 : decode cX9_readText 117 = .ok (.iconst 1, 1) := by decide +kernel
theorem dX9_readText_118 : decode cX9_readText 118 = .ok (.goto 4, 3) := by decide +kernel
theorem dX9_readText_121 : decode cX9_readText 121 = .ok (.iconst 0, 1) := by decide +kernel
theorem dX9_readText_122 : decode cX9_readText 122 = .ok (.invokevirtual 155, 3) := by decide +kernel
theorem dX9_readText_125 : decode cX9_readText 125 = .ok (.istore_n 1, 1) := by decide +kernel
theorem dX9_readText_126 : decode cX9_readText 126 = .ok (.goto (-57), 3) := by decide +kernel
theorem dX9_readText_129 : decode cX9_readText 129 = .ok (.aload_n 0, 1) := by decide +kernel
theorem dX9_readText_130 : decode cX9_readText 130 = .ok (.aload_n 0, 1) := by decide +kernel
theorem dX9_readText_131 : decode cX9_readText 131 = .ok (.getfield 128, 3) := by decide +kernel
theorem dX9_readText_134 : decode cX9_readText 134 = .ok (.ifCond .ne 15, 3) := by decide +kernel
theorem dX9_readText_137 : decode cX9_readText 137 = .ok (.iload_n 1, 1) := by decide +kernel
theorem dX9_readText_138 : decode cX9_readText 138 = .ok (.aload_n 0, 1) := by decide +kernel
theorem dX9_readText_139 : decode cX9_readText 139 = .ok (.getfield 120, 3) := by decide +kernel
theorem dX9_readText_142 : decode cX9_readText 142 = .ok (.if_icmp .ne 7, 3) := by decide +kernel
theorem dX9_readText_145 : decode cX9_readText 145 = .ok (.iconst 1, 1) := by decide +kernel
theorem dX9_readText_146 : decode cX9_readText 146 = .ok (.goto 4, 3) := by decide +kernel
theorem dX9_readText_149 : decode cX9_readText 149 = .ok (.iconst 0, 1) := by decide +kernel
theorem dX9_readText_150 : decode cX9_readText 150 = .ok (.putfield 152, 3) := by decide +kernel
theorem dX9_readText_153 : decode cX9_readText 153 = .ok (.iload_n 1, 1) := by decide +kernel
theorem dX9_readText_154 : decode cX9_readText 154 = .ok (.ireturn, 1) := by decide +kernel
theorem dX9_fault_0 : decode cX9_fault 0 = .ok (.aload_n 0, 1) := by decide +kernel
theorem dX9_fault_1 : decode cX9_fault 1 = .ok (.invokevirtual 159, 3) := by decide +kernel
theorem dX9_fault_4 : decode cX9_fault 4 = .ok (.ireturn, 1) := by decide +kernel
theorem dX9_kindBy_0 : decode cX9_kindBy 0 = .ok (.iload_n 0, 1) := by decide +kernel
theorem dX9_kindBy_1 : decode cX9_kindBy 1 = .ok (.tableswitch 85 102 116 #[79, 85, 85, 85, 85, 85, 85, 83, 85, 85, 77, 85, 85, 75, 81], 75) := by decide +kernel
theorem dX9_kindBy_76 : decode cX9_kindBy 76 = .ok (.iconst 0, 1) := by decide +kernel
theorem dX9_kindBy_77 : decode cX9_kindBy 77 = .ok (.ireturn, 1) := by decide +kernel
theorem dX9_kindBy_78 : decode cX9_kindBy 78 = .ok (.iconst 1, 1) := by decide +kernel
theorem dX9_kindBy_79 : decode cX9_kindBy 79 = .ok (.ireturn, 1) := by decide +kernel
theorem dX9_kindBy_80 : decode cX9_kindBy 80 = .ok (.iconst 2, 1) := by decide +kernel
theorem dX9_kindBy_81 : decode cX9_kindBy 81 = .ok (.ireturn, 1) := by decide +kernel
theorem dX9_kindBy_82 : decode cX9_kindBy 82 = .ok (.iconst 3, 1) := by decide +kernel
theorem dX9_kindBy_83 : decode cX9_kindBy 83 = .ok (.ireturn, 1) := by decide +kernel
theorem dX9_kindBy_84 : decode cX9_kindBy 84 = .ok (.iconst 4, 1) := by decide +kernel
theorem dX9_kindBy_85 : decode cX9_kindBy 85 = .ok (.ireturn, 1) := by decide +kernel
theorem dX9_kindBy_86 : decode cX9_kindBy 86 = .ok (.iconst (-1), 1) := by decide +kernel
theorem dX9_kindBy_87 : decode cX9_kindBy 87 = .ok (.ireturn, 1) := by decide +kernel
theorem dX9_desk_0 : decode cX9_desk 0 = .ok (.aload_n 0, 1) := by decide +kernel
theorem dX9_desk_1 : decode cX9_desk 1 = .ok (.getfield 120, 3) := by decide +kernel
theorem dX9_desk_4 : decode cX9_desk 4 = .ok (.i2l, 1) := by decide +kernel
theorem dX9_desk_5 : decode cX9_desk 5 = .ok (.lconst 1, 1) := by decide +kernel
theorem dX9_desk_6 : decode cX9_desk 6 = .ok (.ldc2_w 163, 3) := by decide +kernel
theorem dX9_desk_9 : decode cX9_desk 9 = .ok (.invokestatic 116, 3) := by decide +kernel
theorem dX9_desk_12 : decode cX9_desk 12 = .ok (.istore_n 1, 1) := by decide +kernel
theorem dX9_desk_13 : decode cX9_desk 13 = .ok (.iconst 0, 1) := by decide +kernel
theorem dX9_desk_14 : decode cX9_desk 14 = .ok (.istore_n 2, 1) := by decide +kernel
theorem dX9_desk_15 : decode cX9_desk 15 = .ok (.iload_n 2, 1) := by decide +kernel
theorem dX9_desk_16 : decode cX9_desk 16 = .ok (.aload_n 0, 1) := by decide +kernel
theorem dX9_desk_17 : decode cX9_desk 17 = .ok (.getfield 120, 3) := by decide +kernel
theorem dX9_desk_20 : decode cX9_desk 20 = .ok (.if_icmp .ge 32, 3) := by decide +kernel
theorem dX9_desk_23 : decode cX9_desk 23 = .ok (.iload_n 1, 1) := by decide +kernel
theorem dX9_desk_24 : decode cX9_desk 24 = .ok (.ifCond .eq 28, 3) := by decide +kernel
theorem dX9_desk_27 : decode cX9_desk 27 = .ok (.aload_n 0, 1) := by decide +kernel
theorem dX9_desk_28 : decode cX9_desk 28 = .ok (.getfield 29, 3) := by decide +kernel
theorem dX9_desk_31 : decode cX9_desk 31 = .ok (.iload_n 2, 1) := by decide +kernel
theorem dX9_desk_32 : decode cX9_desk 32 = .ok (.baload, 1) := by decide +kernel
theorem dX9_desk_33 : decode cX9_desk 33 = .ok (.invokestatic 165, 3) := by decide +kernel
theorem dX9_desk_36 : decode cX9_desk 36 = .ok (.iconst (-1), 1) := by decide +kernel
theorem dX9_desk_37 : decode cX9_desk 37 = .ok (.if_icmp .eq 7, 3) := by decide +kernel
theorem dX9_desk_40 : decode cX9_desk 40 = .ok (.iconst 1, 1) := by decide +kernel
theorem dX9_desk_41 : decode cX9_desk 41 = .ok (.goto 4, 3) := by decide +kernel
theorem dX9_desk_44 : decode cX9_desk 44 = .ok (.iconst 0, 1) := by decide +kernel
theorem dX9_desk_45 : decode cX9_desk 45 = .ok (.istore_n 1, 1) := by decide +kernel
theorem dX9_desk_46 : decode cX9_desk 46 = .ok (.iinc 2 1, 3) := by decide +kernel
theorem dX9_desk_49 : decode cX9_desk 49 = .ok (.goto (-34), 3) := by decide +kernel
theorem dX9_desk_52 : decode cX9_desk 52 = .ok (.iload_n 1, 1) := by decide +kernel
theorem dX9_desk_53 : decode cX9_desk 53 = .ok (.ifCond .ne 6, 3) := by decide +kernel
theorem dX9_desk_56 : decode cX9_desk 56 = .ok (.bipush (-103), 2) := by decide +kernel
theorem dX9_desk_58 : decode cX9_desk 58 = .ok (.ireturn, 1) := by decide +kernel
theorem dX9_desk_59 : decode cX9_desk 59 = .ok (.aload_n 0, 1) := by decide +kernel
theorem dX9_desk_60 : decode cX9_desk 60 = .ok (.aload_n 0, 1) := by decide +kernel
theorem dX9_desk_61 : decode cX9_desk 61 = .ok (.getfield 120, 3) := by decide +kernel
theorem dX9_desk_64 : decode cX9_desk 64 = .ok (.putfield 168, 3) := by decide +kernel
theorem dX9_desk_67 : decode cX9_desk 67 = .ok (.iconst 0, 1) := by decide +kernel
theorem dX9_desk_68 : decode cX9_desk 68 = .ok (.istore_n 2, 1) := by decide +kernel
theorem dX9_desk_69 : decode cX9_desk 69 = .ok (.iload_n 2, 1) := by decide +kernel
theorem dX9_desk_70 : decode cX9_desk 70 = .ok (.aload_n 0, 1) := by decide +kernel
theorem dX9_desk_71 : decode cX9_desk 71 = .ok (.getfield 168, 3) := by decide +kernel
theorem dX9_desk_74 : decode cX9_desk 74 = .ok (.if_icmp .ge 31, 3) := by decide +kernel
theorem dX9_desk_77 : decode cX9_desk 77 = .ok (.aload_n 0, 1) := by decide +kernel
theorem dX9_desk_78 : decode cX9_desk 78 = .ok (.getfield 7, 3) := by decide +kernel
theorem dX9_desk_81 : decode cX9_desk 81 = .ok (.iload_n 2, 1) := by decide +kernel
theorem dX9_desk_82 : decode cX9_desk 82 = .ok (.aload_n 0, 1) := by decide +kernel
theorem dX9_desk_83 : decode cX9_desk 83 = .ok (.getfield 29, 3) := by decide +kernel
theorem dX9_desk_86 : decode cX9_desk 86 = .ok (.iload_n 2, 1) := by decide +kernel
theorem dX9_desk_87 : decode cX9_desk 87 = .ok (.baload, 1) := by decide +kernel
theorem dX9_desk_88 : decode cX9_desk 88 = .ok (.invokestatic 165, 3) := by decide +kernel
theorem dX9_desk_91 : decode cX9_desk 91 = .ok (.iastore, 1) := by decide +kernel
theorem dX9_desk_92 : decode cX9_desk 92 = .ok (.aload_n 0, 1) := by decide +kernel
theorem dX9_desk_93 : decode cX9_desk 93 = .ok (.getfield 17, 3) := by decide +kernel
theorem dX9_desk_96 : decode cX9_desk 96 = .ok (.iload_n 2, 1) := by decide +kernel
theorem dX9_desk_97 : decode cX9_desk 97 = .ok (.iconst (-1), 1) := by decide +kernel
theorem dX9_desk_98 : decode cX9_desk 98 = .ok (.iastore, 1) := by decide +kernel
theorem dX9_desk_99 : decode cX9_desk 99 = .ok (.iinc 2 1, 3) := by decide +kernel
theorem dX9_desk_102 : decode cX9_desk 102 = .ok (.goto (-33), 3) := by decide +kernel
theorem dX9_desk_105 : decode cX9_desk 105 = .ok (.aload_n 0, 1) := by decide +kernel
theorem dX9_desk_106 : decode cX9_desk 106 = .ok (.dup, 1) := by decide +kernel
theorem dX9_desk_107 : decode cX9_desk 107 = .ok (.getfield 171, 3) := by decide +kernel
theorem dX9_desk_110 : decode cX9_desk 110 = .ok (.iconst 1, 1) := by decide +kernel
theorem dX9_desk_111 : decode cX9_desk 111 = .ok (.iadd, 1) := by decide +kernel
theorem dX9_desk_112 : decode cX9_desk 112 = .ok (.putfield 171, 3) := by decide +kernel
theorem dX9_desk_115 : decode cX9_desk 115 = .ok (.aload_n 0, 1) := by decide +kernel
theorem dX9_desk_116 : decode cX9_desk 116 = .ok (.iconst 0, 1) := by decide +kernel
theorem dX9_desk_117 : decode cX9_desk 117 = .ok (.putfield 174, 3) := by decide +kernel
theorem dX9_desk_120 : decode cX9_desk 120 = .ok (.aload_n 0, 1) := by decide +kernel
theorem dX9_desk_121 : decode cX9_desk 121 = .ok (.iconst 0, 1) := by decide +kernel
theorem dX9_desk_122 : decode cX9_desk 122 = .ok (.putfield 120, 3) := by decide +kernel
theorem dX9_desk_125 : decode cX9_desk 125 = .ok (.aload_n 0, 1) := by decide +kernel
theorem dX9_desk_126 : decode cX9_desk 126 = .ok (.getfield 168, 3) := by decide +kernel
theorem dX9_desk_129 : decode cX9_desk 129 = .ok (.ireturn, 1) := by decide +kernel
theorem dX9_isSlot_0 : decode cX9_isSlot 0 = .ok (.iload_n 1, 1) := by decide +kernel
theorem dX9_isSlot_1 : decode cX9_isSlot 1 = .ok (.i2l, 1) := by decide +kernel
theorem dX9_isSlot_2 : decode cX9_isSlot 2 = .ok (.lconst 0, 1) := by decide +kernel
theorem dX9_isSlot_3 : decode cX9_isSlot 3 = .ok (.aload_n 0, 1) := by decide +kernel
theorem dX9_isSlot_4 : decode cX9_isSlot 4 = .ok (.getfield 168, 3) := by decide +kernel
theorem dX9_isSlot_7 : decode cX9_isSlot 7 = .ok (.iconst 1, 1) := by decide +kernel
theorem dX9_isSlot_8 : decode cX9_isSlot 8 = .ok (.isub, 1) := by decide +kernel
theorem dX9_isSlot_9 : decode cX9_isSlot 9 = .ok (.i2l, 1) := by decide +kernel
theorem dX9_isSlot_10 : decode cX9_isSlot 10 = .ok (.invokestatic 116, 3) := by decide +kernel
theorem dX9_isSlot_13 : decode cX9_isSlot 13 = .ok (.ireturn, 1) := by decide +kernel
theorem dX9_isFilled_0 : decode cX9_isFilled 0 = .ok (.aload_n 0, 1) := by decide +kernel
theorem dX9_isFilled_1 : decode cX9_isFilled 1 = .ok (.iload_n 1, 1) := by decide +kernel
theorem dX9_isFilled_2 : decode cX9_isFilled 2 = .ok (.invokevirtual 177, 3) := by decide +kernel
theorem dX9_isFilled_5 : decode cX9_isFilled 5 = .ok (.ifCond .eq 16, 3) := by decide +kernel
theorem dX9_isFilled_8 : decode cX9_isFilled 8 = .ok (.aload_n 0, 1) := by decide +kernel
theorem dX9_isFilled_9 : decode cX9_isFilled 9 = .ok (.getfield 17, 3) := by decide +kernel
theorem dX9_isFilled_12 : decode cX9_isFilled 12 = .ok (.iload_n 1, 1) := by decide +kernel
theorem dX9_isFilled_13 : decode cX9_isFilled 13 = .ok (.iaload, 1) := by decide +kernel
theorem dX9_isFilled_14 : decode cX9_isFilled 14 = .ok (.ifCond .lt 7, 3) := by decide +kernel
theorem dX9_isFilled_17 : decode cX9_isFilled 17 = .ok (.iconst 1, 1) := by decide +kernel
theorem dX9_isFilled_18 : decode cX9_isFilled 18 = .ok (.goto 4, 3) := by decide +kernel
theorem dX9_isFilled_21 : decode cX9_isFilled 21 = .ok (.iconst 0, 1) := by decide +kernel
theorem dX9_isFilled_22 : decode cX9_isFilled 22 = .ok (.ireturn, 1) := by decide +kernel
theorem dX9_degreeBy_0 : decode cX9_degreeBy 0 = .ok (.lload 10, 2) := by decide +kernel
theorem dX9_degreeBy_2 : decode cX9_degreeBy 2 = .ok (.lconst 0, 1) := by decide +kernel
theorem dX9_degreeBy_3 : decode cX9_degreeBy 3 = .ok (.lcmp, 1) := by decide +kernel
theorem dX9_degreeBy_4 : decode cX9_degreeBy 4 = .ok (.ifCond .eq 7, 3) := by decide +kernel
theorem dX9_degreeBy_7 : decode cX9_degreeBy 7 = .ok (.iconst 5, 1) := by decide +kernel
theorem dX9_degreeBy_8 : decode cX9_degreeBy 8 = .ok (.goto 57, 3) := by decide +kernel
theorem dX9_degreeBy_11 : decode cX9_degreeBy 11 = .ok (.lload 8, 2) := by decide +kernel
theorem dX9_degreeBy_13 : decode cX9_degreeBy 13 = .ok (.lconst 0, 1) := by decide +kernel
theorem dX9_degreeBy_14 : decode cX9_degreeBy 14 = .ok (.lcmp, 1) := by decide +kernel
theorem dX9_degreeBy_15 : decode cX9_degreeBy 15 = .ok (.ifCond .eq 7, 3) := by decide +kernel
theorem dX9_degreeBy_18 : decode cX9_degreeBy 18 = .ok (.iconst 4, 1) := by decide +kernel
theorem dX9_degreeBy_19 : decode cX9_degreeBy 19 = .ok (.goto 46, 3) := by decide +kernel
theorem dX9_degreeBy_22 : decode cX9_degreeBy 22 = .ok (.lload 6, 2) := by decide +kernel
theorem dX9_degreeBy_24 : decode cX9_degreeBy 24 = .ok (.lconst 0, 1) := by decide +kernel
theorem dX9_degreeBy_25 : decode cX9_degreeBy 25 = .ok (.lcmp, 1) := by decide +kernel
theorem dX9_degreeBy_26 : decode cX9_degreeBy 26 = .ok (.ifCond .eq 7, 3) := by decide +kernel
theorem dX9_degreeBy_29 : decode cX9_degreeBy 29 = .ok (.iconst 3, 1) := by decide +kernel
theorem dX9_degreeBy_30 : decode cX9_degreeBy 30 = .ok (.goto 35, 3) := by decide +kernel
theorem dX9_degreeBy_33 : decode cX9_degreeBy 33 = .ok (.lload 4, 2) := by decide +kernel
theorem dX9_degreeBy_35 : decode cX9_degreeBy 35 = .ok (.lconst 0, 1) := by decide +kernel
theorem dX9_degreeBy_36 : decode cX9_degreeBy 36 = .ok (.lcmp, 1) := by decide +kernel
theorem dX9_degreeBy_37 : decode cX9_degreeBy 37 = .ok (.ifCond .eq 7, 3) := by decide +kernel
theorem dX9_degreeBy_40 : decode cX9_degreeBy 40 = .ok (.iconst 2, 1) := by decide +kernel
theorem dX9_degreeBy_41 : decode cX9_degreeBy 41 = .ok (.goto 24, 3) := by decide +kernel
theorem dX9_degreeBy_44 : decode cX9_degreeBy 44 = .ok (.lload_n 2, 1) := by decide +kernel
theorem dX9_degreeBy_45 : decode cX9_degreeBy 45 = .ok (.lconst 0, 1) := by decide +kernel
theorem dX9_degreeBy_46 : decode cX9_degreeBy 46 = .ok (.lcmp, 1) := by decide +kernel
theorem dX9_degreeBy_47 : decode cX9_degreeBy 47 = .ok (.ifCond .eq 7, 3) := by decide +kernel
theorem dX9_degreeBy_50 : decode cX9_degreeBy 50 = .ok (.iconst 1, 1) := by decide +kernel
theorem dX9_degreeBy_51 : decode cX9_degreeBy 51 = .ok (.goto 14, 3) := by decide +kernel
theorem dX9_degreeBy_54 : decode cX9_degreeBy 54 = .ok (.lload_n 0, 1) := by decide +kernel
theorem dX9_degreeBy_55 : decode cX9_degreeBy 55 = .ok (.lconst 0, 1) := by decide +kernel
theorem dX9_degreeBy_56 : decode cX9_degreeBy 56 = .ok (.lcmp, 1) := by decide +kernel
theorem dX9_degreeBy_57 : decode cX9_degreeBy 57 = .ok (.ifCond .eq 7, 3) := by decide +kernel
theorem dX9_degreeBy_60 : decode cX9_degreeBy 60 = .ok (.iconst 0, 1) := by decide +kernel
theorem dX9_degreeBy_61 : decode cX9_degreeBy 61 = .ok (.goto 4, 3) := by decide +kernel
theorem dX9_degreeBy_64 : decode cX9_degreeBy 64 = .ok (.iconst (-1), 1) := by decide +kernel
theorem dX9_degreeBy_65 : decode cX9_degreeBy 65 = .ok (.ireturn, 1) := by decide +kernel
theorem dX9_degreeNow_0 : decode cX9_degreeNow 0 = .ok (.aload_n 0, 1) := by decide +kernel
theorem dX9_degreeNow_1 : decode cX9_degreeNow 1 = .ok (.getfield 39, 3) := by decide +kernel
theorem dX9_degreeNow_4 : decode cX9_degreeNow 4 = .ok (.iconst 0, 1) := by decide +kernel
theorem dX9_degreeNow_5 : decode cX9_degreeNow 5 = .ok (.laload, 1) := by decide +kernel
theorem dX9_degreeNow_6 : decode cX9_degreeNow 6 = .ok (.aload_n 0, 1) := by decide +kernel
theorem dX9_degreeNow_7 : decode cX9_degreeNow 7 = .ok (.getfield 39, 3) := by decide +kernel
theorem dX9_degreeNow_10 : decode cX9_degreeNow 10 = .ok (.iconst 1, 1) := by decide +kernel
theorem dX9_degreeNow_11 : decode cX9_degreeNow 11 = .ok (.laload, 1) := by decide +kernel
theorem dX9_degreeNow_12 : decode cX9_degreeNow 12 = .ok (.aload_n 0, 1) := by decide +kernel
theorem dX9_degreeNow_13 : decode cX9_degreeNow 13 = .ok (.getfield 39, 3) := by decide +kernel
theorem dX9_degreeNow_16 : decode cX9_degreeNow 16 = .ok (.iconst 2, 1) := by decide +kernel
theorem dX9_degreeNow_17 : decode cX9_degreeNow 17 = .ok (.laload, 1) := by decide +kernel
theorem dX9_degreeNow_18 : decode cX9_degreeNow 18 = .ok (.aload_n 0, 1) := by decide +kernel
theorem dX9_degreeNow_19 : decode cX9_degreeNow 19 = .ok (.getfield 39, 3) := by decide +kernel
theorem dX9_degreeNow_22 : decode cX9_degreeNow 22 = .ok (.iconst 3, 1) := by decide +kernel
theorem dX9_degreeNow_23 : decode cX9_degreeNow 23 = .ok (.laload, 1) := by decide +kernel
theorem dX9_degreeNow_24 : decode cX9_degreeNow 24 = .ok (.aload_n 0, 1) := by decide +kernel
theorem dX9_degreeNow_25 : decode cX9_degreeNow 25 = .ok (.getfield 39, 3) := by decide +kernel
theorem dX9_degreeNow_28 : decode cX9_degreeNow 28 = .ok (.iconst 4, 1) := by decide +kernel
theorem dX9_degreeNow_29 : decode cX9_degreeNow 29 = .ok (.laload, 1) := by decide +kernel
theorem dX9_degreeNow_30 : decode cX9_degreeNow 30 = .ok (.aload_n 0, 1) := by decide +kernel
theorem dX9_degreeNow_31 : decode cX9_degreeNow 31 = .ok (.getfield 39, 3) := by decide +kernel
theorem dX9_degreeNow_34 : decode cX9_degreeNow 34 = .ok (.iconst 5, 1) := by decide +kernel
theorem dX9_degreeNow_35 : decode cX9_degreeNow 35 = .ok (.laload, 1) := by decide +kernel
theorem dX9_degreeNow_36 : decode cX9_degreeNow 36 = .ok (.invokestatic 181, 3) := by decide +kernel
theorem dX9_degreeNow_39 : decode cX9_degreeNow 39 = .ok (.ireturn, 1) := by decide +kernel
theorem dX9_divides_0 : decode cX9_divides 0 = .ok (.iconst 0, 1) := by decide +kernel
theorem dX9_divides_1 : decode cX9_divides 1 = .ok (.istore_n 1, 1) := by decide +kernel
theorem dX9_divides_2 : decode cX9_divides 2 = .ok (.iload_n 1, 1) := by decide +kernel
theorem dX9_divides_3 : decode cX9_divides 3 = .ok (.bipush 6, 2) := by decide +kernel
theorem dX9_divides_5 : decode cX9_divides 5 = .ok (.if_icmp .ge 28, 3) := by decide +kernel
theorem dX9_divides_8 : decode cX9_divides 8 = .ok (.aload_n 0, 1) := by decide +kernel
theorem dX9_divides_9 : decode cX9_divides 9 = .ok (.getfield 60, 3) := by decide +kernel
theorem dX9_divides_12 : decode cX9_divides 12 = .ok (.iload_n 1, 1) := by decide +kernel
theorem dX9_divides_13 : decode cX9_divides 13 = .ok (.aload_n 0, 1) := by decide +kernel
theorem dX9_divides_14 : decode cX9_divides 14 = .ok (.getfield 51, 3) := by decide +kernel
theorem dX9_divides_17 : decode cX9_divides 17 = .ok (.iload_n 1, 1) := by decide +kernel
theorem dX9_divides_18 : decode cX9_divides 18 = .ok (.laload, 1) := by decide +kernel
theorem dX9_divides_19 : decode cX9_divides 19 = .ok (.lastore, 1) := by decide +kernel
theorem dX9_divides_20 : decode cX9_divides 20 = .ok (.aload_n 0, 1) := by decide +kernel
theorem dX9_divides_21 : decode cX9_divides 21 = .ok (.getfield 57, 3) := by decide +kernel
theorem dX9_divides_24 : decode cX9_divides 24 = .ok (.iload_n 1, 1) := by decide +kernel
theorem dX9_divides_25 : decode cX9_divides 25 = .ok (.lconst 0, 1) := by decide +kernel
theorem dX9_divides_26 : decode cX9_divides 26 = .ok (.lastore, 1) := by decide +kernel
theorem dX9_divides_27 : decode cX9_divides 27 = .ok (.iinc 1 1, 3) := by decide +kernel
theorem dX9_divides_30 : decode cX9_divides 30 = .ok (.goto (-28), 3) := by decide +kernel
theorem dX9_divides_33 : decode cX9_divides 33 = .ok (.aload_n 0, 1) := by decide +kernel
theorem dX9_divides_34 : decode cX9_divides 34 = .ok (.getfield 185, 3) := by decide +kernel
theorem dX9_divides_37 : decode cX9_divides 37 = .ok (.istore_n 1, 1) := by decide +kernel
theorem dX9_divides_38 : decode cX9_divides 38 = .ok (.iload_n 1, 1) := by decide +kernel
theorem dX9_divides_39 : decode cX9_divides 39 = .ok (.aload_n 0, 1) := by decide +kernel
theorem dX9_divides_40 : decode cX9_divides 40 = .ok (.getfield 188, 3) := by decide +kernel
theorem dX9_divides_43 : decode cX9_divides 43 = .ok (.if_icmp .lt 105, 3) := by decide +kernel
theorem dX9_divides_46 : decode cX9_divides 46 = .ok (.aload_n 0, 1) := by decide +kernel
theorem dX9_divides_47 : decode cX9_divides 47 = .ok (.getfield 60, 3) := by decide +kernel
theorem dX9_divides_50 : decode cX9_divides 50 = .ok (.iload_n 1, 1) := by decide +kernel
theorem dX9_divides_51 : decode cX9_divides 51 = .ok (.laload, 1) := by decide +kernel
theorem dX9_divides_52 : decode cX9_divides 52 = .ok (.aload_n 0, 1) := by decide +kernel
theorem dX9_divides_53 : decode cX9_divides 53 = .ok (.getfield 54, 3) := by decide +kernel
theorem dX9_divides_56 : decode cX9_divides 56 = .ok (.aload_n 0, 1) := by decide +kernel
theorem dX9_divides_57 : decode cX9_divides 57 = .ok (.getfield 188, 3) := by decide +kernel
theorem dX9_divides_60 : decode cX9_divides 60 = .ok (.laload, 1) := by decide +kernel
theorem dX9_divides_61 : decode cX9_divides 61 = .ok (.lrem, 1) := by decide +kernel
theorem dX9_divides_62 : decode cX9_divides 62 = .ok (.lconst 0, 1) := by decide +kernel
theorem dX9_divides_63 : decode cX9_divides 63 = .ok (.lcmp, 1) := by decide +kernel
theorem dX9_divides_64 : decode cX9_divides 64 = .ok (.ifCond .eq 5, 3) := by decide +kernel
theorem dX9_divides_67 : decode cX9_divides 67 = .ok (.iconst 0, 1) := by decide +kernel
theorem dX9_divides_68 : decode cX9_divides 68 = .ok (.ireturn, 1) := by decide +kernel
theorem dX9_divides_69 : decode cX9_divides 69 = .ok (.aload_n 0, 1) := by decide +kernel
theorem dX9_divides_70 : decode cX9_divides 70 = .ok (.getfield 60, 3) := by decide +kernel
theorem dX9_divides_73 : decode cX9_divides 73 = .ok (.iload_n 1, 1) := by decide +kernel
theorem dX9_divides_74 : decode cX9_divides 74 = .ok (.laload, 1) := by decide +kernel
theorem dX9_divides_75 : decode cX9_divides 75 = .ok (.aload_n 0, 1) := by decide +kernel
theorem dX9_divides_76 : decode cX9_divides 76 = .ok (.getfield 54, 3) := by decide +kernel
theorem dX9_divides_79 : decode cX9_divides 79 = .ok (.aload_n 0, 1) := by decide +kernel
theorem dX9_divides_80 : decode cX9_divides 80 = .ok (.getfield 188, 3) := by decide +kernel
theorem dX9_divides_83 : decode cX9_divides 83 = .ok (.laload, 1) := by decide +kernel
theorem dX9_divides_84 : decode cX9_divides 84 = .ok (.ldiv, 1) := by decide +kernel
theorem dX9_divides_85 : decode cX9_divides 85 = .ok (.lstore_n 2, 1) := by decide +kernel
theorem dX9_divides_86 : decode cX9_divides 86 = .ok (.aload_n 0, 1) := by decide +kernel
theorem dX9_divides_87 : decode cX9_divides 87 = .ok (.getfield 57, 3) := by decide +kernel
theorem dX9_divides_90 : decode cX9_divides 90 = .ok (.iload_n 1, 1) := by decide +kernel
theorem dX9_divides_91 : decode cX9_divides 91 = .ok (.aload_n 0, 1) := by decide +kernel
theorem dX9_divides_92 : decode cX9_divides 92 = .ok (.getfield 188, 3) := by decide +kernel
theorem dX9_divides_95 : decode cX9_divides 95 = .ok (.isub, 1) := by decide +kernel
theorem dX9_divides_96 : decode cX9_divides 96 = .ok (.lload_n 2, 1) := by decide +kernel
theorem dX9_divides_97 : decode cX9_divides 97 = .ok (.lastore, 1) := by decide +kernel
theorem dX9_divides_98 : decode cX9_divides 98 = .ok (.iconst 0, 1) := by decide +kernel
theorem dX9_divides_99 : decode cX9_divides 99 = .ok (.istore 4, 2) := by decide +kernel
theorem dX9_divides_101 : decode cX9_divides 101 = .ok (.iload 4, 2) := by decide +kernel
theorem dX9_divides_103 : decode cX9_divides 103 = .ok (.aload_n 0, 1) := by decide +kernel
theorem dX9_divides_104 : decode cX9_divides 104 = .ok (.getfield 188, 3) := by decide +kernel
theorem dX9_divides_107 : decode cX9_divides 107 = .ok (.if_icmp .gt 35, 3) := by decide +kernel
theorem dX9_divides_110 : decode cX9_divides 110 = .ok (.aload_n 0, 1) := by decide +kernel
theorem dX9_divides_111 : decode cX9_divides 111 = .ok (.getfield 60, 3) := by decide +kernel
theorem dX9_divides_114 : decode cX9_divides 114 = .ok (.iload_n 1, 1) := by decide +kernel
theorem dX9_divides_115 : decode cX9_divides 115 = .ok (.aload_n 0, 1) := by decide +kernel
theorem dX9_divides_116 : decode cX9_divides 116 = .ok (.getfield 188, 3) := by decide +kernel
theorem dX9_divides_119 : decode cX9_divides 119 = .ok (.isub, 1) := by decide +kernel
theorem dX9_divides_120 : decode cX9_divides 120 = .ok (.iload 4, 2) := by decide +kernel
theorem dX9_divides_122 : decode cX9_divides 122 = .ok (.iadd, 1) := by decide +kernel
theorem dX9_divides_123 : decode cX9_divides 123 = .ok (.dup2, 1) := by decide +kernel
theorem dX9_divides_124 : decode cX9_divides 124 = .ok (.laload, 1) := by decide +kernel
theorem dX9_divides_125 : decode cX9_divides 125 = .ok (.lload_n 2, 1) := by decide +kernel
theorem dX9_divides_126 : decode cX9_divides 126 = .ok (.aload_n 0, 1) := by decide +kernel
theorem dX9_divides_127 : decode cX9_divides 127 = .ok (.getfield 54, 3) := by decide +kernel
theorem dX9_divides_130 : decode cX9_divides 130 = .ok (.iload 4, 2) := by decide +kernel
theorem dX9_divides_132 : decode cX9_divides 132 = .ok (.laload, 1) := by decide +kernel
theorem dX9_divides_133 : decode cX9_divides 133 = .ok (.lmul, 1) := by decide +kernel
theorem dX9_divides_134 : decode cX9_divides 134 = .ok (.lsub, 1) := by decide +kernel
theorem dX9_divides_135 : decode cX9_divides 135 = .ok (.lastore, 1) := by decide +kernel
theorem dX9_divides_136 : decode cX9_divides 136 = .ok (.iinc 4 1, 3) := by decide +kernel
theorem dX9_divides_139 : decode cX9_divides 139 = .ok (.goto (-38), 3) := by decide +kernel
theorem dX9_divides_142 : decode cX9_divides 142 = .ok (.iinc 1 (-1), 3) := by decide +kernel
theorem dX9_divides_145 : decode cX9_divides 145 = .ok (.goto (-107), 3) := by decide +kernel
theorem dX9_divides_148 : decode cX9_divides 148 = .ok (.iconst 1, 1) := by decide +kernel
theorem dX9_divides_149 : decode cX9_divides 149 = .ok (.istore_n 1, 1) := by decide +kernel
theorem dX9_divides_150 : decode cX9_divides 150 = .ok (.iconst 0, 1) := by decide +kernel
theorem dX9_divides_151 : decode cX9_divides 151 = .ok (.istore_n 2, 1) := by decide +kernel
theorem dX9_divides_152 : decode cX9_divides 152 = .ok (.iload_n 2, 1) := by decide +kernel
theorem dX9_divides_153 : decode cX9_divides 153 = .ok (.aload_n 0, 1) := by decide +kernel
theorem dX9_divides_154 : decode cX9_divides 154 = .ok (.getfield 188, 3) := by decide +kernel
theorem dX9_divides_157 : decode cX9_divides 157 = .ok (.if_icmp .ge 30, 3) := by decide +kernel
theorem dX9_divides_160 : decode cX9_divides 160 = .ok (.iload_n 1, 1) := by decide +kernel
theorem dX9_divides_161 : decode cX9_divides 161 = .ok (.ifCond .eq 18, 3) := by decide +kernel
theorem dX9_divides_164 : decode cX9_divides 164 = .ok (.aload_n 0, 1) := by decide +kernel
theorem dX9_divides_165 : decode cX9_divides 165 = .ok (.getfield 60, 3) := by decide +kernel
theorem dX9_divides_168 : decode cX9_divides 168 = .ok (.iload_n 2, 1) := by decide +kernel
theorem dX9_divides_169 : decode cX9_divides 169 = .ok (.laload, 1) := by decide +kernel
theorem dX9_divides_170 : decode cX9_divides 170 = .ok (.lconst 0, 1) := by decide +kernel
theorem dX9_divides_171 : decode cX9_divides 171 = .ok (.lcmp, 1) := by decide +kernel
theorem dX9_divides_172 : decode cX9_divides 172 = .ok (.ifCond .ne 7, 3) := by decide +kernel
theorem dX9_divides_175 : decode cX9_divides 175 = .ok (.iconst 1, 1) := by decide +kernel
theorem dX9_divides_176 : decode cX9_divides 176 = .ok (.goto 4, 3) := by decide +kernel
theorem dX9_divides_179 : decode cX9_divides 179 = .ok (.iconst 0, 1) := by decide +kernel
theorem dX9_divides_180 : decode cX9_divides 180 = .ok (.istore_n 1, 1) := by decide +kernel
theorem dX9_divides_181 : decode cX9_divides 181 = .ok (.iinc 2 1, 3) := by decide +kernel
theorem dX9_divides_184 : decode cX9_divides 184 = .ok (.goto (-32), 3) := by decide +kernel
theorem dX9_divides_187 : decode cX9_divides 187 = .ok (.iload_n 1, 1) := by decide +kernel
theorem dX9_divides_188 : decode cX9_divides 188 = .ok (.ireturn, 1) := by decide +kernel
theorem dX9_compareTo_0 : decode cX9_compareTo 0 = .ok (.aload_n 0, 1) := by decide +kernel
theorem dX9_compareTo_1 : decode cX9_compareTo 1 = .ok (.getfield 188, 3) := by decide +kernel
theorem dX9_compareTo_4 : decode cX9_compareTo 4 = .ok (.aload_n 0, 1) := by decide +kernel
theorem dX9_compareTo_5 : decode cX9_compareTo 5 = .ok (.getfield 48, 3) := by decide +kernel
theorem dX9_compareTo_8 : decode cX9_compareTo 8 = .ok (.iload_n 1, 1) := by decide +kernel
theorem dX9_compareTo_9 : decode cX9_compareTo 9 = .ok (.iaload, 1) := by decide +kernel
theorem dX9_compareTo_10 : decode cX9_compareTo 10 = .ok (.if_icmp .eq 15, 3) := by decide +kernel
theorem dX9_compareTo_13 : decode cX9_compareTo 13 = .ok (.aload_n 0, 1) := by decide +kernel
theorem dX9_compareTo_14 : decode cX9_compareTo 14 = .ok (.getfield 188, 3) := by decide +kernel
theorem dX9_compareTo_17 : decode cX9_compareTo 17 = .ok (.aload_n 0, 1) := by decide +kernel
theorem dX9_compareTo_18 : decode cX9_compareTo 18 = .ok (.getfield 48, 3) := by decide +kernel
theorem dX9_compareTo_21 : decode cX9_compareTo 21 = .ok (.iload_n 1, 1) := by decide +kernel
theorem dX9_compareTo_22 : decode cX9_compareTo 22 = .ok (.iaload, 1) := by decide +kernel
theorem dX9_compareTo_23 : decode cX9_compareTo 23 = .ok (.isub, 1) := by decide +kernel
theorem dX9_compareTo_24 : decode cX9_compareTo 24 = .ok (.ireturn, 1) := by decide +kernel
theorem dX9_compareTo_25 : decode cX9_compareTo 25 = .ok (.aload_n 0, 1) := by decide +kernel
theorem dX9_compareTo_26 : decode cX9_compareTo 26 = .ok (.getfield 188, 3) := by decide +kernel
theorem dX9_compareTo_29 : decode cX9_compareTo 29 = .ok (.istore_n 2, 1) := by decide +kernel
theorem dX9_compareTo_30 : decode cX9_compareTo 30 = .ok (.iload_n 2, 1) := by decide +kernel
theorem dX9_compareTo_31 : decode cX9_compareTo 31 = .ok (.ifCond .lt 57, 3) := by decide +kernel
theorem dX9_compareTo_34 : decode cX9_compareTo 34 = .ok (.aload_n 0, 1) := by decide +kernel
theorem dX9_compareTo_35 : decode cX9_compareTo 35 = .ok (.getfield 54, 3) := by decide +kernel
theorem dX9_compareTo_38 : decode cX9_compareTo 38 = .ok (.iload_n 2, 1) := by decide +kernel
theorem dX9_compareTo_39 : decode cX9_compareTo 39 = .ok (.laload, 1) := by decide +kernel
theorem dX9_compareTo_40 : decode cX9_compareTo 40 = .ok (.aload_n 0, 1) := by decide +kernel
theorem dX9_compareTo_41 : decode cX9_compareTo 41 = .ok (.getfield 42, 3) := by decide +kernel
theorem dX9_compareTo_44 : decode cX9_compareTo 44 = .ok (.bipush 6, 2) := by decide +kernel
theorem dX9_compareTo_46 : decode cX9_compareTo 46 = .ok (.iload_n 1, 1) := by decide +kernel
theorem dX9_compareTo_47 : decode cX9_compareTo 47 = .ok (.imul, 1) := by decide +kernel
theorem dX9_compareTo_48 : decode cX9_compareTo 48 = .ok (.iload_n 2, 1) := by decide +kernel
theorem dX9_compareTo_49 : decode cX9_compareTo 49 = .ok (.iadd, 1) := by decide +kernel
theorem dX9_compareTo_50 : decode cX9_compareTo 50 = .ok (.laload, 1) := by decide +kernel
theorem dX9_compareTo_51 : decode cX9_compareTo 51 = .ok (.lcmp, 1) := by decide +kernel
theorem dX9_compareTo_52 : decode cX9_compareTo 52 = .ok (.ifCond .eq 30, 3) := by decide +kernel
theorem dX9_compareTo_55 : decode cX9_compareTo 55 = .ok (.aload_n 0, 1) := by decide +kernel
theorem dX9_compareTo_56 : decode cX9_compareTo 56 = .ok (.getfield 54, 3) := by decide +kernel
theorem dX9_compareTo_59 : decode cX9_compareTo 59 = .ok (.iload_n 2, 1) := by decide +kernel
theorem dX9_compareTo_60 : decode cX9_compareTo 60 = .ok (.laload, 1) := by decide +kernel
theorem dX9_compareTo_61 : decode cX9_compareTo 61 = .ok (.aload_n 0, 1) := by decide +kernel
theorem dX9_compareTo_62 : decode cX9_compareTo 62 = .ok (.getfield 42, 3) := by decide +kernel
theorem dX9_compareTo_65 : decode cX9_compareTo 65 = .ok (.bipush 6, 2) := by decide +kernel
theorem dX9_compareTo_67 : decode cX9_compareTo 67 = .ok (.iload_n 1, 1) := by decide +kernel
theorem dX9_compareTo_68 : decode cX9_compareTo 68 = .ok (.imul, 1) := by decide +kernel
theorem dX9_compareTo_69 : decode cX9_compareTo 69 = .ok (.iload_n 2, 1) := by decide +kernel
theorem dX9_compareTo_70 : decode cX9_compareTo 70 = .ok (.iadd, 1) := by decide +kernel
theorem dX9_compareTo_71 : decode cX9_compareTo 71 = .ok (.laload, 1) := by decide +kernel
theorem dX9_compareTo_72 : decode cX9_compareTo 72 = .ok (.lcmp, 1) := by decide +kernel
theorem dX9_compareTo_73 : decode cX9_compareTo 73 = .ok (.ifCond .ge 7, 3) := by decide +kernel
theorem dX9_compareTo_76 : decode cX9_compareTo 76 = .ok (.iconst (-1), 1) := by decide +kernel
theorem dX9_compareTo_77 : decode cX9_compareTo 77 = .ok (.goto 4, 3) := by decide +kernel
theorem dX9_compareTo_80 : decode cX9_compareTo 80 = .ok (.iconst 1, 1) := by decide +kernel
theorem dX9_compareTo_81 : decode cX9_compareTo 81 = .ok (.ireturn, 1) := by decide +kernel
theorem dX9_compareTo_82 : decode cX9_compareTo 82 = .ok (.iinc 2 (-1), 3) := by decide +kernel
theorem dX9_compareTo_85 : decode cX9_compareTo 85 = .ok (.goto (-55), 3) := by decide +kernel
theorem dX9_compareTo_88 : decode cX9_compareTo 88 = .ok (.iconst 0, 1) := by decide +kernel
theorem dX9_compareTo_89 : decode cX9_compareTo 89 = .ok (.ireturn, 1) := by decide +kernel
theorem dX9_addFactor_0 : decode cX9_addFactor 0 = .ok (.iconst 0, 1) := by decide +kernel
theorem dX9_addFactor_1 : decode cX9_addFactor 1 = .ok (.istore_n 1, 1) := by decide +kernel
theorem dX9_addFactor_2 : decode cX9_addFactor 2 = .ok (.iload_n 1, 1) := by decide +kernel
theorem dX9_addFactor_3 : decode cX9_addFactor 3 = .ok (.aload_n 0, 1) := by decide +kernel
theorem dX9_addFactor_4 : decode cX9_addFactor 4 = .ok (.getfield 191, 3) := by decide +kernel
theorem dX9_addFactor_7 : decode cX9_addFactor 7 = .ok (.if_icmp .ge 17, 3) := by decide +kernel
theorem dX9_addFactor_10 : decode cX9_addFactor 10 = .ok (.aload_n 0, 1) := by decide +kernel
theorem dX9_addFactor_11 : decode cX9_addFactor 11 = .ok (.iload_n 1, 1) := by decide +kernel
theorem dX9_addFactor_12 : decode cX9_addFactor 12 = .ok (.invokevirtual 194, 3) := by decide +kernel
theorem dX9_addFactor_15 : decode cX9_addFactor 15 = .ok (.ifCond .le 9, 3) := by decide +kernel
theorem dX9_addFactor_18 : decode cX9_addFactor 18 = .ok (.iinc 1 1, 3) := by decide +kernel
theorem dX9_addFactor_21 : decode cX9_addFactor 21 = .ok (.goto (-19), 3) := by decide +kernel
theorem dX9_addFactor_24 : decode cX9_addFactor 24 = .ok (.iload_n 1, 1) := by decide +kernel
theorem dX9_addFactor_25 : decode cX9_addFactor 25 = .ok (.aload_n 0, 1) := by decide +kernel
theorem dX9_addFactor_26 : decode cX9_addFactor 26 = .ok (.getfield 191, 3) := by decide +kernel
theorem dX9_addFactor_29 : decode cX9_addFactor 29 = .ok (.if_icmp .ge 22, 3) := by decide +kernel
theorem dX9_addFactor_32 : decode cX9_addFactor 32 = .ok (.aload_n 0, 1) := by decide +kernel
theorem dX9_addFactor_33 : decode cX9_addFactor 33 = .ok (.iload_n 1, 1) := by decide +kernel
theorem dX9_addFactor_34 : decode cX9_addFactor 34 = .ok (.invokevirtual 194, 3) := by decide +kernel
theorem dX9_addFactor_37 : decode cX9_addFactor 37 = .ok (.ifCond .ne 14, 3) := by decide +kernel
theorem dX9_addFactor_40 : decode cX9_addFactor 40 = .ok (.aload_n 0, 1) := by decide +kernel
theorem dX9_addFactor_41 : decode cX9_addFactor 41 = .ok (.getfield 45, 3) := by decide +kernel
theorem dX9_addFactor_44 : decode cX9_addFactor 44 = .ok (.iload_n 1, 1) := by decide +kernel
theorem dX9_addFactor_45 : decode cX9_addFactor 45 = .ok (.dup2, 1) := by decide +kernel
theorem dX9_addFactor_46 : decode cX9_addFactor 46 = .ok (.iaload, 1) := by decide +kernel
theorem dX9_addFactor_47 : decode cX9_addFactor 47 = .ok (.iconst 1, 1) := by decide +kernel
theorem dX9_addFactor_48 : decode cX9_addFactor 48 = .ok (.iadd, 1) := by decide +kernel
theorem dX9_addFactor_49 : decode cX9_addFactor 49 = .ok (.iastore, 1) := by decide +kernel
theorem dX9_addFactor_50 : decode cX9_addFactor 50 = .ok (.return_, 1) := by decide +kernel
theorem dX9_addFactor_51 : decode cX9_addFactor 51 = .ok (.aload_n 0, 1) := by decide +kernel
theorem dX9_addFactor_52 : decode cX9_addFactor 52 = .ok (.getfield 191, 3) := by decide +kernel
theorem dX9_addFactor_55 : decode cX9_addFactor 55 = .ok (.istore_n 2, 1) := by decide +kernel
theorem dX9_addFactor_56 : decode cX9_addFactor 56 = .ok (.iload_n 2, 1) := by decide +kernel
theorem dX9_addFactor_57 : decode cX9_addFactor 57 = .ok (.iload_n 1, 1) := by decide +kernel
theorem dX9_addFactor_58 : decode cX9_addFactor 58 = .ok (.if_icmp .le 76, 3) := by decide +kernel
theorem dX9_addFactor_61 : decode cX9_addFactor 61 = .ok (.aload_n 0, 1) := by decide +kernel
theorem dX9_addFactor_62 : decode cX9_addFactor 62 = .ok (.getfield 45, 3) := by decide +kernel
theorem dX9_addFactor_65 : decode cX9_addFactor 65 = .ok (.iload_n 2, 1) := by decide +kernel
theorem dX9_addFactor_66 : decode cX9_addFactor 66 = .ok (.aload_n 0, 1) := by decide +kernel
theorem dX9_addFactor_67 : decode cX9_addFactor 67 = .ok (.getfield 45, 3) := by decide +kernel
theorem dX9_addFactor_70 : decode cX9_addFactor 70 = .ok (.iload_n 2, 1) := by decide +kernel
theorem dX9_addFactor_71 : decode cX9_addFactor 71 = .ok (.iconst 1, 1) := by decide +kernel
theorem dX9_addFactor_72 : decode cX9_addFactor 72 = .ok (.isub, 1) := by decide +kernel
theorem dX9_addFactor_73 : decode cX9_addFactor 73 = .ok (.iaload, 1) := by decide +kernel
theorem dX9_addFactor_74 : decode cX9_addFactor 74 = .ok (.iastore, 1) := by decide +kernel
theorem dX9_addFactor_75 : decode cX9_addFactor 75 = .ok (.aload_n 0, 1) := by decide +kernel
theorem dX9_addFactor_76 : decode cX9_addFactor 76 = .ok (.getfield 48, 3) := by decide +kernel
theorem dX9_addFactor_79 : decode cX9_addFactor 79 = .ok (.iload_n 2, 1) := by decide +kernel
theorem dX9_addFactor_80 : decode cX9_addFactor 80 = .ok (.aload_n 0, 1) := by decide +kernel
theorem dX9_addFactor_81 : decode cX9_addFactor 81 = .ok (.getfield 48, 3) := by decide +kernel
theorem dX9_addFactor_84 : decode cX9_addFactor 84 = .ok (.iload_n 2, 1) := by decide +kernel
theorem dX9_addFactor_85 : decode cX9_addFactor 85 = .ok (.iconst 1, 1) := by decide +kernel
theorem dX9_addFactor_86 : decode cX9_addFactor 86 = .ok (.isub, 1) := by decide +kernel
theorem dX9_addFactor_87 : decode cX9_addFactor 87 = .ok (.iaload, 1) := by decide +kernel
theorem dX9_addFactor_88 : decode cX9_addFactor 88 = .ok (.iastore, 1) := by decide +kernel
theorem dX9_addFactor_89 : decode cX9_addFactor 89 = .ok (.iconst 0, 1) := by decide +kernel
theorem dX9_addFactor_90 : decode cX9_addFactor 90 = .ok (.istore_n 3, 1) := by decide +kernel
theorem dX9_addFactor_91 : decode cX9_addFactor 91 = .ok (.iload_n 3, 1) := by decide +kernel
theorem dX9_addFactor_92 : decode cX9_addFactor 92 = .ok (.bipush 6, 2) := by decide +kernel
theorem dX9_addFactor_94 : decode cX9_addFactor 94 = .ok (.if_icmp .ge 34, 3) := by decide +kernel
theorem dX9_addFactor_97 : decode cX9_addFactor 97 = .ok (.aload_n 0, 1) := by decide +kernel
theorem dX9_addFactor_98 : decode cX9_addFactor 98 = .ok (.getfield 42, 3) := by decide +kernel
theorem dX9_addFactor_101 : decode cX9_addFactor 101 = .ok (.bipush 6, 2) := by decide +kernel
theorem dX9_addFactor_103 : decode cX9_addFactor 103 = .ok (.iload_n 2, 1) := by decide +kernel
theorem dX9_addFactor_104 : decode cX9_addFactor 104 = .ok (.imul, 1) := by decide +kernel
theorem dX9_addFactor_105 : decode cX9_addFactor 105 = .ok (.iload_n 3, 1) := by decide +kernel
theorem dX9_addFactor_106 : decode cX9_addFactor 106 = .ok (.iadd, 1) := by decide +kernel
theorem dX9_addFactor_107 : decode cX9_addFactor 107 = .ok (.aload_n 0, 1) := by decide +kernel
theorem dX9_addFactor_108 : decode cX9_addFactor 108 = .ok (.getfield 42, 3) := by decide +kernel
theorem dX9_addFactor_111 : decode cX9_addFactor 111 = .ok (.bipush 6, 2) := by decide +kernel
theorem dX9_addFactor_113 : decode cX9_addFactor 113 = .ok (.iload_n 2, 1) := by decide +kernel
theorem dX9_addFactor_114 : decode cX9_addFactor 114 = .ok (.imul, 1) := by decide +kernel
theorem dX9_addFactor_115 : decode cX9_addFactor 115 = .ok (.bipush 6, 2) := by decide +kernel
theorem dX9_addFactor_117 : decode cX9_addFactor 117 = .ok (.isub, 1) := by decide +kernel
theorem dX9_addFactor_118 : decode cX9_addFactor 118 = .ok (.iload_n 3, 1) := by decide +kernel
theorem dX9_addFactor_119 : decode cX9_addFactor 119 = .ok (.iadd, 1) := by decide +kernel
theorem dX9_addFactor_120 : decode cX9_addFactor 120 = .ok (.laload, 1) := by decide +kernel
theorem dX9_addFactor_121 : decode cX9_addFactor 121 = .ok (.lastore, 1) := by decide +kernel
theorem dX9_addFactor_122 : decode cX9_addFactor 122 = .ok (.iinc 3 1, 3) := by decide +kernel
theorem dX9_addFactor_125 : decode cX9_addFactor 125 = .ok (.goto (-34), 3) := by decide +kernel
theorem dX9_addFactor_128 : decode cX9_addFactor 128 = .ok (.iinc 2 (-1), 3) := by decide +kernel
theorem dX9_addFactor_131 : decode cX9_addFactor 131 = .ok (.goto (-75), 3) := by decide +kernel
theorem dX9_addFactor_134 : decode cX9_addFactor 134 = .ok (.aload_n 0, 1) := by decide +kernel
theorem dX9_addFactor_135 : decode cX9_addFactor 135 = .ok (.getfield 45, 3) := by decide +kernel
theorem dX9_addFactor_138 : decode cX9_addFactor 138 = .ok (.iload_n 1, 1) := by decide +kernel
theorem dX9_addFactor_139 : decode cX9_addFactor 139 = .ok (.iconst 1, 1) := by decide +kernel
theorem dX9_addFactor_140 : decode cX9_addFactor 140 = .ok (.iastore, 1) := by decide +kernel
theorem dX9_addFactor_141 : decode cX9_addFactor 141 = .ok (.aload_n 0, 1) := by decide +kernel
theorem dX9_addFactor_142 : decode cX9_addFactor 142 = .ok (.getfield 48, 3) := by decide +kernel
theorem dX9_addFactor_145 : decode cX9_addFactor 145 = .ok (.iload_n 1, 1) := by decide +kernel
theorem dX9_addFactor_146 : decode cX9_addFactor 146 = .ok (.aload_n 0, 1) := by decide +kernel
theorem dX9_addFactor_147 : decode cX9_addFactor 147 = .ok (.getfield 188, 3) := by decide +kernel
theorem dX9_addFactor_150 : decode cX9_addFactor 150 = .ok (.iastore, 1) := by decide +kernel
theorem dX9_addFactor_151 : decode cX9_addFactor 151 = .ok (.iconst 0, 1) := by decide +kernel
theorem dX9_addFactor_152 : decode cX9_addFactor 152 = .ok (.istore_n 2, 1) := by decide +kernel
theorem dX9_addFactor_153 : decode cX9_addFactor 153 = .ok (.iload_n 2, 1) := by decide +kernel
theorem dX9_addFactor_154 : decode cX9_addFactor 154 = .ok (.bipush 6, 2) := by decide +kernel
theorem dX9_addFactor_156 : decode cX9_addFactor 156 = .ok (.if_icmp .ge 38, 3) := by decide +kernel
theorem dX9_addFactor_159 : decode cX9_addFactor 159 = .ok (.aload_n 0, 1) := by decide +kernel
theorem dX9_addFactor_160 : decode cX9_addFactor 160 = .ok (.getfield 42, 3) := by decide +kernel
theorem dX9_addFactor_163 : decode cX9_addFactor 163 = .ok (.bipush 6, 2) := by decide +kernel
theorem dX9_addFactor_165 : decode cX9_addFactor 165 = .ok (.iload_n 1, 1) := by decide +kernel
theorem dX9_addFactor_166 : decode cX9_addFactor 166 = .ok (.imul, 1) := by decide +kernel
theorem dX9_addFactor_167 : decode cX9_addFactor 167 = .ok (.iload_n 2, 1) := by decide +kernel
theorem dX9_addFactor_168 : decode cX9_addFactor 168 = .ok (.iadd, 1) := by decide +kernel
theorem dX9_addFactor_169 : decode cX9_addFactor 169 = .ok (.iload_n 2, 1) := by decide +kernel
theorem dX9_addFactor_170 : decode cX9_addFactor 170 = .ok (.aload_n 0, 1) := by decide +kernel
theorem dX9_addFactor_171 : decode cX9_addFactor 171 = .ok (.getfield 188, 3) := by decide +kernel
theorem dX9_addFactor_174 : decode cX9_addFactor 174 = .ok (.if_icmp .gt 12, 3) := by decide +kernel
theorem dX9_addFactor_177 : decode cX9_addFactor 177 = .ok (.aload_n 0, 1) := by decide +kernel
theorem dX9_addFactor_178 : decode cX9_addFactor 178 = .ok (.getfield 54, 3) := by decide +kernel
theorem dX9_addFactor_181 : decode cX9_addFactor 181 = .ok (.iload_n 2, 1) := by decide +kernel
theorem dX9_addFactor_182 : decode cX9_addFactor 182 = .ok (.laload, 1) := by decide +kernel
theorem dX9_addFactor_183 : decode cX9_addFactor 183 = .ok (.goto 4, 3) := by decide +kernel
theorem dX9_addFactor_186 : decode cX9_addFactor 186 = .ok (.lconst 0, 1) := by decide +kernel
theorem dX9_addFactor_187 : decode cX9_addFactor 187 = .ok (.lastore, 1) := by decide +kernel
theorem dX9_addFactor_188 : decode cX9_addFactor 188 = .ok (.iinc 2 1, 3) := by decide +kernel
theorem dX9_addFactor_191 : decode cX9_addFactor 191 = .ok (.goto (-38), 3) := by decide +kernel
theorem dX9_addFactor_194 : decode cX9_addFactor 194 = .ok (.aload_n 0, 1) := by decide +kernel
theorem dX9_addFactor_195 : decode cX9_addFactor 195 = .ok (.dup, 1) := by decide +kernel
theorem dX9_addFactor_196 : decode cX9_addFactor 196 = .ok (.getfield 191, 3) := by decide +kernel
theorem dX9_addFactor_199 : decode cX9_addFactor 199 = .ok (.iconst 1, 1) := by decide +kernel
theorem dX9_addFactor_200 : decode cX9_addFactor 200 = .ok (.iadd, 1) := by decide +kernel
theorem dX9_addFactor_201 : decode cX9_addFactor 201 = .ok (.putfield 191, 3) := by decide +kernel
theorem dX9_addFactor_204 : decode cX9_addFactor 204 = .ok (.return_, 1) := by decide +kernel
theorem dX9_takeQuotient_0 : decode cX9_takeQuotient 0 = .ok (.aload_n 0, 1) := by decide +kernel
theorem dX9_takeQuotient_1 : decode cX9_takeQuotient 1 = .ok (.dup, 1) := by decide +kernel
theorem dX9_takeQuotient_2 : decode cX9_takeQuotient 2 = .ok (.getfield 185, 3) := by decide +kernel
theorem dX9_takeQuotient_5 : decode cX9_takeQuotient 5 = .ok (.aload_n 0, 1) := by decide +kernel
theorem dX9_takeQuotient_6 : decode cX9_takeQuotient 6 = .ok (.getfield 188, 3) := by decide +kernel
theorem dX9_takeQuotient_9 : decode cX9_takeQuotient 9 = .ok (.isub, 1) := by decide +kernel
theorem dX9_takeQuotient_10 : decode cX9_takeQuotient 10 = .ok (.putfield 185, 3) := by decide +kernel
theorem dX9_takeQuotient_13 : decode cX9_takeQuotient 13 = .ok (.iconst 0, 1) := by decide +kernel
theorem dX9_takeQuotient_14 : decode cX9_takeQuotient 14 = .ok (.istore_n 1, 1) := by decide +kernel
theorem dX9_takeQuotient_15 : decode cX9_takeQuotient 15 = .ok (.iload_n 1, 1) := by decide +kernel
theorem dX9_takeQuotient_16 : decode cX9_takeQuotient 16 = .ok (.bipush 6, 2) := by decide +kernel
theorem dX9_takeQuotient_18 : decode cX9_takeQuotient 18 = .ok (.if_icmp .ge 21, 3) := by decide +kernel
theorem dX9_takeQuotient_21 : decode cX9_takeQuotient 21 = .ok (.aload_n 0, 1) := by decide +kernel
theorem dX9_takeQuotient_22 : decode cX9_takeQuotient 22 = .ok (.getfield 51, 3) := by decide +kernel
theorem dX9_takeQuotient_25 : decode cX9_takeQuotient 25 = .ok (.iload_n 1, 1) := by decide +kernel
theorem dX9_takeQuotient_26 : decode cX9_takeQuotient 26 = .ok (.aload_n 0, 1) := by decide +kernel
theorem dX9_takeQuotient_27 : decode cX9_takeQuotient 27 = .ok (.getfield 57, 3) := by decide +kernel
theorem dX9_takeQuotient_30 : decode cX9_takeQuotient 30 = .ok (.iload_n 1, 1) := by decide +kernel
theorem dX9_takeQuotient_31 : decode cX9_takeQuotient 31 = .ok (.laload, 1) := by decide +kernel
theorem dX9_takeQuotient_32 : decode cX9_takeQuotient 32 = .ok (.lastore, 1) := by decide +kernel
theorem dX9_takeQuotient_33 : decode cX9_takeQuotient 33 = .ok (.iinc 1 1, 3) := by decide +kernel
theorem dX9_takeQuotient_36 : decode cX9_takeQuotient 36 = .ok (.goto (-21), 3) := by decide +kernel
theorem dX9_takeQuotient_39 : decode cX9_takeQuotient 39 = .ok (.return_, 1) := by decide +kernel
theorem dX9_tries_0 : decode cX9_tries 0 = .ok (.aload_n 0, 1) := by decide +kernel
theorem dX9_tries_1 : decode cX9_tries 1 = .ok (.invokevirtual 197, 3) := by decide +kernel
theorem dX9_tries_4 : decode cX9_tries 4 = .ok (.ifCond .ne 5, 3) := by decide +kernel
theorem dX9_tries_7 : decode cX9_tries 7 = .ok (.iconst 0, 1) := by decide +kernel
theorem dX9_tries_8 : decode cX9_tries 8 = .ok (.ireturn, 1) := by decide +kernel
theorem dX9_tries_9 : decode cX9_tries 9 = .ok (.aload_n 0, 1) := by decide +kernel
theorem dX9_tries_10 : decode cX9_tries 10 = .ok (.invokevirtual 201, 3) := by decide +kernel
theorem dX9_tries_13 : decode cX9_tries 13 = .ok (.aload_n 0, 1) := by decide +kernel
theorem dX9_tries_14 : decode cX9_tries 14 = .ok (.invokevirtual 204, 3) := by decide +kernel
theorem dX9_tries_17 : decode cX9_tries 17 = .ok (.iconst 1, 1) := by decide +kernel
theorem dX9_tries_18 : decode cX9_tries 18 = .ok (.ireturn, 1) := by decide +kernel
theorem dX9_triesLine_0 : decode cX9_triesLine 0 = .ok (.aload_n 0, 1) := by decide +kernel
theorem dX9_triesLine_1 : decode cX9_triesLine 1 = .ok (.iconst 1, 1) := by decide +kernel
theorem dX9_triesLine_2 : decode cX9_triesLine 2 = .ok (.putfield 188, 3) := by decide +kernel
theorem dX9_triesLine_5 : decode cX9_triesLine 5 = .ok (.aload_n 0, 1) := by decide +kernel
theorem dX9_triesLine_6 : decode cX9_triesLine 6 = .ok (.getfield 54, 3) := by decide +kernel
theorem dX9_triesLine_9 : decode cX9_triesLine 9 = .ok (.iconst 1, 1) := by decide +kernel
theorem dX9_triesLine_10 : decode cX9_triesLine 10 = .ok (.lload_n 1, 1) := by decide +kernel
theorem dX9_triesLine_11 : decode cX9_triesLine 11 = .ok (.lastore, 1) := by decide +kernel
theorem dX9_triesLine_12 : decode cX9_triesLine 12 = .ok (.aload_n 0, 1) := by decide +kernel
theorem dX9_triesLine_13 : decode cX9_triesLine 13 = .ok (.getfield 54, 3) := by decide +kernel
theorem dX9_triesLine_16 : decode cX9_triesLine 16 = .ok (.iconst 0, 1) := by decide +kernel
theorem dX9_triesLine_17 : decode cX9_triesLine 17 = .ok (.lload_n 3, 1) := by decide +kernel
theorem dX9_triesLine_18 : decode cX9_triesLine 18 = .ok (.lastore, 1) := by decide +kernel
theorem dX9_triesLine_19 : decode cX9_triesLine 19 = .ok (.aload_n 0, 1) := by decide +kernel
theorem dX9_triesLine_20 : decode cX9_triesLine 20 = .ok (.invokevirtual 207, 3) := by decide +kernel
theorem dX9_triesLine_23 : decode cX9_triesLine 23 = .ok (.ireturn, 1) := by decide +kernel
theorem dX9_findLine_0 : decode cX9_findLine 0 = .ok (.aload_n 0, 1) := by decide +kernel
theorem dX9_findLine_1 : decode cX9_findLine 1 = .ok (.getfield 185, 3) := by decide +kernel
theorem dX9_findLine_4 : decode cX9_findLine 4 = .ok (.iconst 1, 1) := by decide +kernel
theorem dX9_findLine_5 : decode cX9_findLine 5 = .ok (.if_icmp .ge 5, 3) := by decide +kernel
theorem dX9_findLine_8 : decode cX9_findLine 8 = .ok (.iconst 0, 1) := by decide +kernel
theorem dX9_findLine_9 : decode cX9_findLine 9 = .ok (.ireturn, 1) := by decide +kernel
theorem dX9_findLine_10 : decode cX9_findLine 10 = .ok (.aload_n 0, 1) := by decide +kernel
theorem dX9_findLine_11 : decode cX9_findLine 11 = .ok (.getfield 51, 3) := by decide +kernel
theorem dX9_findLine_14 : decode cX9_findLine 14 = .ok (.iconst 0, 1) := by decide +kernel
theorem dX9_findLine_15 : decode cX9_findLine 15 = .ok (.laload, 1) := by decide +kernel
theorem dX9_findLine_16 : decode cX9_findLine 16 = .ok (.lconst 0, 1) := by decide +kernel
theorem dX9_findLine_17 : decode cX9_findLine 17 = .ok (.lcmp, 1) := by decide +kernel
theorem dX9_findLine_18 : decode cX9_findLine 18 = .ok (.ifCond .ne 10, 3) := by decide +kernel
theorem dX9_findLine_21 : decode cX9_findLine 21 = .ok (.aload_n 0, 1) := by decide +kernel
theorem dX9_findLine_22 : decode cX9_findLine 22 = .ok (.lconst 1, 1) := by decide +kernel
theorem dX9_findLine_23 : decode cX9_findLine 23 = .ok (.lconst 0, 1) := by decide +kernel
theorem dX9_findLine_24 : decode cX9_findLine 24 = .ok (.invokevirtual 210, 3) := by decide +kernel
theorem dX9_findLine_27 : decode cX9_findLine 27 = .ok (.ireturn, 1) := by decide +kernel
theorem dX9_findLine_28 : decode cX9_findLine 28 = .ok (.aload_n 0, 1) := by decide +kernel
theorem dX9_findLine_29 : decode cX9_findLine 29 = .ok (.getfield 51, 3) := by decide +kernel
theorem dX9_findLine_32 : decode cX9_findLine 32 = .ok (.aload_n 0, 1) := by decide +kernel
theorem dX9_findLine_33 : decode cX9_findLine 33 = .ok (.getfield 185, 3) := by decide +kernel
theorem dX9_findLine_36 : decode cX9_findLine 36 = .ok (.laload, 1) := by decide +kernel
theorem dX9_findLine_37 : decode cX9_findLine 37 = .ok (.invokestatic 108, 3) := by decide +kernel
theorem dX9_findLine_40 : decode cX9_findLine 40 = .ok (.lstore_n 1, 1) := by decide +kernel
theorem dX9_findLine_41 : decode cX9_findLine 41 = .ok (.aload_n 0, 1) := by decide +kernel
theorem dX9_findLine_42 : decode cX9_findLine 42 = .ok (.getfield 51, 3) := by decide +kernel
theorem dX9_findLine_45 : decode cX9_findLine 45 = .ok (.iconst 0, 1) := by decide +kernel
theorem dX9_findLine_46 : decode cX9_findLine 46 = .ok (.laload, 1) := by decide +kernel
theorem dX9_findLine_47 : decode cX9_findLine 47 = .ok (.invokestatic 108, 3) := by decide +kernel
theorem dX9_findLine_50 : decode cX9_findLine 50 = .ok (.lstore_n 3, 1) := by decide +kernel
theorem dX9_findLine_51 : decode cX9_findLine 51 = .ok (.lconst 1, 1) := by decide +kernel
theorem dX9_findLine_52 : decode cX9_findLine 52 = .ok (.lstore 5, 2) := by decide +kernel
theorem dX9_findLine_54 : decode cX9_findLine 54 = .ok (.lload 5, 2) := by decide +kernel
theorem dX9_findLine_56 : decode cX9_findLine 56 = .ok (.lload_n 1, 1) := by decide +kernel
theorem dX9_findLine_57 : decode cX9_findLine 57 = .ok (.lcmp, 1) := by decide +kernel
theorem dX9_findLine_58 : decode cX9_findLine 58 = .ok (.ifCond .gt 98, 3) := by decide +kernel
theorem dX9_findLine_61 : decode cX9_findLine 61 = .ok (.lconst 1, 1) := by decide +kernel
theorem dX9_findLine_62 : decode cX9_findLine 62 = .ok (.lstore 7, 2) := by decide +kernel
theorem dX9_findLine_64 : decode cX9_findLine 64 = .ok (.lload_n 1, 1) := by decide +kernel
theorem dX9_findLine_65 : decode cX9_findLine 65 = .ok (.lload 5, 2) := by decide +kernel
theorem dX9_findLine_67 : decode cX9_findLine 67 = .ok (.lrem, 1) := by decide +kernel
theorem dX9_findLine_68 : decode cX9_findLine 68 = .ok (.lconst 0, 1) := by decide +kernel
theorem dX9_findLine_69 : decode cX9_findLine 69 = .ok (.lcmp, 1) := by decide +kernel
theorem dX9_findLine_70 : decode cX9_findLine 70 = .ok (.ifCond .ne 77, 3) := by decide +kernel
theorem dX9_findLine_73 : decode cX9_findLine 73 = .ok (.lload 7, 2) := by decide +kernel
theorem dX9_findLine_75 : decode cX9_findLine 75 = .ok (.lload_n 3, 1) := by decide +kernel
theorem dX9_findLine_76 : decode cX9_findLine 76 = .ok (.lcmp, 1) := by decide +kernel
theorem dX9_findLine_77 : decode cX9_findLine 77 = .ok (.ifCond .gt 70, 3) := by decide +kernel
theorem dX9_findLine_80 : decode cX9_findLine 80 = .ok (.lload_n 3, 1) := by decide +kernel
theorem dX9_findLine_81 : decode cX9_findLine 81 = .ok (.lload 7, 2) := by decide +kernel
theorem dX9_findLine_83 : decode cX9_findLine 83 = .ok (.lrem, 1) := by decide +kernel
theorem dX9_findLine_84 : decode cX9_findLine 84 = .ok (.lconst 0, 1) := by decide +kernel
theorem dX9_findLine_85 : decode cX9_findLine 85 = .ok (.lcmp, 1) := by decide +kernel
theorem dX9_findLine_86 : decode cX9_findLine 86 = .ok (.ifCond .ne 19, 3) := by decide +kernel
theorem dX9_findLine_89 : decode cX9_findLine 89 = .ok (.lload 7, 2) := by decide +kernel
theorem dX9_findLine_91 : decode cX9_findLine 91 = .ok (.lload 5, 2) := by decide +kernel
theorem dX9_findLine_93 : decode cX9_findLine 93 = .ok (.invokestatic 214, 3) := by decide +kernel
theorem dX9_findLine_96 : decode cX9_findLine 96 = .ok (.lconst 1, 1) := by decide +kernel
theorem dX9_findLine_97 : decode cX9_findLine 97 = .ok (.lcmp, 1) := by decide +kernel
theorem dX9_findLine_98 : decode cX9_findLine 98 = .ok (.ifCond .ne 7, 3) := by decide +kernel
theorem dX9_findLine_101 : decode cX9_findLine 101 = .ok (.iconst 1, 1) := by decide +kernel
theorem dX9_findLine_102 : decode cX9_findLine 102 = .ok (.goto 4, 3) := by decide +kernel
theorem dX9_findLine_105 : decode cX9_findLine 105 = .ok (.iconst 0, 1) := by decide +kernel
theorem dX9_findLine_106 : decode cX9_findLine 106 = .ok (.istore 9, 2) := by decide +kernel
theorem dX9_findLine_108 : decode cX9_findLine 108 = .ok (.iload 9, 2) := by decide +kernel
theorem dX9_findLine_110 : decode cX9_findLine 110 = .ok (.ifCond .eq 28, 3) := by decide +kernel
theorem dX9_findLine_113 : decode cX9_findLine 113 = .ok (.aload_n 0, 1) := by decide +kernel
theorem dX9_findLine_114 : decode cX9_findLine 114 = .ok (.lload 5, 2) := by decide +kernel
theorem dX9_findLine_116 : decode cX9_findLine 116 = .ok (.lload 7, 2) := by decide +kernel
theorem dX9_findLine_118 : decode cX9_findLine 118 = .ok (.lneg, 1) := by decide +kernel
theorem dX9_findLine_119 : decode cX9_findLine 119 = .ok (.invokevirtual 210, 3) := by decide +kernel
theorem dX9_findLine_122 : decode cX9_findLine 122 = .ok (.ifCond .ne 14, 3) := by decide +kernel
theorem dX9_findLine_125 : decode cX9_findLine 125 = .ok (.aload_n 0, 1) := by decide +kernel
theorem dX9_findLine_126 : decode cX9_findLine 126 = .ok (.lload 5, 2) := by decide +kernel
theorem dX9_findLine_128 : decode cX9_findLine 128 = .ok (.lload 7, 2) := by decide +kernel
theorem dX9_findLine_130 : decode cX9_findLine 130 = .ok (.invokevirtual 210, 3) := by decide +kernel
theorem dX9_findLine_133 : decode cX9_findLine 133 = .ok (.ifCond .eq 5, 3) := by decide +kernel
theorem dX9_findLine_136 : decode cX9_findLine 136 = .ok (.iconst 1, 1) := by decide +kernel
theorem dX9_findLine_137 : decode cX9_findLine 137 = .ok (.ireturn, 1) := by decide +kernel
theorem dX9_findLine_138 : decode cX9_findLine 138 = .ok (.lload 7, 2) := by decide +kernel
theorem dX9_findLine_140 : decode cX9_findLine 140 = .ok (.lconst 1, 1) := by decide +kernel
theorem dX9_findLine_141 : decode cX9_findLine 141 = .ok (.ladd, 1) := by decide +kernel
theorem dX9_findLine_142 : decode cX9_findLine 142 = .ok (.lstore 7, 2) := by decide +kernel
theorem dX9_findLine_144 : decode cX9_findLine 144 = .ok (.goto (-80), 3) := by decide +kernel
theorem dX9_findLine_147 : decode cX9_findLine 147 = .ok (.lload 5, 2) := by decide +kernel
theorem dX9_findLine_149 : decode cX9_findLine 149 = .ok (.lconst 1, 1) := by decide +kernel
theorem dX9_findLine_150 : decode cX9_findLine 150 = .ok (.ladd, 1) := by decide +kernel
theorem dX9_findLine_151 : decode cX9_findLine 151 = .ok (.lstore 5, 2) := by decide +kernel
theorem dX9_findLine_153 : decode cX9_findLine 153 = .ok (.goto (-99), 3) := by decide +kernel
theorem dX9_findLine_156 : decode cX9_findLine 156 = .ok (.iconst 0, 1) := by decide +kernel
theorem dX9_findLine_157 : decode cX9_findLine 157 = .ok (.ireturn, 1) := by decide +kernel
theorem dX9_layDivisors_0 : decode cX9_layDivisors 0 = .ok (.aload_n 0, 1) := by decide +kernel
theorem dX9_layDivisors_1 : decode cX9_layDivisors 1 = .ok (.getfield 51, 3) := by decide +kernel
theorem dX9_layDivisors_4 : decode cX9_layDivisors 4 = .ok (.aload_n 0, 1) := by decide +kernel
theorem dX9_layDivisors_5 : decode cX9_layDivisors 5 = .ok (.getfield 185, 3) := by decide +kernel
theorem dX9_layDivisors_8 : decode cX9_layDivisors 8 = .ok (.laload, 1) := by decide +kernel
theorem dX9_layDivisors_9 : decode cX9_layDivisors 9 = .ok (.invokestatic 108, 3) := by decide +kernel
theorem dX9_layDivisors_12 : decode cX9_layDivisors 12 = .ok (.lstore_n 1, 1) := by decide +kernel
theorem dX9_layDivisors_13 : decode cX9_layDivisors 13 = .ok (.aload_n 0, 1) := by decide +kernel
theorem dX9_layDivisors_14 : decode cX9_layDivisors 14 = .ok (.getfield 51, 3) := by decide +kernel
theorem dX9_layDivisors_17 : decode cX9_layDivisors 17 = .ok (.iconst 0, 1) := by decide +kernel
theorem dX9_layDivisors_18 : decode cX9_layDivisors 18 = .ok (.laload, 1) := by decide +kernel
theorem dX9_layDivisors_19 : decode cX9_layDivisors 19 = .ok (.invokestatic 108, 3) := by decide +kernel
theorem dX9_layDivisors_22 : decode cX9_layDivisors 22 = .ok (.lstore_n 3, 1) := by decide +kernel
theorem dX9_layDivisors_23 : decode cX9_layDivisors 23 = .ok (.lconst 0, 1) := by decide +kernel
theorem dX9_layDivisors_24 : decode cX9_layDivisors 24 = .ok (.lstore 5, 2) := by decide +kernel
theorem dX9_layDivisors_26 : decode cX9_layDivisors 26 = .ok (.iconst 0, 1) := by decide +kernel
theorem dX9_layDivisors_27 : decode cX9_layDivisors 27 = .ok (.istore 7, 2) := by decide +kernel
theorem dX9_layDivisors_29 : decode cX9_layDivisors 29 = .ok (.iload 7, 2) := by decide +kernel
theorem dX9_layDivisors_31 : decode cX9_layDivisors 31 = .ok (.aload_n 0, 1) := by decide +kernel
theorem dX9_layDivisors_32 : decode cX9_layDivisors 32 = .ok (.getfield 185, 3) := by decide +kernel
theorem dX9_layDivisors_35 : decode cX9_layDivisors 35 = .ok (.if_icmp .gt 21, 3) := by decide +kernel
theorem dX9_layDivisors_38 : decode cX9_layDivisors 38 = .ok (.lload 5, 2) := by decide +kernel
theorem dX9_layDivisors_40 : decode cX9_layDivisors 40 = .ok (.aload_n 0, 1) := by decide +kernel
theorem dX9_layDivisors_41 : decode cX9_layDivisors 41 = .ok (.getfield 51, 3) := by decide +kernel
theorem dX9_layDivisors_44 : decode cX9_layDivisors 44 = .ok (.iload 7, 2) := by decide +kernel
theorem dX9_layDivisors_46 : decode cX9_layDivisors 46 = .ok (.laload, 1) := by decide +kernel
theorem dX9_layDivisors_47 : decode cX9_layDivisors 47 = .ok (.ladd, 1) := by decide +kernel
theorem dX9_layDivisors_48 : decode cX9_layDivisors 48 = .ok (.lstore 5, 2) := by decide +kernel
theorem dX9_layDivisors_50 : decode cX9_layDivisors 50 = .ok (.iinc 7 1, 3) := by decide +kernel
theorem dX9_layDivisors_53 : decode cX9_layDivisors 53 = .ok (.goto (-24), 3) := by decide +kernel
theorem dX9_layDivisors_56 : decode cX9_layDivisors 56 = .ok (.lload 5, 2) := by decide +kernel
theorem dX9_layDivisors_58 : decode cX9_layDivisors 58 = .ok (.invokestatic 108, 3) := by decide +kernel
theorem dX9_layDivisors_61 : decode cX9_layDivisors 61 = .ok (.lstore 5, 2) := by decide +kernel
theorem dX9_layDivisors_63 : decode cX9_layDivisors 63 = .ok (.aload_n 0, 1) := by decide +kernel
theorem dX9_layDivisors_64 : decode cX9_layDivisors 64 = .ok (.iconst 0, 1) := by decide +kernel
theorem dX9_layDivisors_65 : decode cX9_layDivisors 65 = .ok (.putfield 218, 3) := by decide +kernel
theorem dX9_layDivisors_68 : decode cX9_layDivisors 68 = .ok (.aload_n 0, 1) := by decide +kernel
theorem dX9_layDivisors_69 : decode cX9_layDivisors 69 = .ok (.iconst 0, 1) := by decide +kernel
theorem dX9_layDivisors_70 : decode cX9_layDivisors 70 = .ok (.putfield 221, 3) := by decide +kernel
theorem dX9_layDivisors_73 : decode cX9_layDivisors 73 = .ok (.aload_n 0, 1) := by decide +kernel
theorem dX9_layDivisors_74 : decode cX9_layDivisors 74 = .ok (.iconst 0, 1) := by decide +kernel
theorem dX9_layDivisors_75 : decode cX9_layDivisors 75 = .ok (.putfield 224, 3) := by decide +kernel
theorem dX9_layDivisors_78 : decode cX9_layDivisors 78 = .ok (.lconst 1, 1) := by decide +kernel
theorem dX9_layDivisors_79 : decode cX9_layDivisors 79 = .ok (.lstore 7, 2) := by decide +kernel
theorem dX9_layDivisors_81 : decode cX9_layDivisors 81 = .ok (.lload 7, 2) := by decide +kernel
theorem dX9_layDivisors_83 : decode cX9_layDivisors 83 = .ok (.lload_n 1, 1) := by decide +kernel
theorem dX9_layDivisors_84 : decode cX9_layDivisors 84 = .ok (.lcmp, 1) := by decide +kernel
theorem dX9_layDivisors_85 : decode cX9_layDivisors 85 = .ok (.ifCond .gt 42, 3) := by decide +kernel
theorem dX9_layDivisors_88 : decode cX9_layDivisors 88 = .ok (.lload_n 1, 1) := by decide +kernel
theorem dX9_layDivisors_89 : decode cX9_layDivisors 89 = .ok (.lload 7, 2) := by decide +kernel
theorem dX9_layDivisors_91 : decode cX9_layDivisors 91 = .ok (.lrem, 1) := by decide +kernel
theorem dX9_layDivisors_92 : decode cX9_layDivisors 92 = .ok (.lconst 0, 1) := by decide +kernel
theorem dX9_layDivisors_93 : decode cX9_layDivisors 93 = .ok (.lcmp, 1) := by decide +kernel
theorem dX9_layDivisors_94 : decode cX9_layDivisors 94 = .ok (.ifCond .ne 24, 3) := by decide +kernel
theorem dX9_layDivisors_97 : decode cX9_layDivisors 97 = .ok (.aload_n 0, 1) := by decide +kernel
theorem dX9_layDivisors_98 : decode cX9_layDivisors 98 = .ok (.getfield 63, 3) := by decide +kernel
theorem dX9_layDivisors_101 : decode cX9_layDivisors 101 = .ok (.aload_n 0, 1) := by decide +kernel
theorem dX9_layDivisors_102 : decode cX9_layDivisors 102 = .ok (.getfield 218, 3) := by decide +kernel
theorem dX9_layDivisors_105 : decode cX9_layDivisors 105 = .ok (.lload 7, 2) := by decide +kernel
theorem dX9_layDivisors_107 : decode cX9_layDivisors 107 = .ok (.lastore, 1) := by decide +kernel
theorem dX9_layDivisors_108 : decode cX9_layDivisors 108 = .ok (.aload_n 0, 1) := by decide +kernel
theorem dX9_layDivisors_109 : decode cX9_layDivisors 109 = .ok (.dup, 1) := by decide +kernel
theorem dX9_layDivisors_110 : decode cX9_layDivisors 110 = .ok (.getfield 218, 3) := by decide +kernel
theorem dX9_layDivisors_113 : decode cX9_layDivisors 113 = .ok (.iconst 1, 1) := by decide +kernel
theorem dX9_layDivisors_114 : decode cX9_layDivisors 114 = .ok (.iadd, 1) := by decide +kernel
theorem dX9_layDivisors_115 : decode cX9_layDivisors 115 = .ok (.putfield 218, 3) := by decide +kernel
theorem dX9_layDivisors_118 : decode cX9_layDivisors 118 = .ok (.lload 7, 2) := by decide +kernel
theorem dX9_layDivisors_120 : decode cX9_layDivisors 120 = .ok (.lconst 1, 1) := by decide +kernel
theorem dX9_layDivisors_121 : decode cX9_layDivisors 121 = .ok (.ladd, 1) := by decide +kernel
theorem dX9_layDivisors_122 : decode cX9_layDivisors 122 = .ok (.lstore 7, 2) := by decide +kernel
theorem dX9_layDivisors_124 : decode cX9_layDivisors 124 = .ok (.goto (-43), 3) := by decide +kernel
theorem dX9_layDivisors_127 : decode cX9_layDivisors 127 = .ok (.lconst 1, 1) := by decide +kernel
theorem dX9_layDivisors_128 : decode cX9_layDivisors 128 = .ok (.lstore 7, 2) := by decide +kernel
theorem dX9_layDivisors_130 : decode cX9_layDivisors 130 = .ok (.lload 7, 2) := by decide +kernel
theorem dX9_layDivisors_132 : decode cX9_layDivisors 132 = .ok (.lload_n 3, 1) := by decide +kernel
theorem dX9_layDivisors_133 : decode cX9_layDivisors 133 = .ok (.lcmp, 1) := by decide +kernel
theorem dX9_layDivisors_134 : decode cX9_layDivisors 134 = .ok (.ifCond .gt 56, 3) := by decide +kernel
theorem dX9_layDivisors_137 : decode cX9_layDivisors 137 = .ok (.lload_n 3, 1) := by decide +kernel
theorem dX9_layDivisors_138 : decode cX9_layDivisors 138 = .ok (.lload 7, 2) := by decide +kernel
theorem dX9_layDivisors_140 : decode cX9_layDivisors 140 = .ok (.lrem, 1) := by decide +kernel
theorem dX9_layDivisors_141 : decode cX9_layDivisors 141 = .ok (.lconst 0, 1) := by decide +kernel
theorem dX9_layDivisors_142 : decode cX9_layDivisors 142 = .ok (.lcmp, 1) := by decide +kernel
theorem dX9_layDivisors_143 : decode cX9_layDivisors 143 = .ok (.ifCond .ne 38, 3) := by decide +kernel
theorem dX9_layDivisors_146 : decode cX9_layDivisors 146 = .ok (.aload_n 0, 1) := by decide +kernel
theorem dX9_layDivisors_147 : decode cX9_layDivisors 147 = .ok (.getfield 66, 3) := by decide +kernel
theorem dX9_layDivisors_150 : decode cX9_layDivisors 150 = .ok (.aload_n 0, 1) := by decide +kernel
theorem dX9_layDivisors_151 : decode cX9_layDivisors 151 = .ok (.getfield 221, 3) := by decide +kernel
theorem dX9_layDivisors_154 : decode cX9_layDivisors 154 = .ok (.lload 7, 2) := by decide +kernel
theorem dX9_layDivisors_156 : decode cX9_layDivisors 156 = .ok (.lastore, 1) := by decide +kernel
theorem dX9_layDivisors_157 : decode cX9_layDivisors 157 = .ok (.aload_n 0, 1) := by decide +kernel
theorem dX9_layDivisors_158 : decode cX9_layDivisors 158 = .ok (.getfield 66, 3) := by decide +kernel
theorem dX9_layDivisors_161 : decode cX9_layDivisors 161 = .ok (.aload_n 0, 1) := by decide +kernel
theorem dX9_layDivisors_162 : decode cX9_layDivisors 162 = .ok (.getfield 221, 3) := by decide +kernel
theorem dX9_layDivisors_165 : decode cX9_layDivisors 165 = .ok (.iconst 1, 1) := by decide +kernel
theorem dX9_layDivisors_166 : decode cX9_layDivisors 166 = .ok (.iadd, 1) := by decide +kernel
theorem dX9_layDivisors_167 : decode cX9_layDivisors 167 = .ok (.lload 7, 2) := by decide +kernel
theorem dX9_layDivisors_169 : decode cX9_layDivisors 169 = .ok (.lneg, 1) := by decide +kernel
theorem dX9_layDivisors_170 : decode cX9_layDivisors 170 = .ok (.lastore, 1) := by decide +kernel
theorem dX9_layDivisors_171 : decode cX9_layDivisors 171 = .ok (.aload_n 0, 1) := by decide +kernel
theorem dX9_layDivisors_172 : decode cX9_layDivisors 172 = .ok (.dup, 1) := by decide +kernel
theorem dX9_layDivisors_173 : decode cX9_layDivisors 173 = .ok (.getfield 221, 3) := by decide +kernel
theorem dX9_layDivisors_176 : decode cX9_layDivisors 176 = .ok (.iconst 2, 1) := by decide +kernel
theorem dX9_layDivisors_177 : decode cX9_layDivisors 177 = .ok (.iadd, 1) := by decide +kernel
theorem dX9_layDivisors_178 : decode cX9_layDivisors 178 = .ok (.putfield 221, 3) := by decide +kernel
theorem dX9_layDivisors_181 : decode cX9_layDivisors 181 = .ok (.lload 7, 2) := by decide +kernel
theorem dX9_layDivisors_183 : decode cX9_layDivisors 183 = .ok (.lconst 1, 1) := by decide +kernel
theorem dX9_layDivisors_184 : decode cX9_layDivisors 184 = .ok (.ladd, 1) := by decide +kernel
theorem dX9_layDivisors_185 : decode cX9_layDivisors 185 = .ok (.lstore 7, 2) := by decide +kernel
theorem dX9_layDivisors_187 : decode cX9_layDivisors 187 = .ok (.goto (-57), 3) := by decide +kernel
theorem dX9_layDivisors_190 : decode cX9_layDivisors 190 = .ok (.lconst 1, 1) := by decide +kernel
theorem dX9_layDivisors_191 : decode cX9_layDivisors 191 = .ok (.lstore 7, 2) := by decide +kernel
theorem dX9_layDivisors_193 : decode cX9_layDivisors 193 = .ok (.lload 7, 2) := by decide +kernel
theorem dX9_layDivisors_195 : decode cX9_layDivisors 195 = .ok (.lload 5, 2) := by decide +kernel
theorem dX9_layDivisors_197 : decode cX9_layDivisors 197 = .ok (.lcmp, 1) := by decide +kernel
theorem dX9_layDivisors_198 : decode cX9_layDivisors 198 = .ok (.ifCond .gt 57, 3) := by decide +kernel
theorem dX9_layDivisors_201 : decode cX9_layDivisors 201 = .ok (.lload 5, 2) := by decide +kernel
theorem dX9_layDivisors_203 : decode cX9_layDivisors 203 = .ok (.lload 7, 2) := by decide +kernel
theorem dX9_layDivisors_205 : decode cX9_layDivisors 205 = .ok (.lrem, 1) := by decide +kernel
theorem dX9_layDivisors_206 : decode cX9_layDivisors 206 = .ok (.lconst 0, 1) := by decide +kernel
theorem dX9_layDivisors_207 : decode cX9_layDivisors 207 = .ok (.lcmp, 1) := by decide +kernel
theorem dX9_layDivisors_208 : decode cX9_layDivisors 208 = .ok (.ifCond .ne 38, 3) := by decide +kernel
theorem dX9_layDivisors_211 : decode cX9_layDivisors 211 = .ok (.aload_n 0, 1) := by decide +kernel
theorem dX9_layDivisors_212 : decode cX9_layDivisors 212 = .ok (.getfield 69, 3) := by decide +kernel
theorem dX9_layDivisors_215 : decode cX9_layDivisors 215 = .ok (.aload_n 0, 1) := by decide +kernel
theorem dX9_layDivisors_216 : decode cX9_layDivisors 216 = .ok (.getfield 224, 3) := by decide +kernel
theorem dX9_layDivisors_219 : decode cX9_layDivisors 219 = .ok (.lload 7, 2) := by decide +kernel
theorem dX9_layDivisors_221 : decode cX9_layDivisors 221 = .ok (.lastore, 1) := by decide +kernel
theorem dX9_layDivisors_222 : decode cX9_layDivisors 222 = .ok (.aload_n 0, 1) := by decide +kernel
theorem dX9_layDivisors_223 : decode cX9_layDivisors 223 = .ok (.getfield 69, 3) := by decide +kernel
theorem dX9_layDivisors_226 : decode cX9_layDivisors 226 = .ok (.aload_n 0, 1) := by decide +kernel
theorem dX9_layDivisors_227 : decode cX9_layDivisors 227 = .ok (.getfield 224, 3) := by decide +kernel
theorem dX9_layDivisors_230 : decode cX9_layDivisors 230 = .ok (.iconst 1, 1) := by decide +kernel
theorem dX9_layDivisors_231 : decode cX9_layDivisors 231 = .ok (.iadd, 1) := by decide +kernel
theorem dX9_layDivisors_232 : decode cX9_layDivisors 232 = .ok (.lload 7, 2) := by decide +kernel
theorem dX9_layDivisors_234 : decode cX9_layDivisors 234 = .ok (.lneg, 1) := by decide +kernel
theorem dX9_layDivisors_235 : decode cX9_layDivisors 235 = .ok (.lastore, 1) := by decide +kernel
theorem dX9_layDivisors_236 : decode cX9_layDivisors 236 = .ok (.aload_n 0, 1) := by decide +kernel
theorem dX9_layDivisors_237 : decode cX9_layDivisors 237 = .ok (.dup, 1) := by decide +kernel
theorem dX9_layDivisors_238 : decode cX9_layDivisors 238 = .ok (.getfield 224, 3) := by decide +kernel
theorem dX9_layDivisors_241 : decode cX9_layDivisors 241 = .ok (.iconst 2, 1) := by decide +kernel
theorem dX9_layDivisors_242 : decode cX9_layDivisors 242 = .ok (.iadd, 1) := by decide +kernel
theorem dX9_layDivisors_243 : decode cX9_layDivisors 243 = .ok (.putfield 224, 3) := by decide +kernel
theorem dX9_layDivisors_246 : decode cX9_layDivisors 246 = .ok (.lload 7, 2) := by decide +kernel
theorem dX9_layDivisors_248 : decode cX9_layDivisors 248 = .ok (.lconst 1, 1) := by decide +kernel
theorem dX9_layDivisors_249 : decode cX9_layDivisors 249 = .ok (.ladd, 1) := by decide +kernel
theorem dX9_layDivisors_250 : decode cX9_layDivisors 250 = .ok (.lstore 7, 2) := by decide +kernel
theorem dX9_layDivisors_252 : decode cX9_layDivisors 252 = .ok (.goto (-59), 3) := by decide +kernel
theorem dX9_layDivisors_255 : decode cX9_layDivisors 255 = .ok (.return_, 1) := by decide +kernel
theorem dX9_findBow_0 : decode cX9_findBow 0 = .ok (.aload_n 0, 1) := by decide +kernel
theorem dX9_findBow_1 : decode cX9_findBow 1 = .ok (.getfield 185, 3) := by decide +kernel
theorem dX9_findBow_4 : decode cX9_findBow 4 = .ok (.iconst 4, 1) := by decide +kernel
theorem dX9_findBow_5 : decode cX9_findBow 5 = .ok (.if_icmp .ge 5, 3) := by decide +kernel
theorem dX9_findBow_8 : decode cX9_findBow 8 = .ok (.iconst 0, 1) := by decide +kernel
theorem dX9_findBow_9 : decode cX9_findBow 9 = .ok (.ireturn, 1) := by decide +kernel
theorem dX9_findBow_10 : decode cX9_findBow 10 = .ok (.aload_n 0, 1) := by decide +kernel
theorem dX9_findBow_11 : decode cX9_findBow 11 = .ok (.invokevirtual 227, 3) := by decide +kernel
theorem dX9_findBow_14 : decode cX9_findBow 14 = .ok (.iconst 0, 1) := by decide +kernel
theorem dX9_findBow_15 : decode cX9_findBow 15 = .ok (.istore_n 1, 1) := by decide +kernel
theorem dX9_findBow_16 : decode cX9_findBow 16 = .ok (.iload_n 1, 1) := by decide +kernel
theorem dX9_findBow_17 : decode cX9_findBow 17 = .ok (.aload_n 0, 1) := by decide +kernel
theorem dX9_findBow_18 : decode cX9_findBow 18 = .ok (.getfield 218, 3) := by decide +kernel
theorem dX9_findBow_21 : decode cX9_findBow 21 = .ok (.if_icmp .ge 146, 3) := by decide +kernel
theorem dX9_findBow_24 : decode cX9_findBow 24 = .ok (.iconst 0, 1) := by decide +kernel
theorem dX9_findBow_25 : decode cX9_findBow 25 = .ok (.istore_n 2, 1) := by decide +kernel
theorem dX9_findBow_26 : decode cX9_findBow 26 = .ok (.iload_n 2, 1) := by decide +kernel
theorem dX9_findBow_27 : decode cX9_findBow 27 = .ok (.aload_n 0, 1) := by decide +kernel
theorem dX9_findBow_28 : decode cX9_findBow 28 = .ok (.getfield 221, 3) := by decide +kernel
theorem dX9_findBow_31 : decode cX9_findBow 31 = .ok (.if_icmp .ge 130, 3) := by decide +kernel
theorem dX9_findBow_34 : decode cX9_findBow 34 = .ok (.iconst 0, 1) := by decide +kernel
theorem dX9_findBow_35 : decode cX9_findBow 35 = .ok (.istore_n 3, 1) := by decide +kernel
theorem dX9_findBow_36 : decode cX9_findBow 36 = .ok (.iload_n 3, 1) := by decide +kernel
theorem dX9_findBow_37 : decode cX9_findBow 37 = .ok (.aload_n 0, 1) := by decide +kernel
theorem dX9_findBow_38 : decode cX9_findBow 38 = .ok (.getfield 224, 3) := by decide +kernel
theorem dX9_findBow_41 : decode cX9_findBow 41 = .ok (.if_icmp .ge 114, 3) := by decide +kernel
theorem dX9_findBow_44 : decode cX9_findBow 44 = .ok (.aload_n 0, 1) := by decide +kernel
theorem dX9_findBow_45 : decode cX9_findBow 45 = .ok (.iconst 2, 1) := by decide +kernel
theorem dX9_findBow_46 : decode cX9_findBow 46 = .ok (.putfield 188, 3) := by decide +kernel
theorem dX9_findBow_49 : decode cX9_findBow 49 = .ok (.aload_n 0, 1) := by decide +kernel
theorem dX9_findBow_50 : decode cX9_findBow 50 = .ok (.getfield 54, 3) := by decide +kernel
theorem dX9_findBow_53 : decode cX9_findBow 53 = .ok (.iconst 2, 1) := by decide +kernel
theorem dX9_findBow_54 : decode cX9_findBow 54 = .ok (.aload_n 0, 1) := by decide +kernel
theorem dX9_findBow_55 : decode cX9_findBow 55 = .ok (.getfield 63, 3) := by decide +kernel
theorem dX9_findBow_58 : decode cX9_findBow 58 = .ok (.iload_n 1, 1) := by decide +kernel
theorem dX9_findBow_59 : decode cX9_findBow 59 = .ok (.laload, 1) := by decide +kernel
theorem dX9_findBow_60 : decode cX9_findBow 60 = .ok (.lastore, 1) := by decide +kernel
theorem dX9_findBow_61 : decode cX9_findBow 61 = .ok (.aload_n 0, 1) := by decide +kernel
theorem dX9_findBow_62 : decode cX9_findBow 62 = .ok (.getfield 54, 3) := by decide +kernel
theorem dX9_findBow_65 : decode cX9_findBow 65 = .ok (.iconst 0, 1) := by decide +kernel
theorem dX9_findBow_66 : decode cX9_findBow 66 = .ok (.aload_n 0, 1) := by decide +kernel
theorem dX9_findBow_67 : decode cX9_findBow 67 = .ok (.getfield 66, 3) := by decide +kernel
theorem dX9_findBow_70 : decode cX9_findBow 70 = .ok (.iload_n 2, 1) := by decide +kernel
theorem dX9_findBow_71 : decode cX9_findBow 71 = .ok (.laload, 1) := by decide +kernel
theorem dX9_findBow_72 : decode cX9_findBow 72 = .ok (.lastore, 1) := by decide +kernel
theorem dX9_findBow_73 : decode cX9_findBow 73 = .ok (.aload_n 0, 1) := by decide +kernel
theorem dX9_findBow_74 : decode cX9_findBow 74 = .ok (.getfield 54, 3) := by decide +kernel
theorem dX9_findBow_77 : decode cX9_findBow 77 = .ok (.iconst 1, 1) := by decide +kernel
theorem dX9_findBow_78 : decode cX9_findBow 78 = .ok (.aload_n 0, 1) := by decide +kernel
theorem dX9_findBow_79 : decode cX9_findBow 79 = .ok (.getfield 69, 3) := by decide +kernel
theorem dX9_findBow_82 : decode cX9_findBow 82 = .ok (.iload_n 3, 1) := by decide +kernel
theorem dX9_findBow_83 : decode cX9_findBow 83 = .ok (.laload, 1) := by decide +kernel
theorem dX9_findBow_84 : decode cX9_findBow 84 = .ok (.aload_n 0, 1) := by decide +kernel
theorem dX9_findBow_85 : decode cX9_findBow 85 = .ok (.getfield 63, 3) := by decide +kernel
theorem dX9_findBow_88 : decode cX9_findBow 88 = .ok (.iload_n 1, 1) := by decide +kernel
theorem dX9_findBow_89 : decode cX9_findBow 89 = .ok (.laload, 1) := by decide +kernel
theorem dX9_findBow_90 : decode cX9_findBow 90 = .ok (.lsub, 1) := by decide +kernel
theorem dX9_findBow_91 : decode cX9_findBow 91 = .ok (.aload_n 0, 1) := by decide +kernel
theorem dX9_findBow_92 : decode cX9_findBow 92 = .ok (.getfield 66, 3) := by decide +kernel
theorem dX9_findBow_95 : decode cX9_findBow 95 = .ok (.iload_n 2, 1) := by decide +kernel
theorem dX9_findBow_96 : decode cX9_findBow 96 = .ok (.laload, 1) := by decide +kernel
theorem dX9_findBow_97 : decode cX9_findBow 97 = .ok (.lsub, 1) := by decide +kernel
theorem dX9_findBow_98 : decode cX9_findBow 98 = .ok (.lastore, 1) := by decide +kernel
theorem dX9_findBow_99 : decode cX9_findBow 99 = .ok (.aload_n 0, 1) := by decide +kernel
theorem dX9_findBow_100 : decode cX9_findBow 100 = .ok (.getfield 54, 3) := by decide +kernel
theorem dX9_findBow_103 : decode cX9_findBow 103 = .ok (.iconst 2, 1) := by decide +kernel
theorem dX9_findBow_104 : decode cX9_findBow 104 = .ok (.laload, 1) := by decide +kernel
theorem dX9_findBow_105 : decode cX9_findBow 105 = .ok (.aload_n 0, 1) := by decide +kernel
theorem dX9_findBow_106 : decode cX9_findBow 106 = .ok (.getfield 54, 3) := by decide +kernel
theorem dX9_findBow_109 : decode cX9_findBow 109 = .ok (.iconst 1, 1) := by decide +kernel
theorem dX9_findBow_110 : decode cX9_findBow 110 = .ok (.laload, 1) := by decide +kernel
theorem dX9_findBow_111 : decode cX9_findBow 111 = .ok (.invokestatic 214, 3) := by decide +kernel
theorem dX9_findBow_114 : decode cX9_findBow 114 = .ok (.aload_n 0, 1) := by decide +kernel
theorem dX9_findBow_115 : decode cX9_findBow 115 = .ok (.getfield 54, 3) := by decide +kernel
theorem dX9_findBow_118 : decode cX9_findBow 118 = .ok (.iconst 0, 1) := by decide +kernel
theorem dX9_findBow_119 : decode cX9_findBow 119 = .ok (.laload, 1) := by decide +kernel
theorem dX9_findBow_120 : decode cX9_findBow 120 = .ok (.invokestatic 214, 3) := by decide +kernel
theorem dX9_findBow_123 : decode cX9_findBow 123 = .ok (.lconst 1, 1) := by decide +kernel
theorem dX9_findBow_124 : decode cX9_findBow 124 = .ok (.lcmp, 1) := by decide +kernel
theorem dX9_findBow_125 : decode cX9_findBow 125 = .ok (.ifCond .ne 7, 3) := by decide +kernel
theorem dX9_findBow_128 : decode cX9_findBow 128 = .ok (.iconst 1, 1) := by decide +kernel
theorem dX9_findBow_129 : decode cX9_findBow 129 = .ok (.goto 4, 3) := by decide +kernel
theorem dX9_findBow_132 : decode cX9_findBow 132 = .ok (.iconst 0, 1) := by decide +kernel
theorem dX9_findBow_133 : decode cX9_findBow 133 = .ok (.istore 4, 2) := by decide +kernel
theorem dX9_findBow_135 : decode cX9_findBow 135 = .ok (.iload 4, 2) := by decide +kernel
theorem dX9_findBow_137 : decode cX9_findBow 137 = .ok (.ifCond .eq 12, 3) := by decide +kernel
theorem dX9_findBow_140 : decode cX9_findBow 140 = .ok (.aload_n 0, 1) := by decide +kernel
theorem dX9_findBow_141 : decode cX9_findBow 141 = .ok (.invokevirtual 207, 3) := by decide +kernel
theorem dX9_findBow_144 : decode cX9_findBow 144 = .ok (.ifCond .eq 5, 3) := by decide +kernel
theorem dX9_findBow_147 : decode cX9_findBow 147 = .ok (.iconst 1, 1) := by decide +kernel
theorem dX9_findBow_148 : decode cX9_findBow 148 = .ok (.ireturn, 1) := by decide +kernel
theorem dX9_findBow_149 : decode cX9_findBow 149 = .ok (.iinc 3 1, 3) := by decide +kernel
theorem dX9_findBow_152 : decode cX9_findBow 152 = .ok (.goto (-116), 3) := by decide +kernel
theorem dX9_findBow_155 : decode cX9_findBow 155 = .ok (.iinc 2 1, 3) := by decide +kernel
theorem dX9_findBow_158 : decode cX9_findBow 158 = .ok (.goto (-132), 3) := by decide +kernel
theorem dX9_findBow_161 : decode cX9_findBow 161 = .ok (.iinc 1 1, 3) := by decide +kernel
theorem dX9_findBow_164 : decode cX9_findBow 164 = .ok (.goto (-148), 3) := by decide +kernel
theorem dX9_findBow_167 : decode cX9_findBow 167 = .ok (.iconst 0, 1) := by decide +kernel
theorem dX9_findBow_168 : decode cX9_findBow 168 = .ok (.ireturn, 1) := by decide +kernel
theorem dX9_layContent_0 : decode cX9_layContent 0 = .ok (.aload_n 0, 1) := by decide +kernel
theorem dX9_layContent_1 : decode cX9_layContent 1 = .ok (.lconst 0, 1) := by decide +kernel
theorem dX9_layContent_2 : decode cX9_layContent 2 = .ok (.putfield 230, 3) := by decide +kernel
theorem dX9_layContent_5 : decode cX9_layContent 5 = .ok (.iconst 0, 1) := by decide +kernel
theorem dX9_layContent_6 : decode cX9_layContent 6 = .ok (.istore_n 1, 1) := by decide +kernel
theorem dX9_layContent_7 : decode cX9_layContent 7 = .ok (.iload_n 1, 1) := by decide +kernel
theorem dX9_layContent_8 : decode cX9_layContent 8 = .ok (.bipush 6, 2) := by decide +kernel
theorem dX9_layContent_10 : decode cX9_layContent 10 = .ok (.if_icmp .ge 26, 3) := by decide +kernel
theorem dX9_layContent_13 : decode cX9_layContent 13 = .ok (.aload_n 0, 1) := by decide +kernel
theorem dX9_layContent_14 : decode cX9_layContent 14 = .ok (.aload_n 0, 1) := by decide +kernel
theorem dX9_layContent_15 : decode cX9_layContent 15 = .ok (.getfield 230, 3) := by decide +kernel
theorem dX9_layContent_18 : decode cX9_layContent 18 = .ok (.aload_n 0, 1) := by decide +kernel
theorem dX9_layContent_19 : decode cX9_layContent 19 = .ok (.getfield 39, 3) := by decide +kernel
theorem dX9_layContent_22 : decode cX9_layContent 22 = .ok (.iload_n 1, 1) := by decide +kernel
theorem dX9_layContent_23 : decode cX9_layContent 23 = .ok (.laload, 1) := by decide +kernel
theorem dX9_layContent_24 : decode cX9_layContent 24 = .ok (.invokestatic 214, 3) := by decide +kernel
theorem dX9_layContent_27 : decode cX9_layContent 27 = .ok (.putfield 230, 3) := by decide +kernel
theorem dX9_layContent_30 : decode cX9_layContent 30 = .ok (.iinc 1 1, 3) := by decide +kernel
theorem dX9_layContent_33 : decode cX9_layContent 33 = .ok (.goto (-26), 3) := by decide +kernel
theorem dX9_layContent_36 : decode cX9_layContent 36 = .ok (.aload_n 0, 1) := by decide +kernel
theorem dX9_layContent_37 : decode cX9_layContent 37 = .ok (.aload_n 0, 1) := by decide +kernel
theorem dX9_layContent_38 : decode cX9_layContent 38 = .ok (.getfield 39, 3) := by decide +kernel
theorem dX9_layContent_41 : decode cX9_layContent 41 = .ok (.aload_n 0, 1) := by decide +kernel
theorem dX9_layContent_42 : decode cX9_layContent 42 = .ok (.invokevirtual 234, 3) := by decide +kernel
theorem dX9_layContent_45 : decode cX9_layContent 45 = .ok (.laload, 1) := by decide +kernel
theorem dX9_layContent_46 : decode cX9_layContent 46 = .ok (.lconst 0, 1) := by decide +kernel
theorem dX9_layContent_47 : decode cX9_layContent 47 = .ok (.lcmp, 1) := by decide +kernel
theorem dX9_layContent_48 : decode cX9_layContent 48 = .ok (.ifCond .ge 11, 3) := by decide +kernel
theorem dX9_layContent_51 : decode cX9_layContent 51 = .ok (.aload_n 0, 1) := by decide +kernel
theorem dX9_layContent_52 : decode cX9_layContent 52 = .ok (.getfield 230, 3) := by decide +kernel
theorem dX9_layContent_55 : decode cX9_layContent 55 = .ok (.lneg, 1) := by decide +kernel
theorem dX9_layContent_56 : decode cX9_layContent 56 = .ok (.goto 7, 3) := by decide +kernel
theorem dX9_layContent_59 : decode cX9_layContent 59 = .ok (.aload_n 0, 1) := by decide +kernel
theorem dX9_layContent_60 : decode cX9_layContent 60 = .ok (.getfield 230, 3) := by decide +kernel
theorem dX9_layContent_63 : decode cX9_layContent 63 = .ok (.putfield 230, 3) := by decide +kernel
theorem dX9_layContent_66 : decode cX9_layContent 66 = .ok (.return_, 1) := by decide +kernel
theorem dX9_layFactors_0 : decode cX9_layFactors 0 = .ok (.aload_n 0, 1) := by decide +kernel
theorem dX9_layFactors_1 : decode cX9_layFactors 1 = .ok (.getfield 237, 3) := by decide +kernel
theorem dX9_layFactors_4 : decode cX9_layFactors 4 = .ok (.istore_n 1, 1) := by decide +kernel
theorem dX9_layFactors_5 : decode cX9_layFactors 5 = .ok (.iconst 0, 1) := by decide +kernel
theorem dX9_layFactors_6 : decode cX9_layFactors 6 = .ok (.istore_n 2, 1) := by decide +kernel
theorem dX9_layFactors_7 : decode cX9_layFactors 7 = .ok (.iload_n 2, 1) := by decide +kernel
theorem dX9_layFactors_8 : decode cX9_layFactors 8 = .ok (.bipush 6, 2) := by decide +kernel
theorem dX9_layFactors_10 : decode cX9_layFactors 10 = .ok (.if_icmp .ge 35, 3) := by decide +kernel
theorem dX9_layFactors_13 : decode cX9_layFactors 13 = .ok (.iload_n 1, 1) := by decide +kernel
theorem dX9_layFactors_14 : decode cX9_layFactors 14 = .ok (.ifCond .eq 23, 3) := by decide +kernel
theorem dX9_layFactors_17 : decode cX9_layFactors 17 = .ok (.aload_n 0, 1) := by decide +kernel
theorem dX9_layFactors_18 : decode cX9_layFactors 18 = .ok (.getfield 36, 3) := by decide +kernel
theorem dX9_layFactors_21 : decode cX9_layFactors 21 = .ok (.iload_n 2, 1) := by decide +kernel
theorem dX9_layFactors_22 : decode cX9_layFactors 22 = .ok (.laload, 1) := by decide +kernel
theorem dX9_layFactors_23 : decode cX9_layFactors 23 = .ok (.aload_n 0, 1) := by decide +kernel
theorem dX9_layFactors_24 : decode cX9_layFactors 24 = .ok (.getfield 39, 3) := by decide +kernel
theorem dX9_layFactors_27 : decode cX9_layFactors 27 = .ok (.iload_n 2, 1) := by decide +kernel
theorem dX9_layFactors_28 : decode cX9_layFactors 28 = .ok (.laload, 1) := by decide +kernel
theorem dX9_layFactors_29 : decode cX9_layFactors 29 = .ok (.lcmp, 1) := by decide +kernel
theorem dX9_layFactors_30 : decode cX9_layFactors 30 = .ok (.ifCond .ne 7, 3) := by decide +kernel
theorem dX9_layFactors_33 : decode cX9_layFactors 33 = .ok (.iconst 1, 1) := by decide +kernel
theorem dX9_layFactors_34 : decode cX9_layFactors 34 = .ok (.goto 4, 3) := by decide +kernel
theorem dX9_layFactors_37 : decode cX9_layFactors 37 = .ok (.iconst 0, 1) := by decide +kernel
theorem dX9_layFactors_38 : decode cX9_layFactors 38 = .ok (.istore_n 1, 1) := by decide +kernel
theorem dX9_layFactors_39 : decode cX9_layFactors 39 = .ok (.iinc 2 1, 3) := by decide +kernel
theorem dX9_layFactors_42 : decode cX9_layFactors 42 = .ok (.goto (-35), 3) := by decide +kernel
theorem dX9_layFactors_45 : decode cX9_layFactors 45 = .ok (.iload_n 1, 1) := by decide +kernel
theorem dX9_layFactors_46 : decode cX9_layFactors 46 = .ok (.ifCond .eq 4, 3) := by decide +kernel
theorem dX9_layFactors_49 : decode cX9_layFactors 49 = .ok (.return_, 1) := by decide +kernel
theorem dX9_layFactors_50 : decode cX9_layFactors 50 = .ok (.aload_n 0, 1) := by decide +kernel
theorem dX9_layFactors_51 : decode cX9_layFactors 51 = .ok (.iconst 1, 1) := by decide +kernel
theorem dX9_layFactors_52 : decode cX9_layFactors 52 = .ok (.putfield 237, 3) := by decide +kernel
theorem dX9_layFactors_55 : decode cX9_layFactors 55 = .ok (.aload_n 0, 1) := by decide +kernel
theorem dX9_layFactors_56 : decode cX9_layFactors 56 = .ok (.invokevirtual 240, 3) := by decide +kernel
theorem dX9_layFactors_59 : decode cX9_layFactors 59 = .ok (.aload_n 0, 1) := by decide +kernel
theorem dX9_layFactors_60 : decode cX9_layFactors 60 = .ok (.iconst 0, 1) := by decide +kernel
theorem dX9_layFactors_61 : decode cX9_layFactors 61 = .ok (.putfield 191, 3) := by decide +kernel
theorem dX9_layFactors_64 : decode cX9_layFactors 64 = .ok (.aload_n 0, 1) := by decide +kernel
theorem dX9_layFactors_65 : decode cX9_layFactors 65 = .ok (.aload_n 0, 1) := by decide +kernel
theorem dX9_layFactors_66 : decode cX9_layFactors 66 = .ok (.invokevirtual 234, 3) := by decide +kernel
theorem dX9_layFactors_69 : decode cX9_layFactors 69 = .ok (.putfield 185, 3) := by decide +kernel
theorem dX9_layFactors_72 : decode cX9_layFactors 72 = .ok (.iconst 0, 1) := by decide +kernel
theorem dX9_layFactors_73 : decode cX9_layFactors 73 = .ok (.istore_n 2, 1) := by decide +kernel
theorem dX9_layFactors_74 : decode cX9_layFactors 74 = .ok (.iload_n 2, 1) := by decide +kernel
theorem dX9_layFactors_75 : decode cX9_layFactors 75 = .ok (.bipush 6, 2) := by decide +kernel
theorem dX9_layFactors_77 : decode cX9_layFactors 77 = .ok (.if_icmp .ge 38, 3) := by decide +kernel
theorem dX9_layFactors_80 : decode cX9_layFactors 80 = .ok (.aload_n 0, 1) := by decide +kernel
theorem dX9_layFactors_81 : decode cX9_layFactors 81 = .ok (.getfield 36, 3) := by decide +kernel
theorem dX9_layFactors_84 : decode cX9_layFactors 84 = .ok (.iload_n 2, 1) := by decide +kernel
theorem dX9_layFactors_85 : decode cX9_layFactors 85 = .ok (.aload_n 0, 1) := by decide +kernel
theorem dX9_layFactors_86 : decode cX9_layFactors 86 = .ok (.getfield 39, 3) := by decide +kernel
theorem dX9_layFactors_89 : decode cX9_layFactors 89 = .ok (.iload_n 2, 1) := by decide +kernel
theorem dX9_layFactors_90 : decode cX9_layFactors 90 = .ok (.laload, 1) := by decide +kernel
theorem dX9_layFactors_91 : decode cX9_layFactors 91 = .ok (.lastore, 1) := by decide +kernel
theorem dX9_layFactors_92 : decode cX9_layFactors 92 = .ok (.aload_n 0, 1) := by decide +kernel
theorem dX9_layFactors_93 : decode cX9_layFactors 93 = .ok (.getfield 51, 3) := by decide +kernel
theorem dX9_layFactors_96 : decode cX9_layFactors 96 = .ok (.iload_n 2, 1) := by decide +kernel
theorem dX9_layFactors_97 : decode cX9_layFactors 97 = .ok (.aload_n 0, 1) := by decide +kernel
theorem dX9_layFactors_98 : decode cX9_layFactors 98 = .ok (.getfield 39, 3) := by decide +kernel
theorem dX9_layFactors_101 : decode cX9_layFactors 101 = .ok (.iload_n 2, 1) := by decide +kernel
theorem dX9_layFactors_102 : decode cX9_layFactors 102 = .ok (.laload, 1) := by decide +kernel
theorem dX9_layFactors_103 : decode cX9_layFactors 103 = .ok (.aload_n 0, 1) := by decide +kernel
theorem dX9_layFactors_104 : decode cX9_layFactors 104 = .ok (.getfield 230, 3) := by decide +kernel
theorem dX9_layFactors_107 : decode cX9_layFactors 107 = .ok (.ldiv, 1) := by decide +kernel
theorem dX9_layFactors_108 : decode cX9_layFactors 108 = .ok (.lastore, 1) := by decide +kernel
theorem dX9_layFactors_109 : decode cX9_layFactors 109 = .ok (.iinc 2 1, 3) := by decide +kernel
theorem dX9_layFactors_112 : decode cX9_layFactors 112 = .ok (.goto (-38), 3) := by decide +kernel
theorem dX9_layFactors_115 : decode cX9_layFactors 115 = .ok (.iconst 1, 1) := by decide +kernel
theorem dX9_layFactors_116 : decode cX9_layFactors 116 = .ok (.istore_n 2, 1) := by decide +kernel
theorem dX9_layFactors_117 : decode cX9_layFactors 117 = .ok (.iload_n 2, 1) := by decide +kernel
theorem dX9_layFactors_118 : decode cX9_layFactors 118 = .ok (.ifCond .eq 11, 3) := by decide +kernel
theorem dX9_layFactors_121 : decode cX9_layFactors 121 = .ok (.aload_n 0, 1) := by decide +kernel
theorem dX9_layFactors_122 : decode cX9_layFactors 122 = .ok (.invokevirtual 243, 3) := by decide +kernel
theorem dX9_layFactors_125 : decode cX9_layFactors 125 = .ok (.istore_n 2, 1) := by decide +kernel
theorem dX9_layFactors_126 : decode cX9_layFactors 126 = .ok (.goto (-9), 3) := by decide +kernel
theorem dX9_layFactors_129 : decode cX9_layFactors 129 = .ok (.iconst 1, 1) := by decide +kernel
theorem dX9_layFactors_130 : decode cX9_layFactors 130 = .ok (.istore_n 2, 1) := by decide +kernel
theorem dX9_layFactors_131 : decode cX9_layFactors 131 = .ok (.iload_n 2, 1) := by decide +kernel
theorem dX9_layFactors_132 : decode cX9_layFactors 132 = .ok (.ifCond .eq 11, 3) := by decide +kernel
theorem dX9_layFactors_135 : decode cX9_layFactors 135 = .ok (.aload_n 0, 1) := by decide +kernel
theorem dX9_layFactors_136 : decode cX9_layFactors 136 = .ok (.invokevirtual 246, 3) := by decide +kernel
theorem dX9_layFactors_139 : decode cX9_layFactors 139 = .ok (.istore_n 2, 1) := by decide +kernel
theorem dX9_layFactors_140 : decode cX9_layFactors 140 = .ok (.goto (-9), 3) := by decide +kernel
theorem dX9_layFactors_143 : decode cX9_layFactors 143 = .ok (.aload_n 0, 1) := by decide +kernel
theorem dX9_layFactors_144 : decode cX9_layFactors 144 = .ok (.getfield 185, 3) := by decide +kernel
theorem dX9_layFactors_147 : decode cX9_layFactors 147 = .ok (.ifCond .le 41, 3) := by decide +kernel
theorem dX9_layFactors_150 : decode cX9_layFactors 150 = .ok (.aload_n 0, 1) := by decide +kernel
theorem dX9_layFactors_151 : decode cX9_layFactors 151 = .ok (.aload_n 0, 1) := by decide +kernel
theorem dX9_layFactors_152 : decode cX9_layFactors 152 = .ok (.getfield 185, 3) := by decide +kernel
theorem dX9_layFactors_155 : decode cX9_layFactors 155 = .ok (.putfield 188, 3) := by decide +kernel
theorem dX9_layFactors_158 : decode cX9_layFactors 158 = .ok (.iconst 0, 1) := by decide +kernel
theorem dX9_layFactors_159 : decode cX9_layFactors 159 = .ok (.istore_n 3, 1) := by decide +kernel
theorem dX9_layFactors_160 : decode cX9_layFactors 160 = .ok (.iload_n 3, 1) := by decide +kernel
theorem dX9_layFactors_161 : decode cX9_layFactors 161 = .ok (.bipush 6, 2) := by decide +kernel
theorem dX9_layFactors_163 : decode cX9_layFactors 163 = .ok (.if_icmp .ge 21, 3) := by decide +kernel
theorem dX9_layFactors_166 : decode cX9_layFactors 166 = .ok (.aload_n 0, 1) := by decide +kernel
theorem dX9_layFactors_167 : decode cX9_layFactors 167 = .ok (.getfield 54, 3) := by decide +kernel
theorem dX9_layFactors_170 : decode cX9_layFactors 170 = .ok (.iload_n 3, 1) := by decide +kernel
theorem dX9_layFactors_171 : decode cX9_layFactors 171 = .ok (.aload_n 0, 1) := by decide +kernel
theorem dX9_layFactors_172 : decode cX9_layFactors 172 = .ok (.getfield 51, 3) := by decide +kernel
theorem dX9_layFactors_175 : decode cX9_layFactors 175 = .ok (.iload_n 3, 1) := by decide +kernel
theorem dX9_layFactors_176 : decode cX9_layFactors 176 = .ok (.laload, 1) := by decide +kernel
theorem dX9_layFactors_177 : decode cX9_layFactors 177 = .ok (.lastore, 1) := by decide +kernel
theorem dX9_layFactors_178 : decode cX9_layFactors 178 = .ok (.iinc 3 1, 3) := by decide +kernel
theorem dX9_layFactors_181 : decode cX9_layFactors 181 = .ok (.goto (-21), 3) := by decide +kernel
theorem dX9_layFactors_184 : decode cX9_layFactors 184 = .ok (.aload_n 0, 1) := by decide +kernel
theorem dX9_layFactors_185 : decode cX9_layFactors 185 = .ok (.invokevirtual 201, 3) := by decide +kernel
theorem dX9_layFactors_188 : decode cX9_layFactors 188 = .ok (.return_, 1) := by decide +kernel
theorem dX9_laySlot_0 : decode cX9_laySlot 0 = .ok (.iconst 0, 1) := by decide +kernel
theorem dX9_laySlot_1 : decode cX9_laySlot 1 = .ok (.istore_n 2, 1) := by decide +kernel
theorem dX9_laySlot_2 : decode cX9_laySlot 2 = .ok (.iload_n 2, 1) := by decide +kernel
theorem dX9_laySlot_3 : decode cX9_laySlot 3 = .ok (.bipush 6, 2) := by decide +kernel
theorem dX9_laySlot_5 : decode cX9_laySlot 5 = .ok (.if_icmp .ge 26, 3) := by decide +kernel
theorem dX9_laySlot_8 : decode cX9_laySlot 8 = .ok (.aload_n 0, 1) := by decide +kernel
theorem dX9_laySlot_9 : decode cX9_laySlot 9 = .ok (.getfield 39, 3) := by decide +kernel
theorem dX9_laySlot_12 : decode cX9_laySlot 12 = .ok (.iload_n 2, 1) := by decide +kernel
theorem dX9_laySlot_13 : decode cX9_laySlot 13 = .ok (.aload_n 0, 1) := by decide +kernel
theorem dX9_laySlot_14 : decode cX9_laySlot 14 = .ok (.getfield 13, 3) := by decide +kernel
theorem dX9_laySlot_17 : decode cX9_laySlot 17 = .ok (.bipush 6, 2) := by decide +kernel
theorem dX9_laySlot_19 : decode cX9_laySlot 19 = .ok (.iload_n 1, 1) := by decide +kernel
theorem dX9_laySlot_20 : decode cX9_laySlot 20 = .ok (.imul, 1) := by decide +kernel
theorem dX9_laySlot_21 : decode cX9_laySlot 21 = .ok (.iload_n 2, 1) := by decide +kernel
theorem dX9_laySlot_22 : decode cX9_laySlot 22 = .ok (.iadd, 1) := by decide +kernel
theorem dX9_laySlot_23 : decode cX9_laySlot 23 = .ok (.laload, 1) := by decide +kernel
theorem dX9_laySlot_24 : decode cX9_laySlot 24 = .ok (.lastore, 1) := by decide +kernel
theorem dX9_laySlot_25 : decode cX9_laySlot 25 = .ok (.iinc 2 1, 3) := by decide +kernel
theorem dX9_laySlot_28 : decode cX9_laySlot 28 = .ok (.goto (-26), 3) := by decide +kernel
theorem dX9_laySlot_31 : decode cX9_laySlot 31 = .ok (.return_, 1) := by decide +kernel
theorem dX9_allFactors_0 : decode cX9_allFactors 0 = .ok (.iconst 0, 1) := by decide +kernel
theorem dX9_allFactors_1 : decode cX9_allFactors 1 = .ok (.istore_n 1, 1) := by decide +kernel
theorem dX9_allFactors_2 : decode cX9_allFactors 2 = .ok (.iconst 0, 1) := by decide +kernel
theorem dX9_allFactors_3 : decode cX9_allFactors 3 = .ok (.istore_n 2, 1) := by decide +kernel
theorem dX9_allFactors_4 : decode cX9_allFactors 4 = .ok (.iload_n 2, 1) := by decide +kernel
theorem dX9_allFactors_5 : decode cX9_allFactors 5 = .ok (.aload_n 0, 1) := by decide +kernel
theorem dX9_allFactors_6 : decode cX9_allFactors 6 = .ok (.getfield 191, 3) := by decide +kernel
theorem dX9_allFactors_9 : decode cX9_allFactors 9 = .ok (.if_icmp .ge 18, 3) := by decide +kernel
theorem dX9_allFactors_12 : decode cX9_allFactors 12 = .ok (.iload_n 1, 1) := by decide +kernel
theorem dX9_allFactors_13 : decode cX9_allFactors 13 = .ok (.aload_n 0, 1) := by decide +kernel
theorem dX9_allFactors_14 : decode cX9_allFactors 14 = .ok (.getfield 45, 3) := by decide +kernel
theorem dX9_allFactors_17 : decode cX9_allFactors 17 = .ok (.iload_n 2, 1) := by decide +kernel
theorem dX9_allFactors_18 : decode cX9_allFactors 18 = .ok (.iaload, 1) := by decide +kernel
theorem dX9_allFactors_19 : decode cX9_allFactors 19 = .ok (.iadd, 1) := by decide +kernel
theorem dX9_allFactors_20 : decode cX9_allFactors 20 = .ok (.istore_n 1, 1) := by decide +kernel
theorem dX9_allFactors_21 : decode cX9_allFactors 21 = .ok (.iinc 2 1, 3) := by decide +kernel
theorem dX9_allFactors_24 : decode cX9_allFactors 24 = .ok (.goto (-20), 3) := by decide +kernel
theorem dX9_allFactors_27 : decode cX9_allFactors 27 = .ok (.iload_n 1, 1) := by decide +kernel
theorem dX9_allFactors_28 : decode cX9_allFactors 28 = .ok (.ireturn, 1) := by decide +kernel
theorem dX9_timesFactor_0 : decode cX9_timesFactor 0 = .ok (.iconst 0, 1) := by decide +kernel
theorem dX9_timesFactor_1 : decode cX9_timesFactor 1 = .ok (.istore_n 2, 1) := by decide +kernel
theorem dX9_timesFactor_2 : decode cX9_timesFactor 2 = .ok (.iload_n 2, 1) := by decide +kernel
theorem dX9_timesFactor_3 : decode cX9_timesFactor 3 = .ok (.bipush 12, 2) := by decide +kernel
theorem dX9_timesFactor_5 : decode cX9_timesFactor 5 = .ok (.if_icmp .ge 16, 3) := by decide +kernel
theorem dX9_timesFactor_8 : decode cX9_timesFactor 8 = .ok (.aload_n 0, 1) := by decide +kernel
theorem dX9_timesFactor_9 : decode cX9_timesFactor 9 = .ok (.getfield 72, 3) := by decide +kernel
theorem dX9_timesFactor_12 : decode cX9_timesFactor 12 = .ok (.iload_n 2, 1) := by decide +kernel
theorem dX9_timesFactor_13 : decode cX9_timesFactor 13 = .ok (.lconst 0, 1) := by decide +kernel
theorem dX9_timesFactor_14 : decode cX9_timesFactor 14 = .ok (.lastore, 1) := by decide +kernel
theorem dX9_timesFactor_15 : decode cX9_timesFactor 15 = .ok (.iinc 2 1, 3) := by decide +kernel
theorem dX9_timesFactor_18 : decode cX9_timesFactor 18 = .ok (.goto (-16), 3) := by decide +kernel
theorem dX9_timesFactor_21 : decode cX9_timesFactor 21 = .ok (.iconst 0, 1) := by decide +kernel
theorem dX9_timesFactor_22 : decode cX9_timesFactor 22 = .ok (.istore_n 2, 1) := by decide +kernel
theorem dX9_timesFactor_23 : decode cX9_timesFactor 23 = .ok (.iload_n 2, 1) := by decide +kernel
theorem dX9_timesFactor_24 : decode cX9_timesFactor 24 = .ok (.bipush 6, 2) := by decide +kernel
theorem dX9_timesFactor_26 : decode cX9_timesFactor 26 = .ok (.if_icmp .ge 52, 3) := by decide +kernel
theorem dX9_timesFactor_29 : decode cX9_timesFactor 29 = .ok (.iconst 0, 1) := by decide +kernel
theorem dX9_timesFactor_30 : decode cX9_timesFactor 30 = .ok (.istore_n 3, 1) := by decide +kernel
theorem dX9_timesFactor_31 : decode cX9_timesFactor 31 = .ok (.iload_n 3, 1) := by decide +kernel
theorem dX9_timesFactor_32 : decode cX9_timesFactor 32 = .ok (.bipush 6, 2) := by decide +kernel
theorem dX9_timesFactor_34 : decode cX9_timesFactor 34 = .ok (.if_icmp .ge 38, 3) := by decide +kernel
theorem dX9_timesFactor_37 : decode cX9_timesFactor 37 = .ok (.aload_n 0, 1) := by decide +kernel
theorem dX9_timesFactor_38 : decode cX9_timesFactor 38 = .ok (.getfield 72, 3) := by decide +kernel
theorem dX9_timesFactor_41 : decode cX9_timesFactor 41 = .ok (.iload_n 2, 1) := by decide +kernel
theorem dX9_timesFactor_42 : decode cX9_timesFactor 42 = .ok (.iload_n 3, 1) := by decide +kernel
theorem dX9_timesFactor_43 : decode cX9_timesFactor 43 = .ok (.iadd, 1) := by decide +kernel
theorem dX9_timesFactor_44 : decode cX9_timesFactor 44 = .ok (.dup2, 1) := by decide +kernel
theorem dX9_timesFactor_45 : decode cX9_timesFactor 45 = .ok (.laload, 1) := by decide +kernel
theorem dX9_timesFactor_46 : decode cX9_timesFactor 46 = .ok (.aload_n 0, 1) := by decide +kernel
theorem dX9_timesFactor_47 : decode cX9_timesFactor 47 = .ok (.getfield 39, 3) := by decide +kernel
theorem dX9_timesFactor_50 : decode cX9_timesFactor 50 = .ok (.iload_n 2, 1) := by decide +kernel
theorem dX9_timesFactor_51 : decode cX9_timesFactor 51 = .ok (.laload, 1) := by decide +kernel
theorem dX9_timesFactor_52 : decode cX9_timesFactor 52 = .ok (.aload_n 0, 1) := by decide +kernel
theorem dX9_timesFactor_53 : decode cX9_timesFactor 53 = .ok (.getfield 42, 3) := by decide +kernel
theorem dX9_timesFactor_56 : decode cX9_timesFactor 56 = .ok (.bipush 6, 2) := by decide +kernel
theorem dX9_timesFactor_58 : decode cX9_timesFactor 58 = .ok (.iload_n 1, 1) := by decide +kernel
theorem dX9_timesFactor_59 : decode cX9_timesFactor 59 = .ok (.imul, 1) := by decide +kernel
theorem dX9_timesFactor_60 : decode cX9_timesFactor 60 = .ok (.iload_n 3, 1) := by decide +kernel
theorem dX9_timesFactor_61 : decode cX9_timesFactor 61 = .ok (.iadd, 1) := by decide +kernel
theorem dX9_timesFactor_62 : decode cX9_timesFactor 62 = .ok (.laload, 1) := by decide +kernel
theorem dX9_timesFactor_63 : decode cX9_timesFactor 63 = .ok (.lmul, 1) := by decide +kernel
theorem dX9_timesFactor_64 : decode cX9_timesFactor 64 = .ok (.ladd, 1) := by decide +kernel
theorem dX9_timesFactor_65 : decode cX9_timesFactor 65 = .ok (.lastore, 1) := by decide +kernel
theorem dX9_timesFactor_66 : decode cX9_timesFactor 66 = .ok (.iinc 3 1, 3) := by decide +kernel
theorem dX9_timesFactor_69 : decode cX9_timesFactor 69 = .ok (.goto (-38), 3) := by decide +kernel
theorem dX9_timesFactor_72 : decode cX9_timesFactor 72 = .ok (.iinc 2 1, 3) := by decide +kernel
theorem dX9_timesFactor_75 : decode cX9_timesFactor 75 = .ok (.goto (-52), 3) := by decide +kernel
theorem dX9_timesFactor_78 : decode cX9_timesFactor 78 = .ok (.iconst 0, 1) := by decide +kernel
theorem dX9_timesFactor_79 : decode cX9_timesFactor 79 = .ok (.istore_n 2, 1) := by decide +kernel
theorem dX9_timesFactor_80 : decode cX9_timesFactor 80 = .ok (.iload_n 2, 1) := by decide +kernel
theorem dX9_timesFactor_81 : decode cX9_timesFactor 81 = .ok (.bipush 6, 2) := by decide +kernel
theorem dX9_timesFactor_83 : decode cX9_timesFactor 83 = .ok (.if_icmp .ge 21, 3) := by decide +kernel
theorem dX9_timesFactor_86 : decode cX9_timesFactor 86 = .ok (.aload_n 0, 1) := by decide +kernel
theorem dX9_timesFactor_87 : decode cX9_timesFactor 87 = .ok (.getfield 39, 3) := by decide +kernel
theorem dX9_timesFactor_90 : decode cX9_timesFactor 90 = .ok (.iload_n 2, 1) := by decide +kernel
theorem dX9_timesFactor_91 : decode cX9_timesFactor 91 = .ok (.aload_n 0, 1) := by decide +kernel
theorem dX9_timesFactor_92 : decode cX9_timesFactor 92 = .ok (.getfield 72, 3) := by decide +kernel
theorem dX9_timesFactor_95 : decode cX9_timesFactor 95 = .ok (.iload_n 2, 1) := by decide +kernel
theorem dX9_timesFactor_96 : decode cX9_timesFactor 96 = .ok (.laload, 1) := by decide +kernel
theorem dX9_timesFactor_97 : decode cX9_timesFactor 97 = .ok (.lastore, 1) := by decide +kernel
theorem dX9_timesFactor_98 : decode cX9_timesFactor 98 = .ok (.iinc 2 1, 3) := by decide +kernel
theorem dX9_timesFactor_101 : decode cX9_timesFactor 101 = .ok (.goto (-21), 3) := by decide +kernel
theorem dX9_timesFactor_104 : decode cX9_timesFactor 104 = .ok (.return_, 1) := by decide +kernel
theorem dX9_become_0 : decode cX9_become 0 = .ok (.iconst 0, 1) := by decide +kernel
theorem dX9_become_1 : decode cX9_become 1 = .ok (.istore_n 3, 1) := by decide +kernel
theorem dX9_become_2 : decode cX9_become 2 = .ok (.iload_n 3, 1) := by decide +kernel
theorem dX9_become_3 : decode cX9_become 3 = .ok (.bipush 6, 2) := by decide +kernel
theorem dX9_become_5 : decode cX9_become 5 = .ok (.if_icmp .ge 24, 3) := by decide +kernel
theorem dX9_become_8 : decode cX9_become 8 = .ok (.aload_n 0, 1) := by decide +kernel
theorem dX9_become_9 : decode cX9_become 9 = .ok (.getfield 39, 3) := by decide +kernel
theorem dX9_become_12 : decode cX9_become 12 = .ok (.iload_n 3, 1) := by decide +kernel
theorem dX9_become_13 : decode cX9_become 13 = .ok (.iload_n 3, 1) := by decide +kernel
theorem dX9_become_14 : decode cX9_become 14 = .ok (.ifCond .ne 7, 3) := by decide +kernel
theorem dX9_become_17 : decode cX9_become 17 = .ok (.lload_n 1, 1) := by decide +kernel
theorem dX9_become_18 : decode cX9_become 18 = .ok (.goto 4, 3) := by decide +kernel
theorem dX9_become_21 : decode cX9_become 21 = .ok (.lconst 0, 1) := by decide +kernel
theorem dX9_become_22 : decode cX9_become 22 = .ok (.lastore, 1) := by decide +kernel
theorem dX9_become_23 : decode cX9_become 23 = .ok (.iinc 3 1, 3) := by decide +kernel
theorem dX9_become_26 : decode cX9_become 26 = .ok (.goto (-24), 3) := by decide +kernel
theorem dX9_become_29 : decode cX9_become 29 = .ok (.return_, 1) := by decide +kernel
theorem dX9_makeFree_0 : decode cX9_makeFree 0 = .ok (.aload_n 0, 1) := by decide +kernel
theorem dX9_makeFree_1 : decode cX9_makeFree 1 = .ok (.invokevirtual 249, 3) := by decide +kernel
theorem dX9_makeFree_4 : decode cX9_makeFree 4 = .ok (.aload_n 0, 1) := by decide +kernel
theorem dX9_makeFree_5 : decode cX9_makeFree 5 = .ok (.lconst 1, 1) := by decide +kernel
theorem dX9_makeFree_6 : decode cX9_makeFree 6 = .ok (.invokevirtual 252, 3) := by decide +kernel
theorem dX9_makeFree_9 : decode cX9_makeFree 9 = .ok (.iconst 0, 1) := by decide +kernel
theorem dX9_makeFree_10 : decode cX9_makeFree 10 = .ok (.istore_n 1, 1) := by decide +kernel
theorem dX9_makeFree_11 : decode cX9_makeFree 11 = .ok (.iload_n 1, 1) := by decide +kernel
theorem dX9_makeFree_12 : decode cX9_makeFree 12 = .ok (.aload_n 0, 1) := by decide +kernel
theorem dX9_makeFree_13 : decode cX9_makeFree 13 = .ok (.getfield 191, 3) := by decide +kernel
theorem dX9_makeFree_16 : decode cX9_makeFree 16 = .ok (.if_icmp .ge 14, 3) := by decide +kernel
theorem dX9_makeFree_19 : decode cX9_makeFree 19 = .ok (.aload_n 0, 1) := by decide +kernel
theorem dX9_makeFree_20 : decode cX9_makeFree 20 = .ok (.iload_n 1, 1) := by decide +kernel
theorem dX9_makeFree_21 : decode cX9_makeFree 21 = .ok (.invokevirtual 256, 3) := by decide +kernel
theorem dX9_makeFree_24 : decode cX9_makeFree 24 = .ok (.iinc 1 1, 3) := by decide +kernel
theorem dX9_makeFree_27 : decode cX9_makeFree 27 = .ok (.goto (-16), 3) := by decide +kernel
theorem dX9_makeFree_30 : decode cX9_makeFree 30 = .ok (.return_, 1) := by decide +kernel
theorem dX9_makePure_0 : decode cX9_makePure 0 = .ok (.aload_n 0, 1) := by decide +kernel
theorem dX9_makePure_1 : decode cX9_makePure 1 = .ok (.invokevirtual 240, 3) := by decide +kernel
theorem dX9_makePure_4 : decode cX9_makePure 4 = .ok (.iconst 0, 1) := by decide +kernel
theorem dX9_makePure_5 : decode cX9_makePure 5 = .ok (.istore_n 1, 1) := by decide +kernel
theorem dX9_makePure_6 : decode cX9_makePure 6 = .ok (.iload_n 1, 1) := by decide +kernel
theorem dX9_makePure_7 : decode cX9_makePure 7 = .ok (.bipush 6, 2) := by decide +kernel
theorem dX9_makePure_9 : decode cX9_makePure 9 = .ok (.if_icmp .ge 22, 3) := by decide +kernel
theorem dX9_makePure_12 : decode cX9_makePure 12 = .ok (.aload_n 0, 1) := by decide +kernel
theorem dX9_makePure_13 : decode cX9_makePure 13 = .ok (.getfield 39, 3) := by decide +kernel
theorem dX9_makePure_16 : decode cX9_makePure 16 = .ok (.iload_n 1, 1) := by decide +kernel
theorem dX9_makePure_17 : decode cX9_makePure 17 = .ok (.dup2, 1) := by decide +kernel
theorem dX9_makePure_18 : decode cX9_makePure 18 = .ok (.laload, 1) := by decide +kernel
theorem dX9_makePure_19 : decode cX9_makePure 19 = .ok (.aload_n 0, 1) := by decide +kernel
theorem dX9_makePure_20 : decode cX9_makePure 20 = .ok (.getfield 230, 3) := by decide +kernel
theorem dX9_makePure_23 : decode cX9_makePure 23 = .ok (.ldiv, 1) := by decide +kernel
theorem dX9_makePure_24 : decode cX9_makePure 24 = .ok (.lastore, 1) := by decide +kernel
theorem dX9_makePure_25 : decode cX9_makePure 25 = .ok (.iinc 1 1, 3) := by decide +kernel
theorem dX9_makePure_28 : decode cX9_makePure 28 = .ok (.goto (-22), 3) := by decide +kernel
theorem dX9_makePure_31 : decode cX9_makePure 31 = .ok (.return_, 1) := by decide +kernel
theorem dX9_makeTurned_0 : decode cX9_makeTurned 0 = .ok (.aload_n 0, 1) := by decide +kernel
theorem dX9_makeTurned_1 : decode cX9_makeTurned 1 = .ok (.invokevirtual 234, 3) := by decide +kernel
theorem dX9_makeTurned_4 : decode cX9_makeTurned 4 = .ok (.istore_n 1, 1) := by decide +kernel
theorem dX9_makeTurned_5 : decode cX9_makeTurned 5 = .ok (.iconst 0, 1) := by decide +kernel
theorem dX9_makeTurned_6 : decode cX9_makeTurned 6 = .ok (.istore_n 2, 1) := by decide +kernel
theorem dX9_makeTurned_7 : decode cX9_makeTurned 7 = .ok (.iload_n 2, 1) := by decide +kernel
theorem dX9_makeTurned_8 : decode cX9_makeTurned 8 = .ok (.bipush 6, 2) := by decide +kernel
theorem dX9_makeTurned_10 : decode cX9_makeTurned 10 = .ok (.if_icmp .ge 21, 3) := by decide +kernel
theorem dX9_makeTurned_13 : decode cX9_makeTurned 13 = .ok (.aload_n 0, 1) := by decide +kernel
theorem dX9_makeTurned_14 : decode cX9_makeTurned 14 = .ok (.getfield 60, 3) := by decide +kernel
theorem dX9_makeTurned_17 : decode cX9_makeTurned 17 = .ok (.iload_n 2, 1) := by decide +kernel
theorem dX9_makeTurned_18 : decode cX9_makeTurned 18 = .ok (.aload_n 0, 1) := by decide +kernel
theorem dX9_makeTurned_19 : decode cX9_makeTurned 19 = .ok (.getfield 39, 3) := by decide +kernel
theorem dX9_makeTurned_22 : decode cX9_makeTurned 22 = .ok (.iload_n 2, 1) := by decide +kernel
theorem dX9_makeTurned_23 : decode cX9_makeTurned 23 = .ok (.laload, 1) := by decide +kernel
theorem dX9_makeTurned_24 : decode cX9_makeTurned 24 = .ok (.lastore, 1) := by decide +kernel
theorem dX9_makeTurned_25 : decode cX9_makeTurned 25 = .ok (.iinc 2 1, 3) := by decide +kernel
theorem dX9_makeTurned_28 : decode cX9_makeTurned 28 = .ok (.goto (-21), 3) := by decide +kernel
theorem dX9_makeTurned_31 : decode cX9_makeTurned 31 = .ok (.iconst 0, 1) := by decide +kernel
theorem dX9_makeTurned_32 : decode cX9_makeTurned 32 = .ok (.istore_n 2, 1) := by decide +kernel
theorem dX9_makeTurned_33 : decode cX9_makeTurned 33 = .ok (.iload_n 2, 1) := by decide +kernel
theorem dX9_makeTurned_34 : decode cX9_makeTurned 34 = .ok (.bipush 6, 2) := by decide +kernel
theorem dX9_makeTurned_36 : decode cX9_makeTurned 36 = .ok (.if_icmp .ge 32, 3) := by decide +kernel
theorem dX9_makeTurned_39 : decode cX9_makeTurned 39 = .ok (.aload_n 0, 1) := by decide +kernel
theorem dX9_makeTurned_40 : decode cX9_makeTurned 40 = .ok (.getfield 39, 3) := by decide +kernel
theorem dX9_makeTurned_43 : decode cX9_makeTurned 43 = .ok (.iload_n 2, 1) := by decide +kernel
theorem dX9_makeTurned_44 : decode cX9_makeTurned 44 = .ok (.iload_n 2, 1) := by decide +kernel
theorem dX9_makeTurned_45 : decode cX9_makeTurned 45 = .ok (.iload_n 1, 1) := by decide +kernel
theorem dX9_makeTurned_46 : decode cX9_makeTurned 46 = .ok (.if_icmp .gt 14, 3) := by decide +kernel
theorem dX9_makeTurned_49 : decode cX9_makeTurned 49 = .ok (.aload_n 0, 1) := by decide +kernel
theorem dX9_makeTurned_50 : decode cX9_makeTurned 50 = .ok (.getfield 60, 3) := by decide +kernel
theorem dX9_makeTurned_53 : decode cX9_makeTurned 53 = .ok (.iload_n 1, 1) := by decide +kernel
theorem dX9_makeTurned_54 : decode cX9_makeTurned 54 = .ok (.iload_n 2, 1) := by decide +kernel
theorem dX9_makeTurned_55 : decode cX9_makeTurned 55 = .ok (.isub, 1) := by decide +kernel
theorem dX9_makeTurned_56 : decode cX9_makeTurned 56 = .ok (.laload, 1) := by decide +kernel
theorem dX9_makeTurned_57 : decode cX9_makeTurned 57 = .ok (.goto 4, 3) := by decide +kernel
theorem dX9_makeTurned_60 : decode cX9_makeTurned 60 = .ok (.lconst 0, 1) := by decide +kernel
theorem dX9_makeTurned_61 : decode cX9_makeTurned 61 = .ok (.lastore, 1) := by decide +kernel
theorem dX9_makeTurned_62 : decode cX9_makeTurned 62 = .ok (.iinc 2 1, 3) := by decide +kernel
theorem dX9_makeTurned_65 : decode cX9_makeTurned 65 = .ok (.goto (-32), 3) := by decide +kernel
theorem dX9_makeTurned_68 : decode cX9_makeTurned 68 = .ok (.return_, 1) := by decide +kernel
theorem dX9_makeMirror_0 : decode cX9_makeMirror 0 = .ok (.iconst 1, 1) := by decide +kernel
theorem dX9_makeMirror_1 : decode cX9_makeMirror 1 = .ok (.istore_n 1, 1) := by decide +kernel
theorem dX9_makeMirror_2 : decode cX9_makeMirror 2 = .ok (.iload_n 1, 1) := by decide +kernel
theorem dX9_makeMirror_3 : decode cX9_makeMirror 3 = .ok (.bipush 6, 2) := by decide +kernel
theorem dX9_makeMirror_5 : decode cX9_makeMirror 5 = .ok (.if_icmp .ge 22, 3) := by decide +kernel
theorem dX9_makeMirror_8 : decode cX9_makeMirror 8 = .ok (.aload_n 0, 1) := by decide +kernel
theorem dX9_makeMirror_9 : decode cX9_makeMirror 9 = .ok (.getfield 39, 3) := by decide +kernel
theorem dX9_makeMirror_12 : decode cX9_makeMirror 12 = .ok (.iload_n 1, 1) := by decide +kernel
theorem dX9_makeMirror_13 : decode cX9_makeMirror 13 = .ok (.aload_n 0, 1) := by decide +kernel
theorem dX9_makeMirror_14 : decode cX9_makeMirror 14 = .ok (.getfield 39, 3) := by decide +kernel
theorem dX9_makeMirror_17 : decode cX9_makeMirror 17 = .ok (.iload_n 1, 1) := by decide +kernel
theorem dX9_makeMirror_18 : decode cX9_makeMirror 18 = .ok (.laload, 1) := by decide +kernel
theorem dX9_makeMirror_19 : decode cX9_makeMirror 19 = .ok (.lneg, 1) := by decide +kernel
theorem dX9_makeMirror_20 : decode cX9_makeMirror 20 = .ok (.lastore, 1) := by decide +kernel
theorem dX9_makeMirror_21 : decode cX9_makeMirror 21 = .ok (.iinc 1 2, 3) := by decide +kernel
theorem dX9_makeMirror_24 : decode cX9_makeMirror 24 = .ok (.goto (-22), 3) := by decide +kernel
theorem dX9_makeMirror_27 : decode cX9_makeMirror 27 = .ok (.return_, 1) := by decide +kernel
theorem dX9_makeBy_0 : decode cX9_makeBy 0 = .ok (.iload_n 1, 1) := by decide +kernel
theorem dX9_makeBy_1 : decode cX9_makeBy 1 = .ok (.tableswitch 59 1 4 #[31, 38, 45, 52], 31) := by decide +kernel
theorem dX9_makeBy_32 : decode cX9_makeBy 32 = .ok (.aload_n 0, 1) := by decide +kernel
theorem dX9_makeBy_33 : decode cX9_makeBy 33 = .ok (.invokevirtual 260, 3) := by decide +kernel
theorem dX9_makeBy_36 : decode cX9_makeBy 36 = .ok (.goto 24, 3) := by decide +kernel
theorem dX9_makeBy_39 : decode cX9_makeBy 39 = .ok (.aload_n 0, 1) := by decide +kernel
theorem dX9_makeBy_40 : decode cX9_makeBy 40 = .ok (.invokevirtual 263, 3) := by decide +kernel
theorem dX9_makeBy_43 : decode cX9_makeBy 43 = .ok (.goto 17, 3) := by decide +kernel
theorem dX9_makeBy_46 : decode cX9_makeBy 46 = .ok (.aload_n 0, 1) := by decide +kernel
theorem dX9_makeBy_47 : decode cX9_makeBy 47 = .ok (.invokevirtual 266, 3) := by decide +kernel
theorem dX9_makeBy_50 : decode cX9_makeBy 50 = .ok (.goto 10, 3) := by decide +kernel
theorem dX9_makeBy_53 : decode cX9_makeBy 53 = .ok (.aload_n 0, 1) := by decide +kernel
theorem dX9_makeBy_54 : decode cX9_makeBy 54 = .ok (.invokevirtual 269, 3) := by decide +kernel
theorem dX9_makeBy_57 : decode cX9_makeBy 57 = .ok (.goto 3, 3) := by decide +kernel
theorem dX9_makeBy_60 : decode cX9_makeBy 60 = .ok (.return_, 1) := by decide +kernel
theorem dX9_isGreat_0 : decode cX9_isGreat 0 = .ok (.iconst 0, 1) := by decide +kernel
theorem dX9_isGreat_1 : decode cX9_isGreat 1 = .ok (.istore_n 1, 1) := by decide +kernel
theorem dX9_isGreat_2 : decode cX9_isGreat 2 = .ok (.iconst 0, 1) := by decide +kernel
theorem dX9_isGreat_3 : decode cX9_isGreat 3 = .ok (.istore_n 2, 1) := by decide +kernel
theorem dX9_isGreat_4 : decode cX9_isGreat 4 = .ok (.iload_n 2, 1) := by decide +kernel
theorem dX9_isGreat_5 : decode cX9_isGreat 5 = .ok (.bipush 6, 2) := by decide +kernel
theorem dX9_isGreat_7 : decode cX9_isGreat 7 = .ok (.if_icmp .ge 35, 3) := by decide +kernel
theorem dX9_isGreat_10 : decode cX9_isGreat 10 = .ok (.iload_n 1, 1) := by decide +kernel
theorem dX9_isGreat_11 : decode cX9_isGreat 11 = .ok (.ifCond .ne 19, 3) := by decide +kernel
theorem dX9_isGreat_14 : decode cX9_isGreat 14 = .ok (.aload_n 0, 1) := by decide +kernel
theorem dX9_isGreat_15 : decode cX9_isGreat 15 = .ok (.getfield 39, 3) := by decide +kernel
theorem dX9_isGreat_18 : decode cX9_isGreat 18 = .ok (.iload_n 2, 1) := by decide +kernel
theorem dX9_isGreat_19 : decode cX9_isGreat 19 = .ok (.laload, 1) := by decide +kernel
theorem dX9_isGreat_20 : decode cX9_isGreat 20 = .ok (.invokestatic 108, 3) := by decide +kernel
theorem dX9_isGreat_23 : decode cX9_isGreat 23 = .ok (.ldc2_w 272, 3) := by decide +kernel
theorem dX9_isGreat_26 : decode cX9_isGreat 26 = .ok (.lcmp, 1) := by decide +kernel
theorem dX9_isGreat_27 : decode cX9_isGreat 27 = .ok (.ifCond .le 7, 3) := by decide +kernel
theorem dX9_isGreat_30 : decode cX9_isGreat 30 = .ok (.iconst 1, 1) := by decide +kernel
theorem dX9_isGreat_31 : decode cX9_isGreat 31 = .ok (.goto 4, 3) := by decide +kernel
theorem dX9_isGreat_34 : decode cX9_isGreat 34 = .ok (.iconst 0, 1) := by decide +kernel
theorem dX9_isGreat_35 : decode cX9_isGreat 35 = .ok (.istore_n 1, 1) := by decide +kernel
theorem dX9_isGreat_36 : decode cX9_isGreat 36 = .ok (.iinc 2 1, 3) := by decide +kernel
theorem dX9_isGreat_39 : decode cX9_isGreat 39 = .ok (.goto (-35), 3) := by decide +kernel
theorem dX9_isGreat_42 : decode cX9_isGreat 42 = .ok (.iload_n 1, 1) := by decide +kernel
theorem dX9_isGreat_43 : decode cX9_isGreat 43 = .ok (.ireturn, 1) := by decide +kernel
theorem dX9_keep_0 : decode cX9_keep 0 = .ok (.aload_n 0, 1) := by decide +kernel
theorem dX9_keep_1 : decode cX9_keep 1 = .ok (.invokevirtual 274, 3) := by decide +kernel
theorem dX9_keep_4 : decode cX9_keep 4 = .ok (.ifCond .eq 6, 3) := by decide +kernel
theorem dX9_keep_7 : decode cX9_keep 7 = .ok (.bipush (-104), 2) := by decide +kernel
theorem dX9_keep_9 : decode cX9_keep 9 = .ok (.ireturn, 1) := by decide +kernel
theorem dX9_keep_10 : decode cX9_keep 10 = .ok (.aload_n 0, 1) := by decide +kernel
theorem dX9_keep_11 : decode cX9_keep 11 = .ok (.aload_n 0, 1) := by decide +kernel
theorem dX9_keep_12 : decode cX9_keep 12 = .ok (.getfield 7, 3) := by decide +kernel
theorem dX9_keep_15 : decode cX9_keep 15 = .ok (.iload_n 1, 1) := by decide +kernel
theorem dX9_keep_16 : decode cX9_keep 16 = .ok (.iaload, 1) := by decide +kernel
theorem dX9_keep_17 : decode cX9_keep 17 = .ok (.invokevirtual 277, 3) := by decide +kernel
theorem dX9_keep_20 : decode cX9_keep 20 = .ok (.aload_n 0, 1) := by decide +kernel
theorem dX9_keep_21 : decode cX9_keep 21 = .ok (.invokevirtual 274, 3) := by decide +kernel
theorem dX9_keep_24 : decode cX9_keep 24 = .ok (.ifCond .eq 6, 3) := by decide +kernel
theorem dX9_keep_27 : decode cX9_keep 27 = .ok (.bipush (-104), 2) := by decide +kernel
theorem dX9_keep_29 : decode cX9_keep 29 = .ok (.ireturn, 1) := by decide +kernel
theorem dX9_keep_30 : decode cX9_keep 30 = .ok (.iconst 0, 1) := by decide +kernel
theorem dX9_keep_31 : decode cX9_keep 31 = .ok (.istore_n 2, 1) := by decide +kernel
theorem dX9_keep_32 : decode cX9_keep 32 = .ok (.iload_n 2, 1) := by decide +kernel
theorem dX9_keep_33 : decode cX9_keep 33 = .ok (.bipush 6, 2) := by decide +kernel
theorem dX9_keep_35 : decode cX9_keep 35 = .ok (.if_icmp .ge 26, 3) := by decide +kernel
theorem dX9_keep_38 : decode cX9_keep 38 = .ok (.aload_n 0, 1) := by decide +kernel
theorem dX9_keep_39 : decode cX9_keep 39 = .ok (.getfield 13, 3) := by decide +kernel
theorem dX9_keep_42 : decode cX9_keep 42 = .ok (.bipush 6, 2) := by decide +kernel
theorem dX9_keep_44 : decode cX9_keep 44 = .ok (.iload_n 1, 1) := by decide +kernel
theorem dX9_keep_45 : decode cX9_keep 45 = .ok (.imul, 1) := by decide +kernel
theorem dX9_keep_46 : decode cX9_keep 46 = .ok (.iload_n 2, 1) := by decide +kernel
theorem dX9_keep_47 : decode cX9_keep 47 = .ok (.iadd, 1) := by decide +kernel
theorem dX9_keep_48 : decode cX9_keep 48 = .ok (.aload_n 0, 1) := by decide +kernel
theorem dX9_keep_49 : decode cX9_keep 49 = .ok (.getfield 39, 3) := by decide +kernel
theorem dX9_keep_52 : decode cX9_keep 52 = .ok (.iload_n 2, 1) := by decide +kernel
theorem dX9_keep_53 : decode cX9_keep 53 = .ok (.laload, 1) := by decide +kernel
theorem dX9_keep_54 : decode cX9_keep 54 = .ok (.lastore, 1) := by decide +kernel
theorem dX9_keep_55 : decode cX9_keep 55 = .ok (.iinc 2 1, 3) := by decide +kernel
theorem dX9_keep_58 : decode cX9_keep 58 = .ok (.goto (-26), 3) := by decide +kernel
theorem dX9_keep_61 : decode cX9_keep 61 = .ok (.aload_n 0, 1) := by decide +kernel
theorem dX9_keep_62 : decode cX9_keep 62 = .ok (.getfield 17, 3) := by decide +kernel
theorem dX9_keep_65 : decode cX9_keep 65 = .ok (.iload_n 1, 1) := by decide +kernel
theorem dX9_keep_66 : decode cX9_keep 66 = .ok (.aload_n 0, 1) := by decide +kernel
theorem dX9_keep_67 : decode cX9_keep 67 = .ok (.invokevirtual 234, 3) := by decide +kernel
theorem dX9_keep_70 : decode cX9_keep 70 = .ok (.iastore, 1) := by decide +kernel
theorem dX9_keep_71 : decode cX9_keep 71 = .ok (.aload_n 0, 1) := by decide +kernel
theorem dX9_keep_72 : decode cX9_keep 72 = .ok (.getfield 17, 3) := by decide +kernel
theorem dX9_keep_75 : decode cX9_keep 75 = .ok (.iload_n 1, 1) := by decide +kernel
theorem dX9_keep_76 : decode cX9_keep 76 = .ok (.iaload, 1) := by decide +kernel
theorem dX9_keep_77 : decode cX9_keep 77 = .ok (.ireturn, 1) := by decide +kernel
theorem dX9_put_0 : decode cX9_put 0 = .ok (.aload_n 0, 1) := by decide +kernel
theorem dX9_put_1 : decode cX9_put 1 = .ok (.iload_n 1, 1) := by decide +kernel
theorem dX9_put_2 : decode cX9_put 2 = .ok (.invokevirtual 177, 3) := by decide +kernel
theorem dX9_put_5 : decode cX9_put 5 = .ok (.ifCond .ne 6, 3) := by decide +kernel
theorem dX9_put_8 : decode cX9_put 8 = .ok (.bipush (-101), 2) := by decide +kernel
theorem dX9_put_10 : decode cX9_put 10 = .ok (.ireturn, 1) := by decide +kernel
theorem dX9_put_11 : decode cX9_put 11 = .ok (.aload_n 0, 1) := by decide +kernel
theorem dX9_put_12 : decode cX9_put 12 = .ok (.invokevirtual 159, 3) := by decide +kernel
theorem dX9_put_15 : decode cX9_put 15 = .ok (.pop, 1) := by decide +kernel
theorem dX9_put_16 : decode cX9_put 16 = .ok (.aload_n 0, 1) := by decide +kernel
theorem dX9_put_17 : decode cX9_put 17 = .ok (.getfield 152, 3) := by decide +kernel
theorem dX9_put_20 : decode cX9_put 20 = .ok (.ifCond .ne 6, 3) := by decide +kernel
theorem dX9_put_23 : decode cX9_put 23 = .ok (.bipush (-103), 2) := by decide +kernel
theorem dX9_put_25 : decode cX9_put 25 = .ok (.ireturn, 1) := by decide +kernel
theorem dX9_put_26 : decode cX9_put 26 = .ok (.iconst 0, 1) := by decide +kernel
theorem dX9_put_27 : decode cX9_put 27 = .ok (.istore_n 2, 1) := by decide +kernel
theorem dX9_put_28 : decode cX9_put 28 = .ok (.iload_n 2, 1) := by decide +kernel
theorem dX9_put_29 : decode cX9_put 29 = .ok (.bipush 6, 2) := by decide +kernel
theorem dX9_put_31 : decode cX9_put 31 = .ok (.if_icmp .ge 21, 3) := by decide +kernel
theorem dX9_put_34 : decode cX9_put 34 = .ok (.aload_n 0, 1) := by decide +kernel
theorem dX9_put_35 : decode cX9_put 35 = .ok (.getfield 39, 3) := by decide +kernel
theorem dX9_put_38 : decode cX9_put 38 = .ok (.iload_n 2, 1) := by decide +kernel
theorem dX9_put_39 : decode cX9_put 39 = .ok (.aload_n 0, 1) := by decide +kernel
theorem dX9_put_40 : decode cX9_put 40 = .ok (.getfield 33, 3) := by decide +kernel
theorem dX9_put_43 : decode cX9_put 43 = .ok (.iload_n 2, 1) := by decide +kernel
theorem dX9_put_44 : decode cX9_put 44 = .ok (.laload, 1) := by decide +kernel
theorem dX9_put_45 : decode cX9_put 45 = .ok (.lastore, 1) := by decide +kernel
theorem dX9_put_46 : decode cX9_put 46 = .ok (.iinc 2 1, 3) := by decide +kernel
theorem dX9_put_49 : decode cX9_put 49 = .ok (.goto (-21), 3) := by decide +kernel
theorem dX9_put_52 : decode cX9_put 52 = .ok (.aload_n 0, 1) := by decide +kernel
theorem dX9_put_53 : decode cX9_put 53 = .ok (.iload_n 1, 1) := by decide +kernel
theorem dX9_put_54 : decode cX9_put 54 = .ok (.invokevirtual 280, 3) := by decide +kernel
theorem dX9_put_57 : decode cX9_put 57 = .ok (.istore_n 2, 1) := by decide +kernel
theorem dX9_put_58 : decode cX9_put 58 = .ok (.aload_n 0, 1) := by decide +kernel
theorem dX9_put_59 : decode cX9_put 59 = .ok (.iload_n 2, 1) := by decide +kernel
theorem dX9_put_60 : decode cX9_put 60 = .ok (.ifCond .lt 7, 3) := by decide +kernel
theorem dX9_put_63 : decode cX9_put 63 = .ok (.iconst 0, 1) := by decide +kernel
theorem dX9_put_64 : decode cX9_put 64 = .ok (.goto 7, 3) := by decide +kernel
theorem dX9_put_67 : decode cX9_put 67 = .ok (.aload_n 0, 1) := by decide +kernel
theorem dX9_put_68 : decode cX9_put 68 = .ok (.getfield 120, 3) := by decide +kernel
theorem dX9_put_71 : decode cX9_put 71 = .ok (.putfield 120, 3) := by decide +kernel
theorem dX9_put_74 : decode cX9_put 74 = .ok (.iload_n 2, 1) := by decide +kernel
theorem dX9_put_75 : decode cX9_put 75 = .ok (.ireturn, 1) := by decide +kernel
theorem dX9_addSign_0 : decode cX9_addSign 0 = .ok (.aload_n 0, 1) := by decide +kernel
theorem dX9_addSign_1 : decode cX9_addSign 1 = .ok (.getfield 75, 3) := by decide +kernel
theorem dX9_addSign_4 : decode cX9_addSign 4 = .ok (.aload_n 0, 1) := by decide +kernel
theorem dX9_addSign_5 : decode cX9_addSign 5 = .ok (.getfield 283, 3) := by decide +kernel
theorem dX9_addSign_8 : decode cX9_addSign 8 = .ok (.iload_n 1, 1) := by decide +kernel
theorem dX9_addSign_9 : decode cX9_addSign 9 = .ok (.iastore, 1) := by decide +kernel
theorem dX9_addSign_10 : decode cX9_addSign 10 = .ok (.aload_n 0, 1) := by decide +kernel
theorem dX9_addSign_11 : decode cX9_addSign 11 = .ok (.dup, 1) := by decide +kernel
theorem dX9_addSign_12 : decode cX9_addSign 12 = .ok (.getfield 283, 3) := by decide +kernel
theorem dX9_addSign_15 : decode cX9_addSign 15 = .ok (.iconst 1, 1) := by decide +kernel
theorem dX9_addSign_16 : decode cX9_addSign 16 = .ok (.iadd, 1) := by decide +kernel
theorem dX9_addSign_17 : decode cX9_addSign 17 = .ok (.putfield 283, 3) := by decide +kernel
theorem dX9_addSign_20 : decode cX9_addSign 20 = .ok (.return_, 1) := by decide +kernel
theorem dX9_addTerm_0 : decode cX9_addTerm 0 = .ok (.lload_n 2, 1) := by decide +kernel
theorem dX9_addTerm_1 : decode cX9_addTerm 1 = .ok (.lconst 0, 1) := by decide +kernel
theorem dX9_addTerm_2 : decode cX9_addTerm 2 = .ok (.lcmp, 1) := by decide +kernel
theorem dX9_addTerm_3 : decode cX9_addTerm 3 = .ok (.ifCond .ge 12, 3) := by decide +kernel
theorem dX9_addTerm_6 : decode cX9_addTerm 6 = .ok (.aload_n 0, 1) := by decide +kernel
theorem dX9_addTerm_7 : decode cX9_addTerm 7 = .ok (.bipush 45, 2) := by decide +kernel
theorem dX9_addTerm_9 : decode cX9_addTerm 9 = .ok (.invokevirtual 286, 3) := by decide +kernel
theorem dX9_addTerm_12 : decode cX9_addTerm 12 = .ok (.goto 14, 3) := by decide +kernel
theorem dX9_addTerm_15 : decode cX9_addTerm 15 = .ok (.iload 4, 2) := by decide +kernel
theorem dX9_addTerm_17 : decode cX9_addTerm 17 = .ok (.ifCond .ne 9, 3) := by decide +kernel
theorem dX9_addTerm_20 : decode cX9_addTerm 20 = .ok (.aload_n 0, 1) := by decide +kernel
theorem dX9_addTerm_21 : decode cX9_addTerm 21 = .ok (.bipush 43, 2) := by decide +kernel
theorem dX9_addTerm_23 : decode cX9_addTerm 23 = .ok (.invokevirtual 286, 3) := by decide +kernel
theorem dX9_addTerm_26 : decode cX9_addTerm 26 = .ok (.lload_n 2, 1) := by decide +kernel
theorem dX9_addTerm_27 : decode cX9_addTerm 27 = .ok (.invokestatic 108, 3) := by decide +kernel
theorem dX9_addTerm_30 : decode cX9_addTerm 30 = .ok (.lstore 5, 2) := by decide +kernel
theorem dX9_addTerm_32 : decode cX9_addTerm 32 = .ok (.lload 5, 2) := by decide +kernel
theorem dX9_addTerm_34 : decode cX9_addTerm 34 = .ok (.lconst 1, 1) := by decide +kernel
theorem dX9_addTerm_35 : decode cX9_addTerm 35 = .ok (.lcmp, 1) := by decide +kernel
theorem dX9_addTerm_36 : decode cX9_addTerm 36 = .ok (.ifCond .gt 7, 3) := by decide +kernel
theorem dX9_addTerm_39 : decode cX9_addTerm 39 = .ok (.iload_n 1, 1) := by decide +kernel
theorem dX9_addTerm_40 : decode cX9_addTerm 40 = .ok (.ifCond .ne 70, 3) := by decide +kernel
theorem dX9_addTerm_43 : decode cX9_addTerm 43 = .ok (.lload 5, 2) := by decide +kernel
theorem dX9_addTerm_45 : decode cX9_addTerm 45 = .ok (.ldc2_w 289, 3) := by decide +kernel
theorem dX9_addTerm_48 : decode cX9_addTerm 48 = .ok (.lcmp, 1) := by decide +kernel
theorem dX9_addTerm_49 : decode cX9_addTerm 49 = .ok (.ifCond .le 18, 3) := by decide +kernel
theorem dX9_addTerm_52 : decode cX9_addTerm 52 = .ok (.aload_n 0, 1) := by decide +kernel
theorem dX9_addTerm_53 : decode cX9_addTerm 53 = .ok (.lload 5, 2) := by decide +kernel
theorem dX9_addTerm_55 : decode cX9_addTerm 55 = .ok (.ldc2_w 291, 3) := by decide +kernel
theorem dX9_addTerm_58 : decode cX9_addTerm 58 = .ok (.ldiv, 1) := by decide +kernel
theorem dX9_addTerm_59 : decode cX9_addTerm 59 = .ok (.ldc2_w 144, 3) := by decide +kernel
theorem dX9_addTerm_62 : decode cX9_addTerm 62 = .ok (.ladd, 1) := by decide +kernel
theorem dX9_addTerm_63 : decode cX9_addTerm 63 = .ok (.l2i, 1) := by decide +kernel
theorem dX9_addTerm_64 : decode cX9_addTerm 64 = .ok (.invokevirtual 286, 3) := by decide +kernel
theorem dX9_addTerm_67 : decode cX9_addTerm 67 = .ok (.lload 5, 2) := by decide +kernel
theorem dX9_addTerm_69 : decode cX9_addTerm 69 = .ok (.ldc2_w 293, 3) := by decide +kernel
theorem dX9_addTerm_72 : decode cX9_addTerm 72 = .ok (.lcmp, 1) := by decide +kernel
theorem dX9_addTerm_73 : decode cX9_addTerm 73 = .ok (.ifCond .le 22, 3) := by decide +kernel
theorem dX9_addTerm_76 : decode cX9_addTerm 76 = .ok (.aload_n 0, 1) := by decide +kernel
theorem dX9_addTerm_77 : decode cX9_addTerm 77 = .ok (.lload 5, 2) := by decide +kernel
theorem dX9_addTerm_79 : decode cX9_addTerm 79 = .ok (.ldc2_w 142, 3) := by decide +kernel
theorem dX9_addTerm_82 : decode cX9_addTerm 82 = .ok (.ldiv, 1) := by decide +kernel
theorem dX9_addTerm_83 : decode cX9_addTerm 83 = .ok (.ldc2_w 142, 3) := by decide +kernel
theorem dX9_addTerm_86 : decode cX9_addTerm 86 = .ok (.lrem, 1) := by decide +kernel
theorem dX9_addTerm_87 : decode cX9_addTerm 87 = .ok (.ldc2_w 144, 3) := by decide +kernel
theorem dX9_addTerm_90 : decode cX9_addTerm 90 = .ok (.ladd, 1) := by decide +kernel
theorem dX9_addTerm_91 : decode cX9_addTerm 91 = .ok (.l2i, 1) := by decide +kernel
theorem dX9_addTerm_92 : decode cX9_addTerm 92 = .ok (.invokevirtual 286, 3) := by decide +kernel
theorem dX9_addTerm_95 : decode cX9_addTerm 95 = .ok (.aload_n 0, 1) := by decide +kernel
theorem dX9_addTerm_96 : decode cX9_addTerm 96 = .ok (.lload 5, 2) := by decide +kernel
theorem dX9_addTerm_98 : decode cX9_addTerm 98 = .ok (.ldc2_w 142, 3) := by decide +kernel
theorem dX9_addTerm_101 : decode cX9_addTerm 101 = .ok (.lrem, 1) := by decide +kernel
theorem dX9_addTerm_102 : decode cX9_addTerm 102 = .ok (.ldc2_w 144, 3) := by decide +kernel
theorem dX9_addTerm_105 : decode cX9_addTerm 105 = .ok (.ladd, 1) := by decide +kernel
theorem dX9_addTerm_106 : decode cX9_addTerm 106 = .ok (.l2i, 1) := by decide +kernel
theorem dX9_addTerm_107 : decode cX9_addTerm 107 = .ok (.invokevirtual 286, 3) := by decide +kernel
theorem dX9_addTerm_110 : decode cX9_addTerm 110 = .ok (.iload_n 1, 1) := by decide +kernel
theorem dX9_addTerm_111 : decode cX9_addTerm 111 = .ok (.ifCond .le 9, 3) := by decide +kernel
theorem dX9_addTerm_114 : decode cX9_addTerm 114 = .ok (.aload_n 0, 1) := by decide +kernel
theorem dX9_addTerm_115 : decode cX9_addTerm 115 = .ok (.bipush 120, 2) := by decide +kernel
theorem dX9_addTerm_117 : decode cX9_addTerm 117 = .ok (.invokevirtual 286, 3) := by decide +kernel
theorem dX9_addTerm_120 : decode cX9_addTerm 120 = .ok (.iload_n 1, 1) := by decide +kernel
theorem dX9_addTerm_121 : decode cX9_addTerm 121 = .ok (.iconst 1, 1) := by decide +kernel
theorem dX9_addTerm_122 : decode cX9_addTerm 122 = .ok (.if_icmp .le 17, 3) := by decide +kernel
theorem dX9_addTerm_125 : decode cX9_addTerm 125 = .ok (.aload_n 0, 1) := by decide +kernel
theorem dX9_addTerm_126 : decode cX9_addTerm 126 = .ok (.bipush 94, 2) := by decide +kernel
theorem dX9_addTerm_128 : decode cX9_addTerm 128 = .ok (.invokevirtual 286, 3) := by decide +kernel
theorem dX9_addTerm_131 : decode cX9_addTerm 131 = .ok (.aload_n 0, 1) := by decide +kernel
theorem dX9_addTerm_132 : decode cX9_addTerm 132 = .ok (.iload_n 1, 1) := by decide +kernel
theorem dX9_addTerm_133 : decode cX9_addTerm 133 = .ok (.bipush 48, 2) := by decide +kernel
theorem dX9_addTerm_135 : decode cX9_addTerm 135 = .ok (.iadd, 1) := by decide +kernel
theorem dX9_addTerm_136 : decode cX9_addTerm 136 = .ok (.invokevirtual 286, 3) := by decide +kernel
theorem dX9_addTerm_139 : decode cX9_addTerm 139 = .ok (.return_, 1) := by decide +kernel
theorem dX9_layText_0 : decode cX9_layText 0 = .ok (.aload_n 0, 1) := by decide +kernel
theorem dX9_layText_1 : decode cX9_layText 1 = .ok (.iconst 0, 1) := by decide +kernel
theorem dX9_layText_2 : decode cX9_layText 2 = .ok (.putfield 283, 3) := by decide +kernel
theorem dX9_layText_5 : decode cX9_layText 5 = .ok (.aload_n 0, 1) := by decide +kernel
theorem dX9_layText_6 : decode cX9_layText 6 = .ok (.getfield 17, 3) := by decide +kernel
theorem dX9_layText_9 : decode cX9_layText 9 = .ok (.iload_n 1, 1) := by decide +kernel
theorem dX9_layText_10 : decode cX9_layText 10 = .ok (.iaload, 1) := by decide +kernel
theorem dX9_layText_11 : decode cX9_layText 11 = .ok (.istore_n 2, 1) := by decide +kernel
theorem dX9_layText_12 : decode cX9_layText 12 = .ok (.iload_n 2, 1) := by decide +kernel
theorem dX9_layText_13 : decode cX9_layText 13 = .ok (.ifCond .lt 48, 3) := by decide +kernel
theorem dX9_layText_16 : decode cX9_layText 16 = .ok (.aload_n 0, 1) := by decide +kernel
theorem dX9_layText_17 : decode cX9_layText 17 = .ok (.getfield 13, 3) := by decide +kernel
theorem dX9_layText_20 : decode cX9_layText 20 = .ok (.bipush 6, 2) := by decide +kernel
theorem dX9_layText_22 : decode cX9_layText 22 = .ok (.iload_n 1, 1) := by decide +kernel
theorem dX9_layText_23 : decode cX9_layText 23 = .ok (.imul, 1) := by decide +kernel
theorem dX9_layText_24 : decode cX9_layText 24 = .ok (.iload_n 2, 1) := by decide +kernel
theorem dX9_layText_25 : decode cX9_layText 25 = .ok (.iadd, 1) := by decide +kernel
theorem dX9_layText_26 : decode cX9_layText 26 = .ok (.laload, 1) := by decide +kernel
theorem dX9_layText_27 : decode cX9_layText 27 = .ok (.lstore_n 3, 1) := by decide +kernel
theorem dX9_layText_28 : decode cX9_layText 28 = .ok (.lload_n 3, 1) := by decide +kernel
theorem dX9_layText_29 : decode cX9_layText 29 = .ok (.lconst 0, 1) := by decide +kernel
theorem dX9_layText_30 : decode cX9_layText 30 = .ok (.lcmp, 1) := by decide +kernel
theorem dX9_layText_31 : decode cX9_layText 31 = .ok (.ifCond .eq 24, 3) := by decide +kernel
theorem dX9_layText_34 : decode cX9_layText 34 = .ok (.aload_n 0, 1) := by decide +kernel
theorem dX9_layText_35 : decode cX9_layText 35 = .ok (.iload_n 2, 1) := by decide +kernel
theorem dX9_layText_36 : decode cX9_layText 36 = .ok (.lload_n 3, 1) := by decide +kernel
theorem dX9_layText_37 : decode cX9_layText 37 = .ok (.iload_n 2, 1) := by decide +kernel
theorem dX9_layText_38 : decode cX9_layText 38 = .ok (.aload_n 0, 1) := by decide +kernel
theorem dX9_layText_39 : decode cX9_layText 39 = .ok (.getfield 17, 3) := by decide +kernel
theorem dX9_layText_42 : decode cX9_layText 42 = .ok (.iload_n 1, 1) := by decide +kernel
theorem dX9_layText_43 : decode cX9_layText 43 = .ok (.iaload, 1) := by decide +kernel
theorem dX9_layText_44 : decode cX9_layText 44 = .ok (.if_icmp .ne 7, 3) := by decide +kernel
theorem dX9_layText_47 : decode cX9_layText 47 = .ok (.iconst 1, 1) := by decide +kernel
theorem dX9_layText_48 : decode cX9_layText 48 = .ok (.goto 4, 3) := by decide +kernel
theorem dX9_layText_51 : decode cX9_layText 51 = .ok (.iconst 0, 1) := by decide +kernel
theorem dX9_layText_52 : decode cX9_layText 52 = .ok (.invokevirtual 295, 3) := by decide +kernel
theorem dX9_layText_55 : decode cX9_layText 55 = .ok (.iinc 2 (-1), 3) := by decide +kernel
theorem dX9_layText_58 : decode cX9_layText 58 = .ok (.goto (-46), 3) := by decide +kernel
theorem dX9_layText_61 : decode cX9_layText 61 = .ok (.return_, 1) := by decide +kernel
theorem dX9_letters_0 : decode cX9_letters 0 = .ok (.aload_n 0, 1) := by decide +kernel
theorem dX9_letters_1 : decode cX9_letters 1 = .ok (.iload_n 1, 1) := by decide +kernel
theorem dX9_letters_2 : decode cX9_letters 2 = .ok (.invokevirtual 299, 3) := by decide +kernel
theorem dX9_letters_5 : decode cX9_letters 5 = .ok (.ifCond .ne 5, 3) := by decide +kernel
theorem dX9_letters_8 : decode cX9_letters 8 = .ok (.iconst 0, 1) := by decide +kernel
theorem dX9_letters_9 : decode cX9_letters 9 = .ok (.ireturn, 1) := by decide +kernel
theorem dX9_letters_10 : decode cX9_letters 10 = .ok (.aload_n 0, 1) := by decide +kernel
theorem dX9_letters_11 : decode cX9_letters 11 = .ok (.iload_n 1, 1) := by decide +kernel
theorem dX9_letters_12 : decode cX9_letters 12 = .ok (.invokevirtual 302, 3) := by decide +kernel
theorem dX9_letters_15 : decode cX9_letters 15 = .ok (.aload_n 0, 1) := by decide +kernel
theorem dX9_letters_16 : decode cX9_letters 16 = .ok (.getfield 283, 3) := by decide +kernel
theorem dX9_letters_19 : decode cX9_letters 19 = .ok (.ireturn, 1) := by decide +kernel
theorem dX9_contentTold_0 : decode cX9_contentTold 0 = .ok (.aload_n 0, 1) := by decide +kernel
theorem dX9_contentTold_1 : decode cX9_contentTold 1 = .ok (.iload_n 1, 1) := by decide +kernel
theorem dX9_contentTold_2 : decode cX9_contentTold 2 = .ok (.invokevirtual 305, 3) := by decide +kernel
theorem dX9_contentTold_5 : decode cX9_contentTold 5 = .ok (.aload_n 0, 1) := by decide +kernel
theorem dX9_contentTold_6 : decode cX9_contentTold 6 = .ok (.invokevirtual 240, 3) := by decide +kernel
theorem dX9_contentTold_9 : decode cX9_contentTold 9 = .ok (.aload_n 0, 1) := by decide +kernel
theorem dX9_contentTold_10 : decode cX9_contentTold 10 = .ok (.getfield 230, 3) := by decide +kernel
theorem dX9_contentTold_13 : decode cX9_contentTold 13 = .ok (.l2i, 1) := by decide +kernel
theorem dX9_contentTold_14 : decode cX9_contentTold 14 = .ok (.sipush 1000, 3) := by decide +kernel
theorem dX9_contentTold_17 : decode cX9_contentTold 17 = .ok (.iadd, 1) := by decide +kernel
theorem dX9_contentTold_18 : decode cX9_contentTold 18 = .ok (.ireturn, 1) := by decide +kernel
theorem dX9_slotNow_0 : decode cX9_slotNow 0 = .ok (.aload_n 0, 1) := by decide +kernel
theorem dX9_slotNow_1 : decode cX9_slotNow 1 = .ok (.iload_n 1, 1) := by decide +kernel
theorem dX9_slotNow_2 : decode cX9_slotNow 2 = .ok (.invokevirtual 299, 3) := by decide +kernel
theorem dX9_slotNow_5 : decode cX9_slotNow 5 = .ok (.istore_n 3, 1) := by decide +kernel
theorem dX9_slotNow_6 : decode cX9_slotNow 6 = .ok (.iload_n 2, 1) := by decide +kernel
theorem dX9_slotNow_7 : decode cX9_slotNow 7 = .ok (.tableswitch 91 0 7 #[45, 52, 59, 73, 91, 91, 79, 85], 45) := by decide +kernel
theorem dX9_slotNow_52 : decode cX9_slotNow 52 = .ok (.aload_n 0, 1) := by decide +kernel
theorem dX9_slotNow_53 : decode cX9_slotNow 53 = .ok (.getfield 7, 3) := by decide +kernel
theorem dX9_slotNow_56 : decode cX9_slotNow 56 = .ok (.iload_n 1, 1) := by decide +kernel
theorem dX9_slotNow_57 : decode cX9_slotNow 57 = .ok (.iaload, 1) := by decide +kernel
theorem dX9_slotNow_58 : decode cX9_slotNow 58 = .ok (.ireturn, 1) := by decide +kernel
theorem dX9_slotNow_59 : decode cX9_slotNow 59 = .ok (.aload_n 0, 1) := by decide +kernel
theorem dX9_slotNow_60 : decode cX9_slotNow 60 = .ok (.getfield 17, 3) := by decide +kernel
theorem dX9_slotNow_63 : decode cX9_slotNow 63 = .ok (.iload_n 1, 1) := by decide +kernel
theorem dX9_slotNow_64 : decode cX9_slotNow 64 = .ok (.iaload, 1) := by decide +kernel
theorem dX9_slotNow_65 : decode cX9_slotNow 65 = .ok (.ireturn, 1) := by decide +kernel
theorem dX9_slotNow_66 : decode cX9_slotNow 66 = .ok (.iload_n 3, 1) := by decide +kernel
theorem dX9_slotNow_67 : decode cX9_slotNow 67 = .ok (.ifCond .eq 11, 3) := by decide +kernel
theorem dX9_slotNow_70 : decode cX9_slotNow 70 = .ok (.aload_n 0, 1) := by decide +kernel
theorem dX9_slotNow_71 : decode cX9_slotNow 71 = .ok (.iload_n 1, 1) := by decide +kernel
theorem dX9_slotNow_72 : decode cX9_slotNow 72 = .ok (.invokevirtual 308, 3) := by decide +kernel
theorem dX9_slotNow_75 : decode cX9_slotNow 75 = .ok (.goto 4, 3) := by decide +kernel
theorem dX9_slotNow_78 : decode cX9_slotNow 78 = .ok (.iconst 0, 1) := by decide +kernel
theorem dX9_slotNow_79 : decode cX9_slotNow 79 = .ok (.ireturn, 1) := by decide +kernel
theorem dX9_slotNow_80 : decode cX9_slotNow 80 = .ok (.aload_n 0, 1) := by decide +kernel
theorem dX9_slotNow_81 : decode cX9_slotNow 81 = .ok (.iload_n 1, 1) := by decide +kernel
theorem dX9_slotNow_82 : decode cX9_slotNow 82 = .ok (.invokevirtual 311, 3) := by decide +kernel
theorem dX9_slotNow_85 : decode cX9_slotNow 85 = .ok (.ireturn, 1) := by decide +kernel
theorem dX9_slotNow_86 : decode cX9_slotNow 86 = .ok (.aload_n 0, 1) := by decide +kernel
theorem dX9_slotNow_87 : decode cX9_slotNow 87 = .ok (.iload_n 1, 1) := by decide +kernel
theorem dX9_slotNow_88 : decode cX9_slotNow 88 = .ok (.invokevirtual 314, 3) := by decide +kernel
theorem dX9_slotNow_91 : decode cX9_slotNow 91 = .ok (.ireturn, 1) := by decide +kernel
theorem dX9_slotNow_92 : decode cX9_slotNow 92 = .ok (.aload_n 0, 1) := by decide +kernel
theorem dX9_slotNow_93 : decode cX9_slotNow 93 = .ok (.iload_n 1, 1) := by decide +kernel
theorem dX9_slotNow_94 : decode cX9_slotNow 94 = .ok (.invokevirtual 317, 3) := by decide +kernel
theorem dX9_slotNow_97 : decode cX9_slotNow 97 = .ok (.ireturn, 1) := by decide +kernel
theorem dX9_slotNow_98 : decode cX9_slotNow 98 = .ok (.iload_n 3, 1) := by decide +kernel
theorem dX9_slotNow_99 : decode cX9_slotNow 99 = .ok (.ifCond .eq 12, 3) := by decide +kernel
theorem dX9_slotNow_102 : decode cX9_slotNow 102 = .ok (.aload_n 0, 1) := by decide +kernel
theorem dX9_slotNow_103 : decode cX9_slotNow 103 = .ok (.iload_n 1, 1) := by decide +kernel
theorem dX9_slotNow_104 : decode cX9_slotNow 104 = .ok (.iload_n 2, 1) := by decide +kernel
theorem dX9_slotNow_105 : decode cX9_slotNow 105 = .ok (.invokevirtual 320, 3) := by decide +kernel
theorem dX9_slotNow_108 : decode cX9_slotNow 108 = .ok (.goto 4, 3) := by decide +kernel
theorem dX9_slotNow_111 : decode cX9_slotNow 111 = .ok (.iconst 0, 1) := by decide +kernel
theorem dX9_slotNow_112 : decode cX9_slotNow 112 = .ok (.ireturn, 1) := by decide +kernel
theorem dX9_factorsTold_0 : decode cX9_factorsTold 0 = .ok (.aload_n 0, 1) := by decide +kernel
theorem dX9_factorsTold_1 : decode cX9_factorsTold 1 = .ok (.iload_n 1, 1) := by decide +kernel
theorem dX9_factorsTold_2 : decode cX9_factorsTold 2 = .ok (.invokevirtual 305, 3) := by decide +kernel
theorem dX9_factorsTold_5 : decode cX9_factorsTold 5 = .ok (.aload_n 0, 1) := by decide +kernel
theorem dX9_factorsTold_6 : decode cX9_factorsTold 6 = .ok (.invokevirtual 249, 3) := by decide +kernel
theorem dX9_factorsTold_9 : decode cX9_factorsTold 9 = .ok (.iload_n 2, 1) := by decide +kernel
theorem dX9_factorsTold_10 : decode cX9_factorsTold 10 = .ok (.iconst 4, 1) := by decide +kernel
theorem dX9_factorsTold_11 : decode cX9_factorsTold 11 = .ok (.if_icmp .ne 10, 3) := by decide +kernel
theorem dX9_factorsTold_14 : decode cX9_factorsTold 14 = .ok (.aload_n 0, 1) := by decide +kernel
theorem dX9_factorsTold_15 : decode cX9_factorsTold 15 = .ok (.getfield 191, 3) := by decide +kernel
theorem dX9_factorsTold_18 : decode cX9_factorsTold 18 = .ok (.goto 7, 3) := by decide +kernel
theorem dX9_factorsTold_21 : decode cX9_factorsTold 21 = .ok (.aload_n 0, 1) := by decide +kernel
theorem dX9_factorsTold_22 : decode cX9_factorsTold 22 = .ok (.invokevirtual 324, 3) := by decide +kernel
theorem dX9_factorsTold_25 : decode cX9_factorsTold 25 = .ok (.ireturn, 1) := by decide +kernel
theorem dX9_slot_0 : decode cX9_slot 0 = .ok (.aload_n 0, 1) := by decide +kernel
theorem dX9_slot_1 : decode cX9_slot 1 = .ok (.iload_n 1, 1) := by decide +kernel
theorem dX9_slot_2 : decode cX9_slot 2 = .ok (.invokevirtual 177, 3) := by decide +kernel
theorem dX9_slot_5 : decode cX9_slot 5 = .ok (.ifCond .ne 8, 3) := by decide +kernel
theorem dX9_slot_8 : decode cX9_slot 8 = .ok (.bipush (-101), 2) := by decide +kernel
theorem dX9_slot_10 : decode cX9_slot 10 = .ok (.goto 26, 3) := by decide +kernel
theorem dX9_slot_13 : decode cX9_slot 13 = .ok (.iload_n 2, 1) := by decide +kernel
theorem dX9_slot_14 : decode cX9_slot 14 = .ok (.i2l, 1) := by decide +kernel
theorem dX9_slot_15 : decode cX9_slot 15 = .ok (.lconst 0, 1) := by decide +kernel
theorem dX9_slot_16 : decode cX9_slot 16 = .ok (.ldc2_w 327, 3) := by decide +kernel
theorem dX9_slot_19 : decode cX9_slot 19 = .ok (.invokestatic 116, 3) := by decide +kernel
theorem dX9_slot_22 : decode cX9_slot 22 = .ok (.ifCond .eq 12, 3) := by decide +kernel
theorem dX9_slot_25 : decode cX9_slot 25 = .ok (.aload_n 0, 1) := by decide +kernel
theorem dX9_slot_26 : decode cX9_slot 26 = .ok (.iload_n 1, 1) := by decide +kernel
theorem dX9_slot_27 : decode cX9_slot 27 = .ok (.iload_n 2, 1) := by decide +kernel
theorem dX9_slot_28 : decode cX9_slot 28 = .ok (.invokevirtual 329, 3) := by decide +kernel
theorem dX9_slot_31 : decode cX9_slot 31 = .ok (.goto 5, 3) := by decide +kernel
theorem dX9_slot_34 : decode cX9_slot 34 = .ok (.bipush (-102), 2) := by decide +kernel
theorem dX9_slot_36 : decode cX9_slot 36 = .ok (.ireturn, 1) := by decide +kernel
theorem dX9_as_0 : decode cX9_as 0 = .ok (.aload_n 0, 1) := by decide +kernel
theorem dX9_as_1 : decode cX9_as 1 = .ok (.iload_n 1, 1) := by decide +kernel
theorem dX9_as_2 : decode cX9_as 2 = .ok (.invokevirtual 177, 3) := by decide +kernel
theorem dX9_as_5 : decode cX9_as 5 = .ok (.ifCond .ne 6, 3) := by decide +kernel
theorem dX9_as_8 : decode cX9_as 8 = .ok (.bipush (-101), 2) := by decide +kernel
theorem dX9_as_10 : decode cX9_as 10 = .ok (.ireturn, 1) := by decide +kernel
theorem dX9_as_11 : decode cX9_as 11 = .ok (.iload_n 2, 1) := by decide +kernel
theorem dX9_as_12 : decode cX9_as 12 = .ok (.i2l, 1) := by decide +kernel
theorem dX9_as_13 : decode cX9_as 13 = .ok (.lconst 0, 1) := by decide +kernel
theorem dX9_as_14 : decode cX9_as 14 = .ok (.ldc2_w 163, 3) := by decide +kernel
theorem dX9_as_17 : decode cX9_as 17 = .ok (.invokestatic 116, 3) := by decide +kernel
theorem dX9_as_20 : decode cX9_as 20 = .ok (.ifCond .ne 6, 3) := by decide +kernel
theorem dX9_as_23 : decode cX9_as 23 = .ok (.bipush (-102), 2) := by decide +kernel
theorem dX9_as_25 : decode cX9_as 25 = .ok (.ireturn, 1) := by decide +kernel
theorem dX9_as_26 : decode cX9_as 26 = .ok (.aload_n 0, 1) := by decide +kernel
theorem dX9_as_27 : decode cX9_as 27 = .ok (.getfield 7, 3) := by decide +kernel
theorem dX9_as_30 : decode cX9_as 30 = .ok (.iload_n 1, 1) := by decide +kernel
theorem dX9_as_31 : decode cX9_as 31 = .ok (.iaload, 1) := by decide +kernel
theorem dX9_as_32 : decode cX9_as 32 = .ok (.istore_n 3, 1) := by decide +kernel
theorem dX9_as_33 : decode cX9_as 33 = .ok (.iload_n 2, 1) := by decide +kernel
theorem dX9_as_34 : decode cX9_as 34 = .ok (.ifCond .eq 18, 3) := by decide +kernel
theorem dX9_as_37 : decode cX9_as 37 = .ok (.iload_n 3, 1) := by decide +kernel
theorem dX9_as_38 : decode cX9_as 38 = .ok (.iload_n 2, 1) := by decide +kernel
theorem dX9_as_39 : decode cX9_as 39 = .ok (.if_icmp .eq 13, 3) := by decide +kernel
theorem dX9_as_42 : decode cX9_as 42 = .ok (.iload_n 2, 1) := by decide +kernel
theorem dX9_as_43 : decode cX9_as 43 = .ok (.iconst 1, 1) := by decide +kernel
theorem dX9_as_44 : decode cX9_as 44 = .ok (.if_icmp .ne 12, 3) := by decide +kernel
theorem dX9_as_47 : decode cX9_as 47 = .ok (.iload_n 3, 1) := by decide +kernel
theorem dX9_as_48 : decode cX9_as 48 = .ok (.iconst 2, 1) := by decide +kernel
theorem dX9_as_49 : decode cX9_as 49 = .ok (.if_icmp .ne 7, 3) := by decide +kernel
theorem dX9_as_52 : decode cX9_as 52 = .ok (.iload_n 1, 1) := by decide +kernel
theorem dX9_as_53 : decode cX9_as 53 = .ok (.goto 4, 3) := by decide +kernel
theorem dX9_as_56 : decode cX9_as 56 = .ok (.iconst (-1), 1) := by decide +kernel
theorem dX9_as_57 : decode cX9_as 57 = .ok (.ireturn, 1) := by decide +kernel
theorem dX9_numberNow_0 : decode cX9_numberNow 0 = .ok (.aload_n 0, 1) := by decide +kernel
theorem dX9_numberNow_1 : decode cX9_numberNow 1 = .ok (.getfield 13, 3) := by decide +kernel
theorem dX9_numberNow_4 : decode cX9_numberNow 4 = .ok (.bipush 6, 2) := by decide +kernel
theorem dX9_numberNow_6 : decode cX9_numberNow 6 = .ok (.iload_n 1, 1) := by decide +kernel
theorem dX9_numberNow_7 : decode cX9_numberNow 7 = .ok (.imul, 1) := by decide +kernel
theorem dX9_numberNow_8 : decode cX9_numberNow 8 = .ok (.iload_n 2, 1) := by decide +kernel
theorem dX9_numberNow_9 : decode cX9_numberNow 9 = .ok (.iadd, 1) := by decide +kernel
theorem dX9_numberNow_10 : decode cX9_numberNow 10 = .ok (.laload, 1) := by decide +kernel
theorem dX9_numberNow_11 : decode cX9_numberNow 11 = .ok (.l2i, 1) := by decide +kernel
theorem dX9_numberNow_12 : decode cX9_numberNow 12 = .ok (.sipush 1000, 3) := by decide +kernel
theorem dX9_numberNow_15 : decode cX9_numberNow 15 = .ok (.iadd, 1) := by decide +kernel
theorem dX9_numberNow_16 : decode cX9_numberNow 16 = .ok (.ireturn, 1) := by decide +kernel
theorem dX9_number_0 : decode cX9_number 0 = .ok (.aload_n 0, 1) := by decide +kernel
theorem dX9_number_1 : decode cX9_number 1 = .ok (.iload_n 1, 1) := by decide +kernel
theorem dX9_number_2 : decode cX9_number 2 = .ok (.invokevirtual 299, 3) := by decide +kernel
theorem dX9_number_5 : decode cX9_number 5 = .ok (.ifCond .ne 8, 3) := by decide +kernel
theorem dX9_number_8 : decode cX9_number 8 = .ok (.bipush (-101), 2) := by decide +kernel
theorem dX9_number_10 : decode cX9_number 10 = .ok (.goto 26, 3) := by decide +kernel
theorem dX9_number_13 : decode cX9_number 13 = .ok (.iload_n 2, 1) := by decide +kernel
theorem dX9_number_14 : decode cX9_number 14 = .ok (.i2l, 1) := by decide +kernel
theorem dX9_number_15 : decode cX9_number 15 = .ok (.lconst 0, 1) := by decide +kernel
theorem dX9_number_16 : decode cX9_number 16 = .ok (.ldc2_w 332, 3) := by decide +kernel
theorem dX9_number_19 : decode cX9_number 19 = .ok (.invokestatic 116, 3) := by decide +kernel
theorem dX9_number_22 : decode cX9_number 22 = .ok (.ifCond .eq 12, 3) := by decide +kernel
theorem dX9_number_25 : decode cX9_number 25 = .ok (.aload_n 0, 1) := by decide +kernel
theorem dX9_number_26 : decode cX9_number 26 = .ok (.iload_n 1, 1) := by decide +kernel
theorem dX9_number_27 : decode cX9_number 27 = .ok (.iload_n 2, 1) := by decide +kernel
theorem dX9_number_28 : decode cX9_number 28 = .ok (.invokevirtual 334, 3) := by decide +kernel
theorem dX9_number_31 : decode cX9_number 31 = .ok (.goto 5, 3) := by decide +kernel
theorem dX9_number_34 : decode cX9_number 34 = .ok (.bipush (-102), 2) := by decide +kernel
theorem dX9_number_36 : decode cX9_number 36 = .ok (.ireturn, 1) := by decide +kernel
theorem dX9_text_0 : decode cX9_text 0 = .ok (.aload_n 0, 1) := by decide +kernel
theorem dX9_text_1 : decode cX9_text 1 = .ok (.iload_n 1, 1) := by decide +kernel
theorem dX9_text_2 : decode cX9_text 2 = .ok (.invokevirtual 299, 3) := by decide +kernel
theorem dX9_text_5 : decode cX9_text 5 = .ok (.ifCond .ne 6, 3) := by decide +kernel
theorem dX9_text_8 : decode cX9_text 8 = .ok (.bipush (-101), 2) := by decide +kernel
theorem dX9_text_10 : decode cX9_text 10 = .ok (.ireturn, 1) := by decide +kernel
theorem dX9_text_11 : decode cX9_text 11 = .ok (.aload_n 0, 1) := by decide +kernel
theorem dX9_text_12 : decode cX9_text 12 = .ok (.iload_n 1, 1) := by decide +kernel
theorem dX9_text_13 : decode cX9_text 13 = .ok (.invokevirtual 302, 3) := by decide +kernel
theorem dX9_text_16 : decode cX9_text 16 = .ok (.iload_n 2, 1) := by decide +kernel
theorem dX9_text_17 : decode cX9_text 17 = .ok (.i2l, 1) := by decide +kernel
theorem dX9_text_18 : decode cX9_text 18 = .ok (.lconst 0, 1) := by decide +kernel
theorem dX9_text_19 : decode cX9_text 19 = .ok (.aload_n 0, 1) := by decide +kernel
theorem dX9_text_20 : decode cX9_text 20 = .ok (.getfield 283, 3) := by decide +kernel
theorem dX9_text_23 : decode cX9_text 23 = .ok (.iconst 1, 1) := by decide +kernel
theorem dX9_text_24 : decode cX9_text 24 = .ok (.isub, 1) := by decide +kernel
theorem dX9_text_25 : decode cX9_text 25 = .ok (.i2l, 1) := by decide +kernel
theorem dX9_text_26 : decode cX9_text 26 = .ok (.invokestatic 116, 3) := by decide +kernel
theorem dX9_text_29 : decode cX9_text 29 = .ok (.ifCond .eq 12, 3) := by decide +kernel
theorem dX9_text_32 : decode cX9_text 32 = .ok (.aload_n 0, 1) := by decide +kernel
theorem dX9_text_33 : decode cX9_text 33 = .ok (.getfield 75, 3) := by decide +kernel
theorem dX9_text_36 : decode cX9_text 36 = .ok (.iload_n 2, 1) := by decide +kernel
theorem dX9_text_37 : decode cX9_text 37 = .ok (.iaload, 1) := by decide +kernel
theorem dX9_text_38 : decode cX9_text 38 = .ok (.goto 5, 3) := by decide +kernel
theorem dX9_text_41 : decode cX9_text 41 = .ok (.bipush (-101), 2) := by decide +kernel
theorem dX9_text_43 : decode cX9_text 43 = .ok (.ireturn, 1) := by decide +kernel
theorem dX9_factorNow_0 : decode cX9_factorNow 0 = .ok (.iload_n 2, 1) := by decide +kernel
theorem dX9_factorNow_1 : decode cX9_factorNow 1 = .ok (.ifCond .ne 12, 3) := by decide +kernel
theorem dX9_factorNow_4 : decode cX9_factorNow 4 = .ok (.aload_n 0, 1) := by decide +kernel
theorem dX9_factorNow_5 : decode cX9_factorNow 5 = .ok (.getfield 48, 3) := by decide +kernel
theorem dX9_factorNow_8 : decode cX9_factorNow 8 = .ok (.iload_n 1, 1) := by decide +kernel
theorem dX9_factorNow_9 : decode cX9_factorNow 9 = .ok (.iaload, 1) := by decide +kernel
theorem dX9_factorNow_10 : decode cX9_factorNow 10 = .ok (.goto 35, 3) := by decide +kernel
theorem dX9_factorNow_13 : decode cX9_factorNow 13 = .ok (.iload_n 2, 1) := by decide +kernel
theorem dX9_factorNow_14 : decode cX9_factorNow 14 = .ok (.iconst 1, 1) := by decide +kernel
theorem dX9_factorNow_15 : decode cX9_factorNow 15 = .ok (.if_icmp .ne 12, 3) := by decide +kernel
theorem dX9_factorNow_18 : decode cX9_factorNow 18 = .ok (.aload_n 0, 1) := by decide +kernel
theorem dX9_factorNow_19 : decode cX9_factorNow 19 = .ok (.getfield 45, 3) := by decide +kernel
theorem dX9_factorNow_22 : decode cX9_factorNow 22 = .ok (.iload_n 1, 1) := by decide +kernel
theorem dX9_factorNow_23 : decode cX9_factorNow 23 = .ok (.iaload, 1) := by decide +kernel
theorem dX9_factorNow_24 : decode cX9_factorNow 24 = .ok (.goto 21, 3) := by decide +kernel
theorem dX9_factorNow_27 : decode cX9_factorNow 27 = .ok (.aload_n 0, 1) := by decide +kernel
theorem dX9_factorNow_28 : decode cX9_factorNow 28 = .ok (.getfield 42, 3) := by decide +kernel
theorem dX9_factorNow_31 : decode cX9_factorNow 31 = .ok (.bipush 6, 2) := by decide +kernel
theorem dX9_factorNow_33 : decode cX9_factorNow 33 = .ok (.iload_n 1, 1) := by decide +kernel
theorem dX9_factorNow_34 : decode cX9_factorNow 34 = .ok (.imul, 1) := by decide +kernel
theorem dX9_factorNow_35 : decode cX9_factorNow 35 = .ok (.iload_n 2, 1) := by decide +kernel
theorem dX9_factorNow_36 : decode cX9_factorNow 36 = .ok (.iadd, 1) := by decide +kernel
theorem dX9_factorNow_37 : decode cX9_factorNow 37 = .ok (.iconst 2, 1) := by decide +kernel
theorem dX9_factorNow_38 : decode cX9_factorNow 38 = .ok (.isub, 1) := by decide +kernel
theorem dX9_factorNow_39 : decode cX9_factorNow 39 = .ok (.laload, 1) := by decide +kernel
theorem dX9_factorNow_40 : decode cX9_factorNow 40 = .ok (.l2i, 1) := by decide +kernel
theorem dX9_factorNow_41 : decode cX9_factorNow 41 = .ok (.ldc_w 337, 3) := by decide +kernel
theorem dX9_factorNow_44 : decode cX9_factorNow 44 = .ok (.iadd, 1) := by decide +kernel
theorem dX9_factorNow_45 : decode cX9_factorNow 45 = .ok (.ireturn, 1) := by decide +kernel
theorem dX9_factor_0 : decode cX9_factor 0 = .ok (.aload_n 0, 1) := by decide +kernel
theorem dX9_factor_1 : decode cX9_factor 1 = .ok (.iload_n 1, 1) := by decide +kernel
theorem dX9_factor_2 : decode cX9_factor 2 = .ok (.invokevirtual 299, 3) := by decide +kernel
theorem dX9_factor_5 : decode cX9_factor 5 = .ok (.ifCond .ne 6, 3) := by decide +kernel
theorem dX9_factor_8 : decode cX9_factor 8 = .ok (.bipush (-101), 2) := by decide +kernel
theorem dX9_factor_10 : decode cX9_factor 10 = .ok (.ireturn, 1) := by decide +kernel
theorem dX9_factor_11 : decode cX9_factor 11 = .ok (.aload_n 0, 1) := by decide +kernel
theorem dX9_factor_12 : decode cX9_factor 12 = .ok (.iload_n 1, 1) := by decide +kernel
theorem dX9_factor_13 : decode cX9_factor 13 = .ok (.invokevirtual 305, 3) := by decide +kernel
theorem dX9_factor_16 : decode cX9_factor 16 = .ok (.aload_n 0, 1) := by decide +kernel
theorem dX9_factor_17 : decode cX9_factor 17 = .ok (.invokevirtual 249, 3) := by decide +kernel
theorem dX9_factor_20 : decode cX9_factor 20 = .ok (.iload_n 2, 1) := by decide +kernel
theorem dX9_factor_21 : decode cX9_factor 21 = .ok (.i2l, 1) := by decide +kernel
theorem dX9_factor_22 : decode cX9_factor 22 = .ok (.lconst 0, 1) := by decide +kernel
theorem dX9_factor_23 : decode cX9_factor 23 = .ok (.aload_n 0, 1) := by decide +kernel
theorem dX9_factor_24 : decode cX9_factor 24 = .ok (.getfield 191, 3) := by decide +kernel
theorem dX9_factor_27 : decode cX9_factor 27 = .ok (.iconst 1, 1) := by decide +kernel
theorem dX9_factor_28 : decode cX9_factor 28 = .ok (.isub, 1) := by decide +kernel
theorem dX9_factor_29 : decode cX9_factor 29 = .ok (.i2l, 1) := by decide +kernel
theorem dX9_factor_30 : decode cX9_factor 30 = .ok (.invokestatic 116, 3) := by decide +kernel
theorem dX9_factor_33 : decode cX9_factor 33 = .ok (.ifCond .ne 8, 3) := by decide +kernel
theorem dX9_factor_36 : decode cX9_factor 36 = .ok (.bipush (-101), 2) := by decide +kernel
theorem dX9_factor_38 : decode cX9_factor 38 = .ok (.goto 26, 3) := by decide +kernel
theorem dX9_factor_41 : decode cX9_factor 41 = .ok (.iload_n 3, 1) := by decide +kernel
theorem dX9_factor_42 : decode cX9_factor 42 = .ok (.i2l, 1) := by decide +kernel
theorem dX9_factor_43 : decode cX9_factor 43 = .ok (.lconst 0, 1) := by decide +kernel
theorem dX9_factor_44 : decode cX9_factor 44 = .ok (.ldc2_w 327, 3) := by decide +kernel
theorem dX9_factor_47 : decode cX9_factor 47 = .ok (.invokestatic 116, 3) := by decide +kernel
theorem dX9_factor_50 : decode cX9_factor 50 = .ok (.ifCond .eq 12, 3) := by decide +kernel
theorem dX9_factor_53 : decode cX9_factor 53 = .ok (.aload_n 0, 1) := by decide +kernel
theorem dX9_factor_54 : decode cX9_factor 54 = .ok (.iload_n 2, 1) := by decide +kernel
theorem dX9_factor_55 : decode cX9_factor 55 = .ok (.iload_n 3, 1) := by decide +kernel
theorem dX9_factor_56 : decode cX9_factor 56 = .ok (.invokevirtual 338, 3) := by decide +kernel
theorem dX9_factor_59 : decode cX9_factor 59 = .ok (.goto 5, 3) := by decide +kernel
theorem dX9_factor_62 : decode cX9_factor 62 = .ok (.bipush (-102), 2) := by decide +kernel
theorem dX9_factor_64 : decode cX9_factor 64 = .ok (.ireturn, 1) := by decide +kernel
theorem dX9_valueNow_0 : decode cX9_valueNow 0 = .ok (.lconst 0, 1) := by decide +kernel
theorem dX9_valueNow_1 : decode cX9_valueNow 1 = .ok (.lstore_n 3, 1) := by decide +kernel
theorem dX9_valueNow_2 : decode cX9_valueNow 2 = .ok (.iconst 5, 1) := by decide +kernel
theorem dX9_valueNow_3 : decode cX9_valueNow 3 = .ok (.istore 5, 2) := by decide +kernel
theorem dX9_valueNow_5 : decode cX9_valueNow 5 = .ok (.iload 5, 2) := by decide +kernel
theorem dX9_valueNow_7 : decode cX9_valueNow 7 = .ok (.ifCond .lt 27, 3) := by decide +kernel
theorem dX9_valueNow_10 : decode cX9_valueNow 10 = .ok (.lload_n 3, 1) := by decide +kernel
theorem dX9_valueNow_11 : decode cX9_valueNow 11 = .ok (.iload_n 2, 1) := by decide +kernel
theorem dX9_valueNow_12 : decode cX9_valueNow 12 = .ok (.i2l, 1) := by decide +kernel
theorem dX9_valueNow_13 : decode cX9_valueNow 13 = .ok (.lmul, 1) := by decide +kernel
theorem dX9_valueNow_14 : decode cX9_valueNow 14 = .ok (.aload_n 0, 1) := by decide +kernel
theorem dX9_valueNow_15 : decode cX9_valueNow 15 = .ok (.getfield 13, 3) := by decide +kernel
theorem dX9_valueNow_18 : decode cX9_valueNow 18 = .ok (.bipush 6, 2) := by decide +kernel
theorem dX9_valueNow_20 : decode cX9_valueNow 20 = .ok (.iload_n 1, 1) := by decide +kernel
theorem dX9_valueNow_21 : decode cX9_valueNow 21 = .ok (.imul, 1) := by decide +kernel
theorem dX9_valueNow_22 : decode cX9_valueNow 22 = .ok (.iload 5, 2) := by decide +kernel
theorem dX9_valueNow_24 : decode cX9_valueNow 24 = .ok (.iadd, 1) := by decide +kernel
theorem dX9_valueNow_25 : decode cX9_valueNow 25 = .ok (.laload, 1) := by decide +kernel
theorem dX9_valueNow_26 : decode cX9_valueNow 26 = .ok (.ladd, 1) := by decide +kernel
theorem dX9_valueNow_27 : decode cX9_valueNow 27 = .ok (.lstore_n 3, 1) := by decide +kernel
theorem dX9_valueNow_28 : decode cX9_valueNow 28 = .ok (.iinc 5 (-1), 3) := by decide +kernel
theorem dX9_valueNow_31 : decode cX9_valueNow 31 = .ok (.goto (-26), 3) := by decide +kernel
theorem dX9_valueNow_34 : decode cX9_valueNow 34 = .ok (.lload_n 3, 1) := by decide +kernel
theorem dX9_valueNow_35 : decode cX9_valueNow 35 = .ok (.lreturn, 1) := by decide +kernel
theorem dX9_value_0 : decode cX9_value 0 = .ok (.aload_n 0, 1) := by decide +kernel
theorem dX9_value_1 : decode cX9_value 1 = .ok (.iload_n 1, 1) := by decide +kernel
theorem dX9_value_2 : decode cX9_value 2 = .ok (.invokevirtual 299, 3) := by decide +kernel
theorem dX9_value_5 : decode cX9_value 5 = .ok (.ifCond .ne 9, 3) := by decide +kernel
theorem dX9_value_8 : decode cX9_value 8 = .ok (.ldc2_w 341, 3) := by decide +kernel
theorem dX9_value_11 : decode cX9_value 11 = .ok (.goto 29, 3) := by decide +kernel
theorem dX9_value_14 : decode cX9_value 14 = .ok (.iload_n 2, 1) := by decide +kernel
theorem dX9_value_15 : decode cX9_value 15 = .ok (.i2l, 1) := by decide +kernel
theorem dX9_value_16 : decode cX9_value 16 = .ok (.ldc2_w 343, 3) := by decide +kernel
theorem dX9_value_19 : decode cX9_value 19 = .ok (.ldc2_w 293, 3) := by decide +kernel
theorem dX9_value_22 : decode cX9_value 22 = .ok (.invokestatic 116, 3) := by decide +kernel
theorem dX9_value_25 : decode cX9_value 25 = .ok (.ifCond .eq 12, 3) := by decide +kernel
theorem dX9_value_28 : decode cX9_value 28 = .ok (.aload_n 0, 1) := by decide +kernel
theorem dX9_value_29 : decode cX9_value 29 = .ok (.iload_n 1, 1) := by decide +kernel
theorem dX9_value_30 : decode cX9_value 30 = .ok (.iload_n 2, 1) := by decide +kernel
theorem dX9_value_31 : decode cX9_value 31 = .ok (.invokevirtual 345, 3) := by decide +kernel
theorem dX9_value_34 : decode cX9_value 34 = .ok (.goto 6, 3) := by decide +kernel
theorem dX9_value_37 : decode cX9_value 37 = .ok (.ldc2_w 349, 3) := by decide +kernel
theorem dX9_value_40 : decode cX9_value 40 = .ok (.lreturn, 1) := by decide +kernel
theorem dX9_add_0 : decode cX9_add 0 = .ok (.aload_n 0, 1) := by decide +kernel
theorem dX9_add_1 : decode cX9_add 1 = .ok (.iload_n 1, 1) := by decide +kernel
theorem dX9_add_2 : decode cX9_add 2 = .ok (.invokevirtual 299, 3) := by decide +kernel
theorem dX9_add_5 : decode cX9_add 5 = .ok (.ifCond .eq 19, 3) := by decide +kernel
theorem dX9_add_8 : decode cX9_add 8 = .ok (.aload_n 0, 1) := by decide +kernel
theorem dX9_add_9 : decode cX9_add 9 = .ok (.iload_n 2, 1) := by decide +kernel
theorem dX9_add_10 : decode cX9_add 10 = .ok (.invokevirtual 299, 3) := by decide +kernel
theorem dX9_add_13 : decode cX9_add 13 = .ok (.ifCond .eq 11, 3) := by decide +kernel
theorem dX9_add_16 : decode cX9_add 16 = .ok (.aload_n 0, 1) := by decide +kernel
theorem dX9_add_17 : decode cX9_add 17 = .ok (.iload_n 3, 1) := by decide +kernel
theorem dX9_add_18 : decode cX9_add 18 = .ok (.invokevirtual 177, 3) := by decide +kernel
theorem dX9_add_21 : decode cX9_add 21 = .ok (.ifCond .ne 6, 3) := by decide +kernel
theorem dX9_add_24 : decode cX9_add 24 = .ok (.bipush (-101), 2) := by decide +kernel
theorem dX9_add_26 : decode cX9_add 26 = .ok (.ireturn, 1) := by decide +kernel
theorem dX9_add_27 : decode cX9_add 27 = .ok (.iconst 0, 1) := by decide +kernel
theorem dX9_add_28 : decode cX9_add 28 = .ok (.istore 4, 2) := by decide +kernel
theorem dX9_add_30 : decode cX9_add 30 = .ok (.iload 4, 2) := by decide +kernel
theorem dX9_add_32 : decode cX9_add 32 = .ok (.bipush 6, 2) := by decide +kernel
theorem dX9_add_34 : decode cX9_add 34 = .ok (.if_icmp .ge 41, 3) := by decide +kernel
theorem dX9_add_37 : decode cX9_add 37 = .ok (.aload_n 0, 1) := by decide +kernel
theorem dX9_add_38 : decode cX9_add 38 = .ok (.getfield 39, 3) := by decide +kernel
theorem dX9_add_41 : decode cX9_add 41 = .ok (.iload 4, 2) := by decide +kernel
theorem dX9_add_43 : decode cX9_add 43 = .ok (.aload_n 0, 1) := by decide +kernel
theorem dX9_add_44 : decode cX9_add 44 = .ok (.getfield 13, 3) := by decide +kernel
theorem dX9_add_47 : decode cX9_add 47 = .ok (.bipush 6, 2) := by decide +kernel
theorem dX9_add_49 : decode cX9_add 49 = .ok (.iload_n 1, 1) := by decide +kernel
theorem dX9_add_50 : decode cX9_add 50 = .ok (.imul, 1) := by decide +kernel
theorem dX9_add_51 : decode cX9_add 51 = .ok (.iload 4, 2) := by decide +kernel
theorem dX9_add_53 : decode cX9_add 53 = .ok (.iadd, 1) := by decide +kernel
theorem dX9_add_54 : decode cX9_add 54 = .ok (.laload, 1) := by decide +kernel
theorem dX9_add_55 : decode cX9_add 55 = .ok (.aload_n 0, 1) := by decide +kernel
theorem dX9_add_56 : decode cX9_add 56 = .ok (.getfield 13, 3) := by decide +kernel
theorem dX9_add_59 : decode cX9_add 59 = .ok (.bipush 6, 2) := by decide +kernel
theorem dX9_add_61 : decode cX9_add 61 = .ok (.iload_n 2, 1) := by decide +kernel
theorem dX9_add_62 : decode cX9_add 62 = .ok (.imul, 1) := by decide +kernel
theorem dX9_add_63 : decode cX9_add 63 = .ok (.iload 4, 2) := by decide +kernel
theorem dX9_add_65 : decode cX9_add 65 = .ok (.iadd, 1) := by decide +kernel
theorem dX9_add_66 : decode cX9_add 66 = .ok (.laload, 1) := by decide +kernel
theorem dX9_add_67 : decode cX9_add 67 = .ok (.ladd, 1) := by decide +kernel
theorem dX9_add_68 : decode cX9_add 68 = .ok (.lastore, 1) := by decide +kernel
theorem dX9_add_69 : decode cX9_add 69 = .ok (.iinc 4 1, 3) := by decide +kernel
theorem dX9_add_72 : decode cX9_add 72 = .ok (.goto (-42), 3) := by decide +kernel
theorem dX9_add_75 : decode cX9_add 75 = .ok (.aload_n 0, 1) := by decide +kernel
theorem dX9_add_76 : decode cX9_add 76 = .ok (.invokevirtual 234, 3) := by decide +kernel
theorem dX9_add_79 : decode cX9_add 79 = .ok (.iconst (-1), 1) := by decide +kernel
theorem dX9_add_80 : decode cX9_add 80 = .ok (.if_icmp .ne 8, 3) := by decide +kernel
theorem dX9_add_83 : decode cX9_add 83 = .ok (.bipush (-103), 2) := by decide +kernel
theorem dX9_add_85 : decode cX9_add 85 = .ok (.goto 8, 3) := by decide +kernel
theorem dX9_add_88 : decode cX9_add 88 = .ok (.aload_n 0, 1) := by decide +kernel
theorem dX9_add_89 : decode cX9_add 89 = .ok (.iload_n 3, 1) := by decide +kernel
theorem dX9_add_90 : decode cX9_add 90 = .ok (.invokevirtual 280, 3) := by decide +kernel
theorem dX9_add_93 : decode cX9_add 93 = .ok (.ireturn, 1) := by decide +kernel
theorem dX9_times_0 : decode cX9_times 0 = .ok (.aload_n 0, 1) := by decide +kernel
theorem dX9_times_1 : decode cX9_times 1 = .ok (.iload_n 1, 1) := by decide +kernel
theorem dX9_times_2 : decode cX9_times 2 = .ok (.invokevirtual 299, 3) := by decide +kernel
theorem dX9_times_5 : decode cX9_times 5 = .ok (.ifCond .eq 19, 3) := by decide +kernel
theorem dX9_times_8 : decode cX9_times 8 = .ok (.aload_n 0, 1) := by decide +kernel
theorem dX9_times_9 : decode cX9_times 9 = .ok (.iload_n 2, 1) := by decide +kernel
theorem dX9_times_10 : decode cX9_times 10 = .ok (.invokevirtual 299, 3) := by decide +kernel
theorem dX9_times_13 : decode cX9_times 13 = .ok (.ifCond .eq 11, 3) := by decide +kernel
theorem dX9_times_16 : decode cX9_times 16 = .ok (.aload_n 0, 1) := by decide +kernel
theorem dX9_times_17 : decode cX9_times 17 = .ok (.iload_n 3, 1) := by decide +kernel
theorem dX9_times_18 : decode cX9_times 18 = .ok (.invokevirtual 177, 3) := by decide +kernel
theorem dX9_times_21 : decode cX9_times 21 = .ok (.ifCond .ne 6, 3) := by decide +kernel
theorem dX9_times_24 : decode cX9_times 24 = .ok (.bipush (-101), 2) := by decide +kernel
theorem dX9_times_26 : decode cX9_times 26 = .ok (.ireturn, 1) := by decide +kernel
theorem dX9_times_27 : decode cX9_times 27 = .ok (.aload_n 0, 1) := by decide +kernel
theorem dX9_times_28 : decode cX9_times 28 = .ok (.getfield 17, 3) := by decide +kernel
theorem dX9_times_31 : decode cX9_times 31 = .ok (.iload_n 1, 1) := by decide +kernel
theorem dX9_times_32 : decode cX9_times 32 = .ok (.iaload, 1) := by decide +kernel
theorem dX9_times_33 : decode cX9_times 33 = .ok (.aload_n 0, 1) := by decide +kernel
theorem dX9_times_34 : decode cX9_times 34 = .ok (.getfield 17, 3) := by decide +kernel
theorem dX9_times_37 : decode cX9_times 37 = .ok (.iload_n 2, 1) := by decide +kernel
theorem dX9_times_38 : decode cX9_times 38 = .ok (.iaload, 1) := by decide +kernel
theorem dX9_times_39 : decode cX9_times 39 = .ok (.iadd, 1) := by decide +kernel
theorem dX9_times_40 : decode cX9_times 40 = .ok (.iconst 5, 1) := by decide +kernel
theorem dX9_times_41 : decode cX9_times 41 = .ok (.if_icmp .le 6, 3) := by decide +kernel
theorem dX9_times_44 : decode cX9_times 44 = .ok (.bipush (-104), 2) := by decide +kernel
theorem dX9_times_46 : decode cX9_times 46 = .ok (.ireturn, 1) := by decide +kernel
theorem dX9_times_47 : decode cX9_times 47 = .ok (.aload_n 0, 1) := by decide +kernel
theorem dX9_times_48 : decode cX9_times 48 = .ok (.lconst 0, 1) := by decide +kernel
theorem dX9_times_49 : decode cX9_times 49 = .ok (.invokevirtual 252, 3) := by decide +kernel
theorem dX9_times_52 : decode cX9_times 52 = .ok (.iconst 0, 1) := by decide +kernel
theorem dX9_times_53 : decode cX9_times 53 = .ok (.istore 4, 2) := by decide +kernel
theorem dX9_times_55 : decode cX9_times 55 = .ok (.iload 4, 2) := by decide +kernel
theorem dX9_times_57 : decode cX9_times 57 = .ok (.aload_n 0, 1) := by decide +kernel
theorem dX9_times_58 : decode cX9_times 58 = .ok (.getfield 17, 3) := by decide +kernel
theorem dX9_times_61 : decode cX9_times 61 = .ok (.iload_n 1, 1) := by decide +kernel
theorem dX9_times_62 : decode cX9_times 62 = .ok (.iaload, 1) := by decide +kernel
theorem dX9_times_63 : decode cX9_times 63 = .ok (.if_icmp .gt 67, 3) := by decide +kernel
theorem dX9_times_66 : decode cX9_times 66 = .ok (.iconst 0, 1) := by decide +kernel
theorem dX9_times_67 : decode cX9_times 67 = .ok (.istore 5, 2) := by decide +kernel
theorem dX9_times_69 : decode cX9_times 69 = .ok (.iload 5, 2) := by decide +kernel
theorem dX9_times_71 : decode cX9_times 71 = .ok (.aload_n 0, 1) := by decide +kernel
theorem dX9_times_72 : decode cX9_times 72 = .ok (.getfield 17, 3) := by decide +kernel
theorem dX9_times_75 : decode cX9_times 75 = .ok (.iload_n 2, 1) := by decide +kernel
theorem dX9_times_76 : decode cX9_times 76 = .ok (.iaload, 1) := by decide +kernel
theorem dX9_times_77 : decode cX9_times 77 = .ok (.if_icmp .gt 47, 3) := by decide +kernel
theorem dX9_times_80 : decode cX9_times 80 = .ok (.aload_n 0, 1) := by decide +kernel
theorem dX9_times_81 : decode cX9_times 81 = .ok (.getfield 39, 3) := by decide +kernel
theorem dX9_times_84 : decode cX9_times 84 = .ok (.iload 4, 2) := by decide +kernel
theorem dX9_times_86 : decode cX9_times 86 = .ok (.iload 5, 2) := by decide +kernel
theorem dX9_times_88 : decode cX9_times 88 = .ok (.iadd, 1) := by decide +kernel
theorem dX9_times_89 : decode cX9_times 89 = .ok (.dup2, 1) := by decide +kernel
theorem dX9_times_90 : decode cX9_times 90 = .ok (.laload, 1) := by decide +kernel
theorem dX9_times_91 : decode cX9_times 91 = .ok (.aload_n 0, 1) := by decide +kernel
theorem dX9_times_92 : decode cX9_times 92 = .ok (.getfield 13, 3) := by decide +kernel
theorem dX9_times_95 : decode cX9_times 95 = .ok (.bipush 6, 2) := by decide +kernel
theorem dX9_times_97 : decode cX9_times 97 = .ok (.iload_n 1, 1) := by decide +kernel
theorem dX9_times_98 : decode cX9_times 98 = .ok (.imul, 1) := by decide +kernel
theorem dX9_times_99 : decode cX9_times 99 = .ok (.iload 4, 2) := by decide +kernel
theorem dX9_times_101 : decode cX9_times 101 = .ok (.iadd, 1) := by decide +kernel
theorem dX9_times_102 : decode cX9_times 102 = .ok (.laload, 1) := by decide +kernel
theorem dX9_times_103 : decode cX9_times 103 = .ok (.aload_n 0, 1) := by decide +kernel
theorem dX9_times_104 : decode cX9_times 104 = .ok (.getfield 13, 3) := by decide +kernel
theorem dX9_times_107 : decode cX9_times 107 = .ok (.bipush 6, 2) := by decide +kernel
theorem dX9_times_109 : decode cX9_times 109 = .ok (.iload_n 2, 1) := by decide +kernel
theorem dX9_times_110 : decode cX9_times 110 = .ok (.imul, 1) := by decide +kernel
theorem dX9_times_111 : decode cX9_times 111 = .ok (.iload 5, 2) := by decide +kernel
theorem dX9_times_113 : decode cX9_times 113 = .ok (.iadd, 1) := by decide +kernel
theorem dX9_times_114 : decode cX9_times 114 = .ok (.laload, 1) := by decide +kernel
theorem dX9_times_115 : decode cX9_times 115 = .ok (.lmul, 1) := by decide +kernel
theorem dX9_times_116 : decode cX9_times 116 = .ok (.ladd, 1) := by decide +kernel
theorem dX9_times_117 : decode cX9_times 117 = .ok (.lastore, 1) := by decide +kernel
theorem dX9_times_118 : decode cX9_times 118 = .ok (.iinc 5 1, 3) := by decide +kernel
theorem dX9_times_121 : decode cX9_times 121 = .ok (.goto (-52), 3) := by decide +kernel
theorem dX9_times_124 : decode cX9_times 124 = .ok (.iinc 4 1, 3) := by decide +kernel
theorem dX9_times_127 : decode cX9_times 127 = .ok (.goto (-72), 3) := by decide +kernel
theorem dX9_times_130 : decode cX9_times 130 = .ok (.aload_n 0, 1) := by decide +kernel
theorem dX9_times_131 : decode cX9_times 131 = .ok (.iload_n 3, 1) := by decide +kernel
theorem dX9_times_132 : decode cX9_times 132 = .ok (.invokevirtual 280, 3) := by decide +kernel
theorem dX9_times_135 : decode cX9_times 135 = .ok (.ireturn, 1) := by decide +kernel
theorem dX9_oftenOf_0 : decode cX9_oftenOf 0 = .ok (.iconst 0, 1) := by decide +kernel
theorem dX9_oftenOf_1 : decode cX9_oftenOf 1 = .ok (.istore_n 2, 1) := by decide +kernel
theorem dX9_oftenOf_2 : decode cX9_oftenOf 2 = .ok (.iload_n 2, 1) := by decide +kernel
theorem dX9_oftenOf_3 : decode cX9_oftenOf 3 = .ok (.aload_n 0, 1) := by decide +kernel
theorem dX9_oftenOf_4 : decode cX9_oftenOf 4 = .ok (.getfield 191, 3) := by decide +kernel
theorem dX9_oftenOf_7 : decode cX9_oftenOf 7 = .ok (.if_icmp .ge 76, 3) := by decide +kernel
theorem dX9_oftenOf_10 : decode cX9_oftenOf 10 = .ok (.iconst 1, 1) := by decide +kernel
theorem dX9_oftenOf_11 : decode cX9_oftenOf 11 = .ok (.istore_n 3, 1) := by decide +kernel
theorem dX9_oftenOf_12 : decode cX9_oftenOf 12 = .ok (.iconst 0, 1) := by decide +kernel
theorem dX9_oftenOf_13 : decode cX9_oftenOf 13 = .ok (.istore 4, 2) := by decide +kernel
theorem dX9_oftenOf_15 : decode cX9_oftenOf 15 = .ok (.iload 4, 2) := by decide +kernel
theorem dX9_oftenOf_17 : decode cX9_oftenOf 17 = .ok (.bipush 6, 2) := by decide +kernel
theorem dX9_oftenOf_19 : decode cX9_oftenOf 19 = .ok (.if_icmp .ge 47, 3) := by decide +kernel
theorem dX9_oftenOf_22 : decode cX9_oftenOf 22 = .ok (.iload_n 3, 1) := by decide +kernel
theorem dX9_oftenOf_23 : decode cX9_oftenOf 23 = .ok (.ifCond .eq 35, 3) := by decide +kernel
theorem dX9_oftenOf_26 : decode cX9_oftenOf 26 = .ok (.aload_n 0, 1) := by decide +kernel
theorem dX9_oftenOf_27 : decode cX9_oftenOf 27 = .ok (.getfield 42, 3) := by decide +kernel
theorem dX9_oftenOf_30 : decode cX9_oftenOf 30 = .ok (.bipush 6, 2) := by decide +kernel
theorem dX9_oftenOf_32 : decode cX9_oftenOf 32 = .ok (.iload_n 2, 1) := by decide +kernel
theorem dX9_oftenOf_33 : decode cX9_oftenOf 33 = .ok (.imul, 1) := by decide +kernel
theorem dX9_oftenOf_34 : decode cX9_oftenOf 34 = .ok (.iload 4, 2) := by decide +kernel
theorem dX9_oftenOf_36 : decode cX9_oftenOf 36 = .ok (.iadd, 1) := by decide +kernel
theorem dX9_oftenOf_37 : decode cX9_oftenOf 37 = .ok (.laload, 1) := by decide +kernel
theorem dX9_oftenOf_38 : decode cX9_oftenOf 38 = .ok (.aload_n 0, 1) := by decide +kernel
theorem dX9_oftenOf_39 : decode cX9_oftenOf 39 = .ok (.getfield 78, 3) := by decide +kernel
theorem dX9_oftenOf_42 : decode cX9_oftenOf 42 = .ok (.bipush 6, 2) := by decide +kernel
theorem dX9_oftenOf_44 : decode cX9_oftenOf 44 = .ok (.iload_n 1, 1) := by decide +kernel
theorem dX9_oftenOf_45 : decode cX9_oftenOf 45 = .ok (.imul, 1) := by decide +kernel
theorem dX9_oftenOf_46 : decode cX9_oftenOf 46 = .ok (.iload 4, 2) := by decide +kernel
theorem dX9_oftenOf_48 : decode cX9_oftenOf 48 = .ok (.iadd, 1) := by decide +kernel
theorem dX9_oftenOf_49 : decode cX9_oftenOf 49 = .ok (.laload, 1) := by decide +kernel
theorem dX9_oftenOf_50 : decode cX9_oftenOf 50 = .ok (.lcmp, 1) := by decide +kernel
theorem dX9_oftenOf_51 : decode cX9_oftenOf 51 = .ok (.ifCond .ne 7, 3) := by decide +kernel
theorem dX9_oftenOf_54 : decode cX9_oftenOf 54 = .ok (.iconst 1, 1) := by decide +kernel
theorem dX9_oftenOf_55 : decode cX9_oftenOf 55 = .ok (.goto 4, 3) := by decide +kernel
theorem dX9_oftenOf_58 : decode cX9_oftenOf 58 = .ok (.iconst 0, 1) := by decide +kernel
theorem dX9_oftenOf_59 : decode cX9_oftenOf 59 = .ok (.istore_n 3, 1) := by decide +kernel
theorem dX9_oftenOf_60 : decode cX9_oftenOf 60 = .ok (.iinc 4 1, 3) := by decide +kernel
theorem dX9_oftenOf_63 : decode cX9_oftenOf 63 = .ok (.goto (-48), 3) := by decide +kernel
theorem dX9_oftenOf_66 : decode cX9_oftenOf 66 = .ok (.iload_n 3, 1) := by decide +kernel
theorem dX9_oftenOf_67 : decode cX9_oftenOf 67 = .ok (.ifCond .eq 10, 3) := by decide +kernel
theorem dX9_oftenOf_70 : decode cX9_oftenOf 70 = .ok (.aload_n 0, 1) := by decide +kernel
theorem dX9_oftenOf_71 : decode cX9_oftenOf 71 = .ok (.getfield 45, 3) := by decide +kernel
theorem dX9_oftenOf_74 : decode cX9_oftenOf 74 = .ok (.iload_n 2, 1) := by decide +kernel
theorem dX9_oftenOf_75 : decode cX9_oftenOf 75 = .ok (.iaload, 1) := by decide +kernel
theorem dX9_oftenOf_76 : decode cX9_oftenOf 76 = .ok (.ireturn, 1) := by decide +kernel
theorem dX9_oftenOf_77 : decode cX9_oftenOf 77 = .ok (.iinc 2 1, 3) := by decide +kernel
theorem dX9_oftenOf_80 : decode cX9_oftenOf 80 = .ok (.goto (-78), 3) := by decide +kernel
theorem dX9_oftenOf_83 : decode cX9_oftenOf 83 = .ok (.iconst 0, 1) := by decide +kernel
theorem dX9_oftenOf_84 : decode cX9_oftenOf 84 = .ok (.ireturn, 1) := by decide +kernel
theorem dX9_common_0 : decode cX9_common 0 = .ok (.aload_n 0, 1) := by decide +kernel
theorem dX9_common_1 : decode cX9_common 1 = .ok (.iload_n 1, 1) := by decide +kernel
theorem dX9_common_2 : decode cX9_common 2 = .ok (.invokevirtual 299, 3) := by decide +kernel
theorem dX9_common_5 : decode cX9_common 5 = .ok (.ifCond .eq 19, 3) := by decide +kernel
theorem dX9_common_8 : decode cX9_common 8 = .ok (.aload_n 0, 1) := by decide +kernel
theorem dX9_common_9 : decode cX9_common 9 = .ok (.iload_n 2, 1) := by decide +kernel
theorem dX9_common_10 : decode cX9_common 10 = .ok (.invokevirtual 299, 3) := by decide +kernel
theorem dX9_common_13 : decode cX9_common 13 = .ok (.ifCond .eq 11, 3) := by decide +kernel
theorem dX9_common_16 : decode cX9_common 16 = .ok (.aload_n 0, 1) := by decide +kernel
theorem dX9_common_17 : decode cX9_common 17 = .ok (.iload_n 3, 1) := by decide +kernel
theorem dX9_common_18 : decode cX9_common 18 = .ok (.invokevirtual 177, 3) := by decide +kernel
theorem dX9_common_21 : decode cX9_common 21 = .ok (.ifCond .ne 6, 3) := by decide +kernel
theorem dX9_common_24 : decode cX9_common 24 = .ok (.bipush (-101), 2) := by decide +kernel
theorem dX9_common_26 : decode cX9_common 26 = .ok (.ireturn, 1) := by decide +kernel
theorem dX9_common_27 : decode cX9_common 27 = .ok (.aload_n 0, 1) := by decide +kernel
theorem dX9_common_28 : decode cX9_common 28 = .ok (.iload_n 1, 1) := by decide +kernel
theorem dX9_common_29 : decode cX9_common 29 = .ok (.invokevirtual 305, 3) := by decide +kernel
theorem dX9_common_32 : decode cX9_common 32 = .ok (.aload_n 0, 1) := by decide +kernel
theorem dX9_common_33 : decode cX9_common 33 = .ok (.invokevirtual 249, 3) := by decide +kernel
theorem dX9_common_36 : decode cX9_common 36 = .ok (.aload_n 0, 1) := by decide +kernel
theorem dX9_common_37 : decode cX9_common 37 = .ok (.invokevirtual 240, 3) := by decide +kernel
theorem dX9_common_40 : decode cX9_common 40 = .ok (.aload_n 0, 1) := by decide +kernel
theorem dX9_common_41 : decode cX9_common 41 = .ok (.aload_n 0, 1) := by decide +kernel
theorem dX9_common_42 : decode cX9_common 42 = .ok (.getfield 191, 3) := by decide +kernel
theorem dX9_common_45 : decode cX9_common 45 = .ok (.putfield 351, 3) := by decide +kernel
theorem dX9_common_48 : decode cX9_common 48 = .ok (.aload_n 0, 1) := by decide +kernel
theorem dX9_common_49 : decode cX9_common 49 = .ok (.aload_n 0, 1) := by decide +kernel
theorem dX9_common_50 : decode cX9_common 50 = .ok (.getfield 230, 3) := by decide +kernel
theorem dX9_common_53 : decode cX9_common 53 = .ok (.putfield 354, 3) := by decide +kernel
theorem dX9_common_56 : decode cX9_common 56 = .ok (.iconst 0, 1) := by decide +kernel
theorem dX9_common_57 : decode cX9_common 57 = .ok (.istore 4, 2) := by decide +kernel
theorem dX9_common_59 : decode cX9_common 59 = .ok (.iload 4, 2) := by decide +kernel
theorem dX9_common_61 : decode cX9_common 61 = .ok (.aload_n 0, 1) := by decide +kernel
theorem dX9_common_62 : decode cX9_common 62 = .ok (.getfield 191, 3) := by decide +kernel
theorem dX9_common_65 : decode cX9_common 65 = .ok (.if_icmp .ge 65, 3) := by decide +kernel
theorem dX9_common_68 : decode cX9_common 68 = .ok (.aload_n 0, 1) := by decide +kernel
theorem dX9_common_69 : decode cX9_common 69 = .ok (.getfield 81, 3) := by decide +kernel
theorem dX9_common_72 : decode cX9_common 72 = .ok (.iload 4, 2) := by decide +kernel
theorem dX9_common_74 : decode cX9_common 74 = .ok (.aload_n 0, 1) := by decide +kernel
theorem dX9_common_75 : decode cX9_common 75 = .ok (.getfield 45, 3) := by decide +kernel
theorem dX9_common_78 : decode cX9_common 78 = .ok (.iload 4, 2) := by decide +kernel
theorem dX9_common_80 : decode cX9_common 80 = .ok (.iaload, 1) := by decide +kernel
theorem dX9_common_81 : decode cX9_common 81 = .ok (.iastore, 1) := by decide +kernel
theorem dX9_common_82 : decode cX9_common 82 = .ok (.iconst 0, 1) := by decide +kernel
theorem dX9_common_83 : decode cX9_common 83 = .ok (.istore 5, 2) := by decide +kernel
theorem dX9_common_85 : decode cX9_common 85 = .ok (.iload 5, 2) := by decide +kernel
theorem dX9_common_87 : decode cX9_common 87 = .ok (.bipush 6, 2) := by decide +kernel
theorem dX9_common_89 : decode cX9_common 89 = .ok (.if_icmp .ge 35, 3) := by decide +kernel
theorem dX9_common_92 : decode cX9_common 92 = .ok (.aload_n 0, 1) := by decide +kernel
theorem dX9_common_93 : decode cX9_common 93 = .ok (.getfield 78, 3) := by decide +kernel
theorem dX9_common_96 : decode cX9_common 96 = .ok (.bipush 6, 2) := by decide +kernel
theorem dX9_common_98 : decode cX9_common 98 = .ok (.iload 4, 2) := by decide +kernel
theorem dX9_common_100 : decode cX9_common 100 = .ok (.imul, 1) := by decide +kernel
theorem dX9_common_101 : decode cX9_common 101 = .ok (.iload 5, 2) := by decide +kernel
theorem dX9_common_103 : decode cX9_common 103 = .ok (.iadd, 1) := by decide +kernel
theorem dX9_common_104 : decode cX9_common 104 = .ok (.aload_n 0, 1) := by decide +kernel
theorem dX9_common_105 : decode cX9_common 105 = .ok (.getfield 42, 3) := by decide +kernel
theorem dX9_common_108 : decode cX9_common 108 = .ok (.bipush 6, 2) := by decide +kernel
theorem dX9_common_110 : decode cX9_common 110 = .ok (.iload 4, 2) := by decide +kernel
theorem dX9_common_112 : decode cX9_common 112 = .ok (.imul, 1) := by decide +kernel
theorem dX9_common_113 : decode cX9_common 113 = .ok (.iload 5, 2) := by decide +kernel
theorem dX9_common_115 : decode cX9_common 115 = .ok (.iadd, 1) := by decide +kernel
theorem dX9_common_116 : decode cX9_common 116 = .ok (.laload, 1) := by decide +kernel
theorem dX9_common_117 : decode cX9_common 117 = .ok (.lastore, 1) := by decide +kernel
theorem dX9_common_118 : decode cX9_common 118 = .ok (.iinc 5 1, 3) := by decide +kernel
theorem dX9_common_121 : decode cX9_common 121 = .ok (.goto (-36), 3) := by decide +kernel
theorem dX9_common_124 : decode cX9_common 124 = .ok (.iinc 4 1, 3) := by decide +kernel
theorem dX9_common_127 : decode cX9_common 127 = .ok (.goto (-68), 3) := by decide +kernel
theorem dX9_common_130 : decode cX9_common 130 = .ok (.aload_n 0, 1) := by decide +kernel
theorem dX9_common_131 : decode cX9_common 131 = .ok (.iload_n 2, 1) := by decide +kernel
theorem dX9_common_132 : decode cX9_common 132 = .ok (.invokevirtual 305, 3) := by decide +kernel
theorem dX9_common_135 : decode cX9_common 135 = .ok (.aload_n 0, 1) := by decide +kernel
theorem dX9_common_136 : decode cX9_common 136 = .ok (.invokevirtual 249, 3) := by decide +kernel
theorem dX9_common_139 : decode cX9_common 139 = .ok (.aload_n 0, 1) := by decide +kernel
theorem dX9_common_140 : decode cX9_common 140 = .ok (.invokevirtual 240, 3) := by decide +kernel
theorem dX9_common_143 : decode cX9_common 143 = .ok (.aload_n 0, 1) := by decide +kernel
theorem dX9_common_144 : decode cX9_common 144 = .ok (.getfield 354, 3) := by decide +kernel
theorem dX9_common_147 : decode cX9_common 147 = .ok (.aload_n 0, 1) := by decide +kernel
theorem dX9_common_148 : decode cX9_common 148 = .ok (.getfield 230, 3) := by decide +kernel
theorem dX9_common_151 : decode cX9_common 151 = .ok (.invokestatic 214, 3) := by decide +kernel
theorem dX9_common_154 : decode cX9_common 154 = .ok (.lstore 4, 2) := by decide +kernel
theorem dX9_common_156 : decode cX9_common 156 = .ok (.iconst 0, 1) := by decide +kernel
theorem dX9_common_157 : decode cX9_common 157 = .ok (.istore 6, 2) := by decide +kernel
theorem dX9_common_159 : decode cX9_common 159 = .ok (.iload 6, 2) := by decide +kernel
theorem dX9_common_161 : decode cX9_common 161 = .ok (.aload_n 0, 1) := by decide +kernel
theorem dX9_common_162 : decode cX9_common 162 = .ok (.getfield 351, 3) := by decide +kernel
theorem dX9_common_165 : decode cX9_common 165 = .ok (.if_icmp .ge 48, 3) := by decide +kernel
theorem dX9_common_168 : decode cX9_common 168 = .ok (.aload_n 0, 1) := by decide +kernel
theorem dX9_common_169 : decode cX9_common 169 = .ok (.iload 6, 2) := by decide +kernel
theorem dX9_common_171 : decode cX9_common 171 = .ok (.invokevirtual 357, 3) := by decide +kernel
theorem dX9_common_174 : decode cX9_common 174 = .ok (.istore 7, 2) := by decide +kernel
theorem dX9_common_176 : decode cX9_common 176 = .ok (.aload_n 0, 1) := by decide +kernel
theorem dX9_common_177 : decode cX9_common 177 = .ok (.getfield 81, 3) := by decide +kernel
theorem dX9_common_180 : decode cX9_common 180 = .ok (.iload 6, 2) := by decide +kernel
theorem dX9_common_182 : decode cX9_common 182 = .ok (.iload 7, 2) := by decide +kernel
theorem dX9_common_184 : decode cX9_common 184 = .ok (.aload_n 0, 1) := by decide +kernel
theorem dX9_common_185 : decode cX9_common 185 = .ok (.getfield 81, 3) := by decide +kernel
theorem dX9_common_188 : decode cX9_common 188 = .ok (.iload 6, 2) := by decide +kernel
theorem dX9_common_190 : decode cX9_common 190 = .ok (.iaload, 1) := by decide +kernel
theorem dX9_common_191 : decode cX9_common 191 = .ok (.if_icmp .ge 8, 3) := by decide +kernel
theorem dX9_common_194 : decode cX9_common 194 = .ok (.iload 7, 2) := by decide +kernel
theorem dX9_common_196 : decode cX9_common 196 = .ok (.goto 10, 3) := by decide +kernel
theorem dX9_common_199 : decode cX9_common 199 = .ok (.aload_n 0, 1) := by decide +kernel
theorem dX9_common_200 : decode cX9_common 200 = .ok (.getfield 81, 3) := by decide +kernel
theorem dX9_common_203 : decode cX9_common 203 = .ok (.iload 6, 2) := by decide +kernel
theorem dX9_common_205 : decode cX9_common 205 = .ok (.iaload, 1) := by decide +kernel
theorem dX9_common_206 : decode cX9_common 206 = .ok (.iastore, 1) := by decide +kernel
theorem dX9_common_207 : decode cX9_common 207 = .ok (.iinc 6 1, 3) := by decide +kernel
theorem dX9_common_210 : decode cX9_common 210 = .ok (.goto (-51), 3) := by decide +kernel
theorem dX9_common_213 : decode cX9_common 213 = .ok (.aload_n 0, 1) := by decide +kernel
theorem dX9_common_214 : decode cX9_common 214 = .ok (.lload 4, 2) := by decide +kernel
theorem dX9_common_216 : decode cX9_common 216 = .ok (.invokevirtual 252, 3) := by decide +kernel
theorem dX9_common_219 : decode cX9_common 219 = .ok (.iconst 0, 1) := by decide +kernel
theorem dX9_common_220 : decode cX9_common 220 = .ok (.istore 6, 2) := by decide +kernel
theorem dX9_common_222 : decode cX9_common 222 = .ok (.iload 6, 2) := by decide +kernel
theorem dX9_common_224 : decode cX9_common 224 = .ok (.aload_n 0, 1) := by decide +kernel
theorem dX9_common_225 : decode cX9_common 225 = .ok (.getfield 351, 3) := by decide +kernel
theorem dX9_common_228 : decode cX9_common 228 = .ok (.if_icmp .ge 36, 3) := by decide +kernel
theorem dX9_common_231 : decode cX9_common 231 = .ok (.iconst 0, 1) := by decide +kernel
theorem dX9_common_232 : decode cX9_common 232 = .ok (.istore 7, 2) := by decide +kernel
theorem dX9_common_234 : decode cX9_common 234 = .ok (.iload 7, 2) := by decide +kernel
theorem dX9_common_236 : decode cX9_common 236 = .ok (.aload_n 0, 1) := by decide +kernel
theorem dX9_common_237 : decode cX9_common 237 = .ok (.getfield 81, 3) := by decide +kernel
theorem dX9_common_240 : decode cX9_common 240 = .ok (.iload 6, 2) := by decide +kernel
theorem dX9_common_242 : decode cX9_common 242 = .ok (.iaload, 1) := by decide +kernel
theorem dX9_common_243 : decode cX9_common 243 = .ok (.if_icmp .ge 15, 3) := by decide +kernel
theorem dX9_common_246 : decode cX9_common 246 = .ok (.aload_n 0, 1) := by decide +kernel
theorem dX9_common_247 : decode cX9_common 247 = .ok (.iload 6, 2) := by decide +kernel
theorem dX9_common_249 : decode cX9_common 249 = .ok (.invokevirtual 360, 3) := by decide +kernel
theorem dX9_common_252 : decode cX9_common 252 = .ok (.iinc 7 1, 3) := by decide +kernel
theorem dX9_common_255 : decode cX9_common 255 = .ok (.goto (-21), 3) := by decide +kernel
theorem dX9_common_258 : decode cX9_common 258 = .ok (.iinc 6 1, 3) := by decide +kernel
theorem dX9_common_261 : decode cX9_common 261 = .ok (.goto (-39), 3) := by decide +kernel
theorem dX9_common_264 : decode cX9_common 264 = .ok (.aload_n 0, 1) := by decide +kernel
theorem dX9_common_265 : decode cX9_common 265 = .ok (.iload_n 3, 1) := by decide +kernel
theorem dX9_common_266 : decode cX9_common 266 = .ok (.invokevirtual 280, 3) := by decide +kernel
theorem dX9_common_269 : decode cX9_common 269 = .ok (.ireturn, 1) := by decide +kernel
theorem dX9_timesHad_0 : decode cX9_timesHad 0 = .ok (.iconst 0, 1) := by decide +kernel
theorem dX9_timesHad_1 : decode cX9_timesHad 1 = .ok (.istore_n 2, 1) := by decide +kernel
theorem dX9_timesHad_2 : decode cX9_timesHad 2 = .ok (.iload_n 2, 1) := by decide +kernel
theorem dX9_timesHad_3 : decode cX9_timesHad 3 = .ok (.bipush 12, 2) := by decide +kernel
theorem dX9_timesHad_5 : decode cX9_timesHad 5 = .ok (.if_icmp .ge 16, 3) := by decide +kernel
theorem dX9_timesHad_8 : decode cX9_timesHad 8 = .ok (.aload_n 0, 1) := by decide +kernel
theorem dX9_timesHad_9 : decode cX9_timesHad 9 = .ok (.getfield 72, 3) := by decide +kernel
theorem dX9_timesHad_12 : decode cX9_timesHad 12 = .ok (.iload_n 2, 1) := by decide +kernel
theorem dX9_timesHad_13 : decode cX9_timesHad 13 = .ok (.lconst 0, 1) := by decide +kernel
theorem dX9_timesHad_14 : decode cX9_timesHad 14 = .ok (.lastore, 1) := by decide +kernel
theorem dX9_timesHad_15 : decode cX9_timesHad 15 = .ok (.iinc 2 1, 3) := by decide +kernel
theorem dX9_timesHad_18 : decode cX9_timesHad 18 = .ok (.goto (-16), 3) := by decide +kernel
theorem dX9_timesHad_21 : decode cX9_timesHad 21 = .ok (.iconst 0, 1) := by decide +kernel
theorem dX9_timesHad_22 : decode cX9_timesHad 22 = .ok (.istore_n 2, 1) := by decide +kernel
theorem dX9_timesHad_23 : decode cX9_timesHad 23 = .ok (.iload_n 2, 1) := by decide +kernel
theorem dX9_timesHad_24 : decode cX9_timesHad 24 = .ok (.bipush 6, 2) := by decide +kernel
theorem dX9_timesHad_26 : decode cX9_timesHad 26 = .ok (.if_icmp .ge 52, 3) := by decide +kernel
theorem dX9_timesHad_29 : decode cX9_timesHad 29 = .ok (.iconst 0, 1) := by decide +kernel
theorem dX9_timesHad_30 : decode cX9_timesHad 30 = .ok (.istore_n 3, 1) := by decide +kernel
theorem dX9_timesHad_31 : decode cX9_timesHad 31 = .ok (.iload_n 3, 1) := by decide +kernel
theorem dX9_timesHad_32 : decode cX9_timesHad 32 = .ok (.bipush 6, 2) := by decide +kernel
theorem dX9_timesHad_34 : decode cX9_timesHad 34 = .ok (.if_icmp .ge 38, 3) := by decide +kernel
theorem dX9_timesHad_37 : decode cX9_timesHad 37 = .ok (.aload_n 0, 1) := by decide +kernel
theorem dX9_timesHad_38 : decode cX9_timesHad 38 = .ok (.getfield 72, 3) := by decide +kernel
theorem dX9_timesHad_41 : decode cX9_timesHad 41 = .ok (.iload_n 2, 1) := by decide +kernel
theorem dX9_timesHad_42 : decode cX9_timesHad 42 = .ok (.iload_n 3, 1) := by decide +kernel
theorem dX9_timesHad_43 : decode cX9_timesHad 43 = .ok (.iadd, 1) := by decide +kernel
theorem dX9_timesHad_44 : decode cX9_timesHad 44 = .ok (.dup2, 1) := by decide +kernel
theorem dX9_timesHad_45 : decode cX9_timesHad 45 = .ok (.laload, 1) := by decide +kernel
theorem dX9_timesHad_46 : decode cX9_timesHad 46 = .ok (.aload_n 0, 1) := by decide +kernel
theorem dX9_timesHad_47 : decode cX9_timesHad 47 = .ok (.getfield 39, 3) := by decide +kernel
theorem dX9_timesHad_50 : decode cX9_timesHad 50 = .ok (.iload_n 2, 1) := by decide +kernel
theorem dX9_timesHad_51 : decode cX9_timesHad 51 = .ok (.laload, 1) := by decide +kernel
theorem dX9_timesHad_52 : decode cX9_timesHad 52 = .ok (.aload_n 0, 1) := by decide +kernel
theorem dX9_timesHad_53 : decode cX9_timesHad 53 = .ok (.getfield 78, 3) := by decide +kernel
theorem dX9_timesHad_56 : decode cX9_timesHad 56 = .ok (.bipush 6, 2) := by decide +kernel
theorem dX9_timesHad_58 : decode cX9_timesHad 58 = .ok (.iload_n 1, 1) := by decide +kernel
theorem dX9_timesHad_59 : decode cX9_timesHad 59 = .ok (.imul, 1) := by decide +kernel
theorem dX9_timesHad_60 : decode cX9_timesHad 60 = .ok (.iload_n 3, 1) := by decide +kernel
theorem dX9_timesHad_61 : decode cX9_timesHad 61 = .ok (.iadd, 1) := by decide +kernel
theorem dX9_timesHad_62 : decode cX9_timesHad 62 = .ok (.laload, 1) := by decide +kernel
theorem dX9_timesHad_63 : decode cX9_timesHad 63 = .ok (.lmul, 1) := by decide +kernel
theorem dX9_timesHad_64 : decode cX9_timesHad 64 = .ok (.ladd, 1) := by decide +kernel
theorem dX9_timesHad_65 : decode cX9_timesHad 65 = .ok (.lastore, 1) := by decide +kernel
theorem dX9_timesHad_66 : decode cX9_timesHad 66 = .ok (.iinc 3 1, 3) := by decide +kernel
theorem dX9_timesHad_69 : decode cX9_timesHad 69 = .ok (.goto (-38), 3) := by decide +kernel
theorem dX9_timesHad_72 : decode cX9_timesHad 72 = .ok (.iinc 2 1, 3) := by decide +kernel
theorem dX9_timesHad_75 : decode cX9_timesHad 75 = .ok (.goto (-52), 3) := by decide +kernel
theorem dX9_timesHad_78 : decode cX9_timesHad 78 = .ok (.iconst 0, 1) := by decide +kernel
theorem dX9_timesHad_79 : decode cX9_timesHad 79 = .ok (.istore_n 2, 1) := by decide +kernel
theorem dX9_timesHad_80 : decode cX9_timesHad 80 = .ok (.iload_n 2, 1) := by decide +kernel
theorem dX9_timesHad_81 : decode cX9_timesHad 81 = .ok (.bipush 6, 2) := by decide +kernel
theorem dX9_timesHad_83 : decode cX9_timesHad 83 = .ok (.if_icmp .ge 21, 3) := by decide +kernel
theorem dX9_timesHad_86 : decode cX9_timesHad 86 = .ok (.aload_n 0, 1) := by decide +kernel
theorem dX9_timesHad_87 : decode cX9_timesHad 87 = .ok (.getfield 39, 3) := by decide +kernel
theorem dX9_timesHad_90 : decode cX9_timesHad 90 = .ok (.iload_n 2, 1) := by decide +kernel
theorem dX9_timesHad_91 : decode cX9_timesHad 91 = .ok (.aload_n 0, 1) := by decide +kernel
theorem dX9_timesHad_92 : decode cX9_timesHad 92 = .ok (.getfield 72, 3) := by decide +kernel
theorem dX9_timesHad_95 : decode cX9_timesHad 95 = .ok (.iload_n 2, 1) := by decide +kernel
theorem dX9_timesHad_96 : decode cX9_timesHad 96 = .ok (.laload, 1) := by decide +kernel
theorem dX9_timesHad_97 : decode cX9_timesHad 97 = .ok (.lastore, 1) := by decide +kernel
theorem dX9_timesHad_98 : decode cX9_timesHad 98 = .ok (.iinc 2 1, 3) := by decide +kernel
theorem dX9_timesHad_101 : decode cX9_timesHad 101 = .ok (.goto (-21), 3) := by decide +kernel
theorem dX9_timesHad_104 : decode cX9_timesHad 104 = .ok (.return_, 1) := by decide +kernel
theorem dX9_slope_0 : decode cX9_slope 0 = .ok (.aload_n 0, 1) := by decide +kernel
theorem dX9_slope_1 : decode cX9_slope 1 = .ok (.iload_n 1, 1) := by decide +kernel
theorem dX9_slope_2 : decode cX9_slope 2 = .ok (.invokevirtual 299, 3) := by decide +kernel
theorem dX9_slope_5 : decode cX9_slope 5 = .ok (.ifCond .eq 11, 3) := by decide +kernel
theorem dX9_slope_8 : decode cX9_slope 8 = .ok (.aload_n 0, 1) := by decide +kernel
theorem dX9_slope_9 : decode cX9_slope 9 = .ok (.iload_n 2, 1) := by decide +kernel
theorem dX9_slope_10 : decode cX9_slope 10 = .ok (.invokevirtual 177, 3) := by decide +kernel
theorem dX9_slope_13 : decode cX9_slope 13 = .ok (.ifCond .ne 6, 3) := by decide +kernel
theorem dX9_slope_16 : decode cX9_slope 16 = .ok (.bipush (-101), 2) := by decide +kernel
theorem dX9_slope_18 : decode cX9_slope 18 = .ok (.ireturn, 1) := by decide +kernel
theorem dX9_slope_19 : decode cX9_slope 19 = .ok (.aload_n 0, 1) := by decide +kernel
theorem dX9_slope_20 : decode cX9_slope 20 = .ok (.getfield 17, 3) := by decide +kernel
theorem dX9_slope_23 : decode cX9_slope 23 = .ok (.iload_n 1, 1) := by decide +kernel
theorem dX9_slope_24 : decode cX9_slope 24 = .ok (.iaload, 1) := by decide +kernel
theorem dX9_slope_25 : decode cX9_slope 25 = .ok (.ifCond .ne 6, 3) := by decide +kernel
theorem dX9_slope_28 : decode cX9_slope 28 = .ok (.bipush (-103), 2) := by decide +kernel
theorem dX9_slope_30 : decode cX9_slope 30 = .ok (.ireturn, 1) := by decide +kernel
theorem dX9_slope_31 : decode cX9_slope 31 = .ok (.aload_n 0, 1) := by decide +kernel
theorem dX9_slope_32 : decode cX9_slope 32 = .ok (.lconst 0, 1) := by decide +kernel
theorem dX9_slope_33 : decode cX9_slope 33 = .ok (.invokevirtual 252, 3) := by decide +kernel
theorem dX9_slope_36 : decode cX9_slope 36 = .ok (.iconst 1, 1) := by decide +kernel
theorem dX9_slope_37 : decode cX9_slope 37 = .ok (.istore_n 3, 1) := by decide +kernel
theorem dX9_slope_38 : decode cX9_slope 38 = .ok (.iload_n 3, 1) := by decide +kernel
theorem dX9_slope_39 : decode cX9_slope 39 = .ok (.bipush 6, 2) := by decide +kernel
theorem dX9_slope_41 : decode cX9_slope 41 = .ok (.if_icmp .ge 31, 3) := by decide +kernel
theorem dX9_slope_44 : decode cX9_slope 44 = .ok (.aload_n 0, 1) := by decide +kernel
theorem dX9_slope_45 : decode cX9_slope 45 = .ok (.getfield 39, 3) := by decide +kernel
theorem dX9_slope_48 : decode cX9_slope 48 = .ok (.iload_n 3, 1) := by decide +kernel
theorem dX9_slope_49 : decode cX9_slope 49 = .ok (.iconst 1, 1) := by decide +kernel
theorem dX9_slope_50 : decode cX9_slope 50 = .ok (.isub, 1) := by decide +kernel
theorem dX9_slope_51 : decode cX9_slope 51 = .ok (.aload_n 0, 1) := by decide +kernel
theorem dX9_slope_52 : decode cX9_slope 52 = .ok (.getfield 13, 3) := by decide +kernel
theorem dX9_slope_55 : decode cX9_slope 55 = .ok (.bipush 6, 2) := by decide +kernel
theorem dX9_slope_57 : decode cX9_slope 57 = .ok (.iload_n 1, 1) := by decide +kernel
theorem dX9_slope_58 : decode cX9_slope 58 = .ok (.imul, 1) := by decide +kernel
theorem dX9_slope_59 : decode cX9_slope 59 = .ok (.iload_n 3, 1) := by decide +kernel
theorem dX9_slope_60 : decode cX9_slope 60 = .ok (.iadd, 1) := by decide +kernel
theorem dX9_slope_61 : decode cX9_slope 61 = .ok (.laload, 1) := by decide +kernel
theorem dX9_slope_62 : decode cX9_slope 62 = .ok (.iload_n 3, 1) := by decide +kernel
theorem dX9_slope_63 : decode cX9_slope 63 = .ok (.i2l, 1) := by decide +kernel
theorem dX9_slope_64 : decode cX9_slope 64 = .ok (.lmul, 1) := by decide +kernel
theorem dX9_slope_65 : decode cX9_slope 65 = .ok (.lastore, 1) := by decide +kernel
theorem dX9_slope_66 : decode cX9_slope 66 = .ok (.iinc 3 1, 3) := by decide +kernel
theorem dX9_slope_69 : decode cX9_slope 69 = .ok (.goto (-31), 3) := by decide +kernel
theorem dX9_slope_72 : decode cX9_slope 72 = .ok (.aload_n 0, 1) := by decide +kernel
theorem dX9_slope_73 : decode cX9_slope 73 = .ok (.iload_n 2, 1) := by decide +kernel
theorem dX9_slope_74 : decode cX9_slope 74 = .ok (.invokevirtual 280, 3) := by decide +kernel
theorem dX9_slope_77 : decode cX9_slope 77 = .ok (.ireturn, 1) := by decide +kernel
theorem dX9_move_0 : decode cX9_move 0 = .ok (.aload_n 0, 1) := by decide +kernel
theorem dX9_move_1 : decode cX9_move 1 = .ok (.iload_n 1, 1) := by decide +kernel
theorem dX9_move_2 : decode cX9_move 2 = .ok (.invokevirtual 299, 3) := by decide +kernel
theorem dX9_move_5 : decode cX9_move 5 = .ok (.ifCond .eq 11, 3) := by decide +kernel
theorem dX9_move_8 : decode cX9_move 8 = .ok (.aload_n 0, 1) := by decide +kernel
theorem dX9_move_9 : decode cX9_move 9 = .ok (.iload_n 3, 1) := by decide +kernel
theorem dX9_move_10 : decode cX9_move 10 = .ok (.invokevirtual 177, 3) := by decide +kernel
theorem dX9_move_13 : decode cX9_move 13 = .ok (.ifCond .ne 6, 3) := by decide +kernel
theorem dX9_move_16 : decode cX9_move 16 = .ok (.bipush (-101), 2) := by decide +kernel
theorem dX9_move_18 : decode cX9_move 18 = .ok (.ireturn, 1) := by decide +kernel
theorem dX9_move_19 : decode cX9_move 19 = .ok (.iload_n 2, 1) := by decide +kernel
theorem dX9_move_20 : decode cX9_move 20 = .ok (.i2l, 1) := by decide +kernel
theorem dX9_move_21 : decode cX9_move 21 = .ok (.ldc2_w 343, 3) := by decide +kernel
theorem dX9_move_24 : decode cX9_move 24 = .ok (.ldc2_w 293, 3) := by decide +kernel
theorem dX9_move_27 : decode cX9_move 27 = .ok (.invokestatic 116, 3) := by decide +kernel
theorem dX9_move_30 : decode cX9_move 30 = .ok (.ifCond .ne 6, 3) := by decide +kernel
theorem dX9_move_33 : decode cX9_move 33 = .ok (.bipush (-102), 2) := by decide +kernel
theorem dX9_move_35 : decode cX9_move 35 = .ok (.ireturn, 1) := by decide +kernel
theorem dX9_move_36 : decode cX9_move 36 = .ok (.aload_n 0, 1) := by decide +kernel
theorem dX9_move_37 : decode cX9_move 37 = .ok (.lconst 0, 1) := by decide +kernel
theorem dX9_move_38 : decode cX9_move 38 = .ok (.invokevirtual 252, 3) := by decide +kernel
theorem dX9_move_41 : decode cX9_move 41 = .ok (.aload_n 0, 1) := by decide +kernel
theorem dX9_move_42 : decode cX9_move 42 = .ok (.getfield 17, 3) := by decide +kernel
theorem dX9_move_45 : decode cX9_move 45 = .ok (.iload_n 1, 1) := by decide +kernel
theorem dX9_move_46 : decode cX9_move 46 = .ok (.iaload, 1) := by decide +kernel
theorem dX9_move_47 : decode cX9_move 47 = .ok (.istore 4, 2) := by decide +kernel
theorem dX9_move_49 : decode cX9_move 49 = .ok (.iload 4, 2) := by decide +kernel
theorem dX9_move_51 : decode cX9_move 51 = .ok (.ifCond .lt 78, 3) := by decide +kernel
theorem dX9_move_54 : decode cX9_move 54 = .ok (.iconst 5, 1) := by decide +kernel
theorem dX9_move_55 : decode cX9_move 55 = .ok (.istore 5, 2) := by decide +kernel
theorem dX9_move_57 : decode cX9_move 57 = .ok (.iload 5, 2) := by decide +kernel
theorem dX9_move_59 : decode cX9_move 59 = .ok (.ifCond .le 36, 3) := by decide +kernel
theorem dX9_move_62 : decode cX9_move 62 = .ok (.aload_n 0, 1) := by decide +kernel
theorem dX9_move_63 : decode cX9_move 63 = .ok (.getfield 39, 3) := by decide +kernel
theorem dX9_move_66 : decode cX9_move 66 = .ok (.iload 5, 2) := by decide +kernel
theorem dX9_move_68 : decode cX9_move 68 = .ok (.aload_n 0, 1) := by decide +kernel
theorem dX9_move_69 : decode cX9_move 69 = .ok (.getfield 39, 3) := by decide +kernel
theorem dX9_move_72 : decode cX9_move 72 = .ok (.iload 5, 2) := by decide +kernel
theorem dX9_move_74 : decode cX9_move 74 = .ok (.laload, 1) := by decide +kernel
theorem dX9_move_75 : decode cX9_move 75 = .ok (.iload_n 2, 1) := by decide +kernel
theorem dX9_move_76 : decode cX9_move 76 = .ok (.i2l, 1) := by decide +kernel
theorem dX9_move_77 : decode cX9_move 77 = .ok (.lmul, 1) := by decide +kernel
theorem dX9_move_78 : decode cX9_move 78 = .ok (.aload_n 0, 1) := by decide +kernel
theorem dX9_move_79 : decode cX9_move 79 = .ok (.getfield 39, 3) := by decide +kernel
theorem dX9_move_82 : decode cX9_move 82 = .ok (.iload 5, 2) := by decide +kernel
theorem dX9_move_84 : decode cX9_move 84 = .ok (.iconst 1, 1) := by decide +kernel
theorem dX9_move_85 : decode cX9_move 85 = .ok (.isub, 1) := by decide +kernel
theorem dX9_move_86 : decode cX9_move 86 = .ok (.laload, 1) := by decide +kernel
theorem dX9_move_87 : decode cX9_move 87 = .ok (.ladd, 1) := by decide +kernel
theorem dX9_move_88 : decode cX9_move 88 = .ok (.lastore, 1) := by decide +kernel
theorem dX9_move_89 : decode cX9_move 89 = .ok (.iinc 5 (-1), 3) := by decide +kernel
theorem dX9_move_92 : decode cX9_move 92 = .ok (.goto (-35), 3) := by decide +kernel
theorem dX9_move_95 : decode cX9_move 95 = .ok (.aload_n 0, 1) := by decide +kernel
theorem dX9_move_96 : decode cX9_move 96 = .ok (.getfield 39, 3) := by decide +kernel
theorem dX9_move_99 : decode cX9_move 99 = .ok (.iconst 0, 1) := by decide +kernel
theorem dX9_move_100 : decode cX9_move 100 = .ok (.aload_n 0, 1) := by decide +kernel
theorem dX9_move_101 : decode cX9_move 101 = .ok (.getfield 39, 3) := by decide +kernel
theorem dX9_move_104 : decode cX9_move 104 = .ok (.iconst 0, 1) := by decide +kernel
theorem dX9_move_105 : decode cX9_move 105 = .ok (.laload, 1) := by decide +kernel
theorem dX9_move_106 : decode cX9_move 106 = .ok (.iload_n 2, 1) := by decide +kernel
theorem dX9_move_107 : decode cX9_move 107 = .ok (.i2l, 1) := by decide +kernel
theorem dX9_move_108 : decode cX9_move 108 = .ok (.lmul, 1) := by decide +kernel
theorem dX9_move_109 : decode cX9_move 109 = .ok (.aload_n 0, 1) := by decide +kernel
theorem dX9_move_110 : decode cX9_move 110 = .ok (.getfield 13, 3) := by decide +kernel
theorem dX9_move_113 : decode cX9_move 113 = .ok (.bipush 6, 2) := by decide +kernel
theorem dX9_move_115 : decode cX9_move 115 = .ok (.iload_n 1, 1) := by decide +kernel
theorem dX9_move_116 : decode cX9_move 116 = .ok (.imul, 1) := by decide +kernel
theorem dX9_move_117 : decode cX9_move 117 = .ok (.iload 4, 2) := by decide +kernel
theorem dX9_move_119 : decode cX9_move 119 = .ok (.iadd, 1) := by decide +kernel
theorem dX9_move_120 : decode cX9_move 120 = .ok (.laload, 1) := by decide +kernel
theorem dX9_move_121 : decode cX9_move 121 = .ok (.ladd, 1) := by decide +kernel
theorem dX9_move_122 : decode cX9_move 122 = .ok (.lastore, 1) := by decide +kernel
theorem dX9_move_123 : decode cX9_move 123 = .ok (.iinc 4 (-1), 3) := by decide +kernel
theorem dX9_move_126 : decode cX9_move 126 = .ok (.goto (-77), 3) := by decide +kernel
theorem dX9_move_129 : decode cX9_move 129 = .ok (.aload_n 0, 1) := by decide +kernel
theorem dX9_move_130 : decode cX9_move 130 = .ok (.iload_n 3, 1) := by decide +kernel
theorem dX9_move_131 : decode cX9_move 131 = .ok (.invokevirtual 280, 3) := by decide +kernel
theorem dX9_move_134 : decode cX9_move 134 = .ok (.ireturn, 1) := by decide +kernel
theorem dX9_be_0 : decode cX9_be 0 = .ok (.aload_n 0, 1) := by decide +kernel
theorem dX9_be_1 : decode cX9_be 1 = .ok (.iload_n 1, 1) := by decide +kernel
theorem dX9_be_2 : decode cX9_be 2 = .ok (.invokevirtual 177, 3) := by decide +kernel
theorem dX9_be_5 : decode cX9_be 5 = .ok (.ifCond .ne 6, 3) := by decide +kernel
theorem dX9_be_8 : decode cX9_be 8 = .ok (.bipush (-101), 2) := by decide +kernel
theorem dX9_be_10 : decode cX9_be 10 = .ok (.ireturn, 1) := by decide +kernel
theorem dX9_be_11 : decode cX9_be 11 = .ok (.iload_n 2, 1) := by decide +kernel
theorem dX9_be_12 : decode cX9_be 12 = .ok (.i2l, 1) := by decide +kernel
theorem dX9_be_13 : decode cX9_be 13 = .ok (.lconst 0, 1) := by decide +kernel
theorem dX9_be_14 : decode cX9_be 14 = .ok (.ldc2_w 163, 3) := by decide +kernel
theorem dX9_be_17 : decode cX9_be 17 = .ok (.invokestatic 116, 3) := by decide +kernel
theorem dX9_be_20 : decode cX9_be 20 = .ok (.ifCond .ne 6, 3) := by decide +kernel
theorem dX9_be_23 : decode cX9_be 23 = .ok (.bipush (-102), 2) := by decide +kernel
theorem dX9_be_25 : decode cX9_be 25 = .ok (.ireturn, 1) := by decide +kernel
theorem dX9_be_26 : decode cX9_be 26 = .ok (.aload_n 0, 1) := by decide +kernel
theorem dX9_be_27 : decode cX9_be 27 = .ok (.getfield 7, 3) := by decide +kernel
theorem dX9_be_30 : decode cX9_be 30 = .ok (.iload_n 1, 1) := by decide +kernel
theorem dX9_be_31 : decode cX9_be 31 = .ok (.iaload, 1) := by decide +kernel
theorem dX9_be_32 : decode cX9_be 32 = .ok (.istore_n 3, 1) := by decide +kernel
theorem dX9_be_33 : decode cX9_be 33 = .ok (.aload_n 0, 1) := by decide +kernel
theorem dX9_be_34 : decode cX9_be 34 = .ok (.getfield 7, 3) := by decide +kernel
theorem dX9_be_37 : decode cX9_be 37 = .ok (.iload_n 1, 1) := by decide +kernel
theorem dX9_be_38 : decode cX9_be 38 = .ok (.iload_n 2, 1) := by decide +kernel
theorem dX9_be_39 : decode cX9_be 39 = .ok (.iastore, 1) := by decide +kernel
theorem dX9_be_40 : decode cX9_be 40 = .ok (.iload_n 3, 1) := by decide +kernel
theorem dX9_be_41 : decode cX9_be 41 = .ok (.ireturn, 1) := by decide +kernel
theorem dX9_rest_0 : decode cX9_rest 0 = .ok (.lload_n 0, 1) := by decide +kernel
theorem dX9_rest_1 : decode cX9_rest 1 = .ok (.iload_n 2, 1) := by decide +kernel
theorem dX9_rest_2 : decode cX9_rest 2 = .ok (.i2l, 1) := by decide +kernel
theorem dX9_rest_3 : decode cX9_rest 3 = .ok (.lrem, 1) := by decide +kernel
theorem dX9_rest_4 : decode cX9_rest 4 = .ok (.iload_n 2, 1) := by decide +kernel
theorem dX9_rest_5 : decode cX9_rest 5 = .ok (.i2l, 1) := by decide +kernel
theorem dX9_rest_6 : decode cX9_rest 6 = .ok (.ladd, 1) := by decide +kernel
theorem dX9_rest_7 : decode cX9_rest 7 = .ok (.iload_n 2, 1) := by decide +kernel
theorem dX9_rest_8 : decode cX9_rest 8 = .ok (.i2l, 1) := by decide +kernel
theorem dX9_rest_9 : decode cX9_rest 9 = .ok (.lrem, 1) := by decide +kernel
theorem dX9_rest_10 : decode cX9_rest 10 = .ok (.l2i, 1) := by decide +kernel
theorem dX9_rest_11 : decode cX9_rest 11 = .ok (.ireturn, 1) := by decide +kernel
theorem dX9_dividesBy_0 : decode cX9_dividesBy 0 = .ok (.aload_n 0, 1) := by decide +kernel
theorem dX9_dividesBy_1 : decode cX9_dividesBy 1 = .ok (.getfield 363, 3) := by decide +kernel
theorem dX9_dividesBy_4 : decode cX9_dividesBy 4 = .ok (.iload_n 2, 1) := by decide +kernel
theorem dX9_dividesBy_5 : decode cX9_dividesBy 5 = .ok (.if_icmp .ge 5, 3) := by decide +kernel
theorem dX9_dividesBy_8 : decode cX9_dividesBy 8 = .ok (.iconst 0, 1) := by decide +kernel
theorem dX9_dividesBy_9 : decode cX9_dividesBy 9 = .ok (.ireturn, 1) := by decide +kernel
theorem dX9_dividesBy_10 : decode cX9_dividesBy 10 = .ok (.iconst 0, 1) := by decide +kernel
theorem dX9_dividesBy_11 : decode cX9_dividesBy 11 = .ok (.istore 5, 2) := by decide +kernel
theorem dX9_dividesBy_13 : decode cX9_dividesBy 13 = .ok (.iload 5, 2) := by decide +kernel
theorem dX9_dividesBy_15 : decode cX9_dividesBy 15 = .ok (.bipush 6, 2) := by decide +kernel
theorem dX9_dividesBy_17 : decode cX9_dividesBy 17 = .ok (.if_icmp .ge 23, 3) := by decide +kernel
theorem dX9_dividesBy_20 : decode cX9_dividesBy 20 = .ok (.aload_n 0, 1) := by decide +kernel
theorem dX9_dividesBy_21 : decode cX9_dividesBy 21 = .ok (.getfield 87, 3) := by decide +kernel
theorem dX9_dividesBy_24 : decode cX9_dividesBy 24 = .ok (.iload 5, 2) := by decide +kernel
theorem dX9_dividesBy_26 : decode cX9_dividesBy 26 = .ok (.aload_n 0, 1) := by decide +kernel
theorem dX9_dividesBy_27 : decode cX9_dividesBy 27 = .ok (.getfield 84, 3) := by decide +kernel
theorem dX9_dividesBy_30 : decode cX9_dividesBy 30 = .ok (.iload 5, 2) := by decide +kernel
theorem dX9_dividesBy_32 : decode cX9_dividesBy 32 = .ok (.iaload, 1) := by decide +kernel
theorem dX9_dividesBy_33 : decode cX9_dividesBy 33 = .ok (.iastore, 1) := by decide +kernel
theorem dX9_dividesBy_34 : decode cX9_dividesBy 34 = .ok (.iinc 5 1, 3) := by decide +kernel
theorem dX9_dividesBy_37 : decode cX9_dividesBy 37 = .ok (.goto (-24), 3) := by decide +kernel
theorem dX9_dividesBy_40 : decode cX9_dividesBy 40 = .ok (.aload_n 0, 1) := by decide +kernel
theorem dX9_dividesBy_41 : decode cX9_dividesBy 41 = .ok (.getfield 363, 3) := by decide +kernel
theorem dX9_dividesBy_44 : decode cX9_dividesBy 44 = .ok (.istore 5, 2) := by decide +kernel
theorem dX9_dividesBy_46 : decode cX9_dividesBy 46 = .ok (.iload 5, 2) := by decide +kernel
theorem dX9_dividesBy_48 : decode cX9_dividesBy 48 = .ok (.iload_n 2, 1) := by decide +kernel
theorem dX9_dividesBy_49 : decode cX9_dividesBy 49 = .ok (.if_icmp .lt 90, 3) := by decide +kernel
theorem dX9_dividesBy_52 : decode cX9_dividesBy 52 = .ok (.aload_n 0, 1) := by decide +kernel
theorem dX9_dividesBy_53 : decode cX9_dividesBy 53 = .ok (.getfield 87, 3) := by decide +kernel
theorem dX9_dividesBy_56 : decode cX9_dividesBy 56 = .ok (.iload 5, 2) := by decide +kernel
theorem dX9_dividesBy_58 : decode cX9_dividesBy 58 = .ok (.iaload, 1) := by decide +kernel
theorem dX9_dividesBy_59 : decode cX9_dividesBy 59 = .ok (.istore 6, 2) := by decide +kernel
theorem dX9_dividesBy_61 : decode cX9_dividesBy 61 = .ok (.aload_n 0, 1) := by decide +kernel
theorem dX9_dividesBy_62 : decode cX9_dividesBy 62 = .ok (.getfield 87, 3) := by decide +kernel
theorem dX9_dividesBy_65 : decode cX9_dividesBy 65 = .ok (.iload 5, 2) := by decide +kernel
theorem dX9_dividesBy_67 : decode cX9_dividesBy 67 = .ok (.iconst 1, 1) := by decide +kernel
theorem dX9_dividesBy_68 : decode cX9_dividesBy 68 = .ok (.isub, 1) := by decide +kernel
theorem dX9_dividesBy_69 : decode cX9_dividesBy 69 = .ok (.aload_n 0, 1) := by decide +kernel
theorem dX9_dividesBy_70 : decode cX9_dividesBy 70 = .ok (.getfield 87, 3) := by decide +kernel
theorem dX9_dividesBy_73 : decode cX9_dividesBy 73 = .ok (.iload 5, 2) := by decide +kernel
theorem dX9_dividesBy_75 : decode cX9_dividesBy 75 = .ok (.iconst 1, 1) := by decide +kernel
theorem dX9_dividesBy_76 : decode cX9_dividesBy 76 = .ok (.isub, 1) := by decide +kernel
theorem dX9_dividesBy_77 : decode cX9_dividesBy 77 = .ok (.iaload, 1) := by decide +kernel
theorem dX9_dividesBy_78 : decode cX9_dividesBy 78 = .ok (.iload 6, 2) := by decide +kernel
theorem dX9_dividesBy_80 : decode cX9_dividesBy 80 = .ok (.iload_n 2, 1) := by decide +kernel
theorem dX9_dividesBy_81 : decode cX9_dividesBy 81 = .ok (.iconst 1, 1) := by decide +kernel
theorem dX9_dividesBy_82 : decode cX9_dividesBy 82 = .ok (.if_icmp .ne 8, 3) := by decide +kernel
theorem dX9_dividesBy_85 : decode cX9_dividesBy 85 = .ok (.iload 4, 2) := by decide +kernel
theorem dX9_dividesBy_87 : decode cX9_dividesBy 87 = .ok (.goto 4, 3) := by decide +kernel
theorem dX9_dividesBy_90 : decode cX9_dividesBy 90 = .ok (.iload_n 3, 1) := by decide +kernel
theorem dX9_dividesBy_91 : decode cX9_dividesBy 91 = .ok (.imul, 1) := by decide +kernel
theorem dX9_dividesBy_92 : decode cX9_dividesBy 92 = .ok (.isub, 1) := by decide +kernel
theorem dX9_dividesBy_93 : decode cX9_dividesBy 93 = .ok (.i2l, 1) := by decide +kernel
theorem dX9_dividesBy_94 : decode cX9_dividesBy 94 = .ok (.iload_n 1, 1) := by decide +kernel
theorem dX9_dividesBy_95 : decode cX9_dividesBy 95 = .ok (.invokestatic 366, 3) := by decide +kernel
theorem dX9_dividesBy_98 : decode cX9_dividesBy 98 = .ok (.iastore, 1) := by decide +kernel
theorem dX9_dividesBy_99 : decode cX9_dividesBy 99 = .ok (.iload_n 2, 1) := by decide +kernel
theorem dX9_dividesBy_100 : decode cX9_dividesBy 100 = .ok (.iconst 2, 1) := by decide +kernel
theorem dX9_dividesBy_101 : decode cX9_dividesBy 101 = .ok (.if_icmp .ne 32, 3) := by decide +kernel
theorem dX9_dividesBy_104 : decode cX9_dividesBy 104 = .ok (.aload_n 0, 1) := by decide +kernel
theorem dX9_dividesBy_105 : decode cX9_dividesBy 105 = .ok (.getfield 87, 3) := by decide +kernel
theorem dX9_dividesBy_108 : decode cX9_dividesBy 108 = .ok (.iload 5, 2) := by decide +kernel
theorem dX9_dividesBy_110 : decode cX9_dividesBy 110 = .ok (.iconst 2, 1) := by decide +kernel
theorem dX9_dividesBy_111 : decode cX9_dividesBy 111 = .ok (.isub, 1) := by decide +kernel
theorem dX9_dividesBy_112 : decode cX9_dividesBy 112 = .ok (.aload_n 0, 1) := by decide +kernel
theorem dX9_dividesBy_113 : decode cX9_dividesBy 113 = .ok (.getfield 87, 3) := by decide +kernel
theorem dX9_dividesBy_116 : decode cX9_dividesBy 116 = .ok (.iload 5, 2) := by decide +kernel
theorem dX9_dividesBy_118 : decode cX9_dividesBy 118 = .ok (.iconst 2, 1) := by decide +kernel
theorem dX9_dividesBy_119 : decode cX9_dividesBy 119 = .ok (.isub, 1) := by decide +kernel
theorem dX9_dividesBy_120 : decode cX9_dividesBy 120 = .ok (.iaload, 1) := by decide +kernel
theorem dX9_dividesBy_121 : decode cX9_dividesBy 121 = .ok (.iload 6, 2) := by decide +kernel
theorem dX9_dividesBy_123 : decode cX9_dividesBy 123 = .ok (.iload 4, 2) := by decide +kernel
theorem dX9_dividesBy_125 : decode cX9_dividesBy 125 = .ok (.imul, 1) := by decide +kernel
theorem dX9_dividesBy_126 : decode cX9_dividesBy 126 = .ok (.isub, 1) := by decide +kernel
theorem dX9_dividesBy_127 : decode cX9_dividesBy 127 = .ok (.i2l, 1) := by decide +kernel
theorem dX9_dividesBy_128 : decode cX9_dividesBy 128 = .ok (.iload_n 1, 1) := by decide +kernel
theorem dX9_dividesBy_129 : decode cX9_dividesBy 129 = .ok (.invokestatic 366, 3) := by decide +kernel
theorem dX9_dividesBy_132 : decode cX9_dividesBy 132 = .ok (.iastore, 1) := by decide +kernel
theorem dX9_dividesBy_133 : decode cX9_dividesBy 133 = .ok (.iinc 5 (-1), 3) := by decide +kernel
theorem dX9_dividesBy_136 : decode cX9_dividesBy 136 = .ok (.goto (-90), 3) := by decide +kernel
theorem dX9_dividesBy_139 : decode cX9_dividesBy 139 = .ok (.aload_n 0, 1) := by decide +kernel
theorem dX9_dividesBy_140 : decode cX9_dividesBy 140 = .ok (.getfield 87, 3) := by decide +kernel
theorem dX9_dividesBy_143 : decode cX9_dividesBy 143 = .ok (.iconst 0, 1) := by decide +kernel
theorem dX9_dividesBy_144 : decode cX9_dividesBy 144 = .ok (.iaload, 1) := by decide +kernel
theorem dX9_dividesBy_145 : decode cX9_dividesBy 145 = .ok (.ifCond .ne 21, 3) := by decide +kernel
theorem dX9_dividesBy_148 : decode cX9_dividesBy 148 = .ok (.iload_n 2, 1) := by decide +kernel
theorem dX9_dividesBy_149 : decode cX9_dividesBy 149 = .ok (.iconst 1, 1) := by decide +kernel
theorem dX9_dividesBy_150 : decode cX9_dividesBy 150 = .ok (.if_icmp .eq 12, 3) := by decide +kernel
theorem dX9_dividesBy_153 : decode cX9_dividesBy 153 = .ok (.aload_n 0, 1) := by decide +kernel
theorem dX9_dividesBy_154 : decode cX9_dividesBy 154 = .ok (.getfield 87, 3) := by decide +kernel
theorem dX9_dividesBy_157 : decode cX9_dividesBy 157 = .ok (.iconst 1, 1) := by decide +kernel
theorem dX9_dividesBy_158 : decode cX9_dividesBy 158 = .ok (.iaload, 1) := by decide +kernel
theorem dX9_dividesBy_159 : decode cX9_dividesBy 159 = .ok (.ifCond .ne 7, 3) := by decide +kernel
theorem dX9_dividesBy_162 : decode cX9_dividesBy 162 = .ok (.iconst 1, 1) := by decide +kernel
theorem dX9_dividesBy_163 : decode cX9_dividesBy 163 = .ok (.goto 4, 3) := by decide +kernel
theorem dX9_dividesBy_166 : decode cX9_dividesBy 166 = .ok (.iconst 0, 1) := by decide +kernel
theorem dX9_dividesBy_167 : decode cX9_dividesBy 167 = .ok (.istore 5, 2) := by decide +kernel
theorem dX9_dividesBy_169 : decode cX9_dividesBy 169 = .ok (.iconst 0, 1) := by decide +kernel
theorem dX9_dividesBy_170 : decode cX9_dividesBy 170 = .ok (.istore 6, 2) := by decide +kernel
theorem dX9_dividesBy_172 : decode cX9_dividesBy 172 = .ok (.iload 6, 2) := by decide +kernel
theorem dX9_dividesBy_174 : decode cX9_dividesBy 174 = .ok (.bipush 6, 2) := by decide +kernel
theorem dX9_dividesBy_176 : decode cX9_dividesBy 176 = .ok (.if_icmp .ge 43, 3) := by decide +kernel
theorem dX9_dividesBy_179 : decode cX9_dividesBy 179 = .ok (.iload 5, 2) := by decide +kernel
theorem dX9_dividesBy_181 : decode cX9_dividesBy 181 = .ok (.ifCond .eq 38, 3) := by decide +kernel
theorem dX9_dividesBy_184 : decode cX9_dividesBy 184 = .ok (.aload_n 0, 1) := by decide +kernel
theorem dX9_dividesBy_185 : decode cX9_dividesBy 185 = .ok (.getfield 84, 3) := by decide +kernel
theorem dX9_dividesBy_188 : decode cX9_dividesBy 188 = .ok (.iload 6, 2) := by decide +kernel
theorem dX9_dividesBy_190 : decode cX9_dividesBy 190 = .ok (.iload 6, 2) := by decide +kernel
theorem dX9_dividesBy_192 : decode cX9_dividesBy 192 = .ok (.iload_n 2, 1) := by decide +kernel
theorem dX9_dividesBy_193 : decode cX9_dividesBy 193 = .ok (.iadd, 1) := by decide +kernel
theorem dX9_dividesBy_194 : decode cX9_dividesBy 194 = .ok (.bipush 6, 2) := by decide +kernel
theorem dX9_dividesBy_196 : decode cX9_dividesBy 196 = .ok (.if_icmp .ge 15, 3) := by decide +kernel
theorem dX9_dividesBy_199 : decode cX9_dividesBy 199 = .ok (.aload_n 0, 1) := by decide +kernel
theorem dX9_dividesBy_200 : decode cX9_dividesBy 200 = .ok (.getfield 87, 3) := by decide +kernel
theorem dX9_dividesBy_203 : decode cX9_dividesBy 203 = .ok (.iload 6, 2) := by decide +kernel
theorem dX9_dividesBy_205 : decode cX9_dividesBy 205 = .ok (.iload_n 2, 1) := by decide +kernel
theorem dX9_dividesBy_206 : decode cX9_dividesBy 206 = .ok (.iadd, 1) := by decide +kernel
theorem dX9_dividesBy_207 : decode cX9_dividesBy 207 = .ok (.iaload, 1) := by decide +kernel
theorem dX9_dividesBy_208 : decode cX9_dividesBy 208 = .ok (.goto 4, 3) := by decide +kernel
theorem dX9_dividesBy_211 : decode cX9_dividesBy 211 = .ok (.iconst 0, 1) := by decide +kernel
theorem dX9_dividesBy_212 : decode cX9_dividesBy 212 = .ok (.iastore, 1) := by decide +kernel
theorem dX9_dividesBy_213 : decode cX9_dividesBy 213 = .ok (.iinc 6 1, 3) := by decide +kernel
theorem dX9_dividesBy_216 : decode cX9_dividesBy 216 = .ok (.goto (-44), 3) := by decide +kernel
theorem dX9_dividesBy_219 : decode cX9_dividesBy 219 = .ok (.aload_n 0, 1) := by decide +kernel
theorem dX9_dividesBy_220 : decode cX9_dividesBy 220 = .ok (.dup, 1) := by decide +kernel
theorem dX9_dividesBy_221 : decode cX9_dividesBy 221 = .ok (.getfield 363, 3) := by decide +kernel
theorem dX9_dividesBy_224 : decode cX9_dividesBy 224 = .ok (.iload 5, 2) := by decide +kernel
theorem dX9_dividesBy_226 : decode cX9_dividesBy 226 = .ok (.ifCond .eq 7, 3) := by decide +kernel
theorem dX9_dividesBy_229 : decode cX9_dividesBy 229 = .ok (.iload_n 2, 1) := by decide +kernel
theorem dX9_dividesBy_230 : decode cX9_dividesBy 230 = .ok (.goto 4, 3) := by decide +kernel
theorem dX9_dividesBy_233 : decode cX9_dividesBy 233 = .ok (.iconst 0, 1) := by decide +kernel
theorem dX9_dividesBy_234 : decode cX9_dividesBy 234 = .ok (.isub, 1) := by decide +kernel
theorem dX9_dividesBy_235 : decode cX9_dividesBy 235 = .ok (.putfield 363, 3) := by decide +kernel
theorem dX9_dividesBy_238 : decode cX9_dividesBy 238 = .ok (.iload 5, 2) := by decide +kernel
theorem dX9_dividesBy_240 : decode cX9_dividesBy 240 = .ok (.ireturn, 1) := by decide +kernel
theorem dX9_takesOnce_0 : decode cX9_takesOnce 0 = .ok (.aload_n 0, 1) := by decide +kernel
theorem dX9_takesOnce_1 : decode cX9_takesOnce 1 = .ok (.iload_n 1, 1) := by decide +kernel
theorem dX9_takesOnce_2 : decode cX9_takesOnce 2 = .ok (.iload_n 2, 1) := by decide +kernel
theorem dX9_takesOnce_3 : decode cX9_takesOnce 3 = .ok (.iload_n 3, 1) := by decide +kernel
theorem dX9_takesOnce_4 : decode cX9_takesOnce 4 = .ok (.iload 4, 2) := by decide +kernel
theorem dX9_takesOnce_6 : decode cX9_takesOnce 6 = .ok (.invokevirtual 369, 3) := by decide +kernel
theorem dX9_takesOnce_9 : decode cX9_takesOnce 9 = .ok (.ifCond .eq 44, 3) := by decide +kernel
theorem dX9_takesOnce_12 : decode cX9_takesOnce 12 = .ok (.aload_n 0, 1) := by decide +kernel
theorem dX9_takesOnce_13 : decode cX9_takesOnce 13 = .ok (.dup, 1) := by decide +kernel
theorem dX9_takesOnce_14 : decode cX9_takesOnce 14 = .ok (.getfield 373, 3) := by decide +kernel
theorem dX9_takesOnce_17 : decode cX9_takesOnce 17 = .ok (.iconst 1, 1) := by decide +kernel
theorem dX9_takesOnce_18 : decode cX9_takesOnce 18 = .ok (.iadd, 1) := by decide +kernel
theorem dX9_takesOnce_19 : decode cX9_takesOnce 19 = .ok (.putfield 373, 3) := by decide +kernel
theorem dX9_takesOnce_22 : decode cX9_takesOnce 22 = .ok (.aload_n 0, 1) := by decide +kernel
theorem dX9_takesOnce_23 : decode cX9_takesOnce 23 = .ok (.bipush 10, 2) := by decide +kernel
theorem dX9_takesOnce_25 : decode cX9_takesOnce 25 = .ok (.aload_n 0, 1) := by decide +kernel
theorem dX9_takesOnce_26 : decode cX9_takesOnce 26 = .ok (.getfield 376, 3) := by decide +kernel
theorem dX9_takesOnce_29 : decode cX9_takesOnce 29 = .ok (.imul, 1) := by decide +kernel
theorem dX9_takesOnce_30 : decode cX9_takesOnce 30 = .ok (.iload_n 2, 1) := by decide +kernel
theorem dX9_takesOnce_31 : decode cX9_takesOnce 31 = .ok (.iadd, 1) := by decide +kernel
theorem dX9_takesOnce_32 : decode cX9_takesOnce 32 = .ok (.putfield 376, 3) := by decide +kernel
theorem dX9_takesOnce_35 : decode cX9_takesOnce 35 = .ok (.aload_n 0, 1) := by decide +kernel
theorem dX9_takesOnce_36 : decode cX9_takesOnce 36 = .ok (.iload_n 1, 1) := by decide +kernel
theorem dX9_takesOnce_37 : decode cX9_takesOnce 37 = .ok (.iload_n 2, 1) := by decide +kernel
theorem dX9_takesOnce_38 : decode cX9_takesOnce 38 = .ok (.iload_n 3, 1) := by decide +kernel
theorem dX9_takesOnce_39 : decode cX9_takesOnce 39 = .ok (.iload 4, 2) := by decide +kernel
theorem dX9_takesOnce_41 : decode cX9_takesOnce 41 = .ok (.invokevirtual 369, 3) := by decide +kernel
theorem dX9_takesOnce_44 : decode cX9_takesOnce 44 = .ok (.ifCond .ne 7, 3) := by decide +kernel
theorem dX9_takesOnce_47 : decode cX9_takesOnce 47 = .ok (.iconst 1, 1) := by decide +kernel
theorem dX9_takesOnce_48 : decode cX9_takesOnce 48 = .ok (.goto 4, 3) := by decide +kernel
theorem dX9_takesOnce_51 : decode cX9_takesOnce 51 = .ok (.iconst 0, 1) := by decide +kernel
theorem dX9_takesOnce_52 : decode cX9_takesOnce 52 = .ok (.ireturn, 1) := by decide +kernel
theorem dX9_takesOnce_53 : decode cX9_takesOnce 53 = .ok (.iconst 1, 1) := by decide +kernel
theorem dX9_takesOnce_54 : decode cX9_takesOnce 54 = .ok (.ireturn, 1) := by decide +kernel
theorem dX9_layParts_0 : decode cX9_layParts 0 = .ok (.aload_n 0, 1) := by decide +kernel
theorem dX9_layParts_1 : decode cX9_layParts 1 = .ok (.iconst 0, 1) := by decide +kernel
theorem dX9_layParts_2 : decode cX9_layParts 2 = .ok (.putfield 376, 3) := by decide +kernel
theorem dX9_layParts_5 : decode cX9_layParts 5 = .ok (.aload_n 0, 1) := by decide +kernel
theorem dX9_layParts_6 : decode cX9_layParts 6 = .ok (.iconst 0, 1) := by decide +kernel
theorem dX9_layParts_7 : decode cX9_layParts 7 = .ok (.putfield 373, 3) := by decide +kernel
theorem dX9_layParts_10 : decode cX9_layParts 10 = .ok (.aload_n 0, 1) := by decide +kernel
theorem dX9_layParts_11 : decode cX9_layParts 11 = .ok (.aload_n 0, 1) := by decide +kernel
theorem dX9_layParts_12 : decode cX9_layParts 12 = .ok (.getfield 17, 3) := by decide +kernel
theorem dX9_layParts_15 : decode cX9_layParts 15 = .ok (.iload_n 1, 1) := by decide +kernel
theorem dX9_layParts_16 : decode cX9_layParts 16 = .ok (.iaload, 1) := by decide +kernel
theorem dX9_layParts_17 : decode cX9_layParts 17 = .ok (.putfield 363, 3) := by decide +kernel
theorem dX9_layParts_20 : decode cX9_layParts 20 = .ok (.aload_n 0, 1) := by decide +kernel
theorem dX9_layParts_21 : decode cX9_layParts 21 = .ok (.getfield 363, 3) := by decide +kernel
theorem dX9_layParts_24 : decode cX9_layParts 24 = .ok (.iconst 1, 1) := by decide +kernel
theorem dX9_layParts_25 : decode cX9_layParts 25 = .ok (.if_icmp .lt 24, 3) := by decide +kernel
theorem dX9_layParts_28 : decode cX9_layParts 28 = .ok (.aload_n 0, 1) := by decide +kernel
theorem dX9_layParts_29 : decode cX9_layParts 29 = .ok (.getfield 13, 3) := by decide +kernel
theorem dX9_layParts_32 : decode cX9_layParts 32 = .ok (.bipush 6, 2) := by decide +kernel
theorem dX9_layParts_34 : decode cX9_layParts 34 = .ok (.iload_n 1, 1) := by decide +kernel
theorem dX9_layParts_35 : decode cX9_layParts 35 = .ok (.imul, 1) := by decide +kernel
theorem dX9_layParts_36 : decode cX9_layParts 36 = .ok (.aload_n 0, 1) := by decide +kernel
theorem dX9_layParts_37 : decode cX9_layParts 37 = .ok (.getfield 363, 3) := by decide +kernel
theorem dX9_layParts_40 : decode cX9_layParts 40 = .ok (.iadd, 1) := by decide +kernel
theorem dX9_layParts_41 : decode cX9_layParts 41 = .ok (.laload, 1) := by decide +kernel
theorem dX9_layParts_42 : decode cX9_layParts 42 = .ok (.iload_n 2, 1) := by decide +kernel
theorem dX9_layParts_43 : decode cX9_layParts 43 = .ok (.invokestatic 366, 3) := by decide +kernel
theorem dX9_layParts_46 : decode cX9_layParts 46 = .ok (.ifCond .ne 5, 3) := by decide +kernel
theorem dX9_layParts_49 : decode cX9_layParts 49 = .ok (.iconst 0, 1) := by decide +kernel
theorem dX9_layParts_50 : decode cX9_layParts 50 = .ok (.ireturn, 1) := by decide +kernel
theorem dX9_layParts_51 : decode cX9_layParts 51 = .ok (.iconst 0, 1) := by decide +kernel
theorem dX9_layParts_52 : decode cX9_layParts 52 = .ok (.istore_n 3, 1) := by decide +kernel
theorem dX9_layParts_53 : decode cX9_layParts 53 = .ok (.iload_n 3, 1) := by decide +kernel
theorem dX9_layParts_54 : decode cX9_layParts 54 = .ok (.bipush 6, 2) := by decide +kernel
theorem dX9_layParts_56 : decode cX9_layParts 56 = .ok (.if_icmp .ge 30, 3) := by decide +kernel
theorem dX9_layParts_59 : decode cX9_layParts 59 = .ok (.aload_n 0, 1) := by decide +kernel
theorem dX9_layParts_60 : decode cX9_layParts 60 = .ok (.getfield 84, 3) := by decide +kernel
theorem dX9_layParts_63 : decode cX9_layParts 63 = .ok (.iload_n 3, 1) := by decide +kernel
theorem dX9_layParts_64 : decode cX9_layParts 64 = .ok (.aload_n 0, 1) := by decide +kernel
theorem dX9_layParts_65 : decode cX9_layParts 65 = .ok (.getfield 13, 3) := by decide +kernel
theorem dX9_layParts_68 : decode cX9_layParts 68 = .ok (.bipush 6, 2) := by decide +kernel
theorem dX9_layParts_70 : decode cX9_layParts 70 = .ok (.iload_n 1, 1) := by decide +kernel
theorem dX9_layParts_71 : decode cX9_layParts 71 = .ok (.imul, 1) := by decide +kernel
theorem dX9_layParts_72 : decode cX9_layParts 72 = .ok (.iload_n 3, 1) := by decide +kernel
theorem dX9_layParts_73 : decode cX9_layParts 73 = .ok (.iadd, 1) := by decide +kernel
theorem dX9_layParts_74 : decode cX9_layParts 74 = .ok (.laload, 1) := by decide +kernel
theorem dX9_layParts_75 : decode cX9_layParts 75 = .ok (.iload_n 2, 1) := by decide +kernel
theorem dX9_layParts_76 : decode cX9_layParts 76 = .ok (.invokestatic 366, 3) := by decide +kernel
theorem dX9_layParts_79 : decode cX9_layParts 79 = .ok (.iastore, 1) := by decide +kernel
theorem dX9_layParts_80 : decode cX9_layParts 80 = .ok (.iinc 3 1, 3) := by decide +kernel
theorem dX9_layParts_83 : decode cX9_layParts 83 = .ok (.goto (-30), 3) := by decide +kernel
theorem dX9_layParts_86 : decode cX9_layParts 86 = .ok (.iconst 0, 1) := by decide +kernel
theorem dX9_layParts_87 : decode cX9_layParts 87 = .ok (.istore_n 3, 1) := by decide +kernel
theorem dX9_layParts_88 : decode cX9_layParts 88 = .ok (.iload_n 3, 1) := by decide +kernel
theorem dX9_layParts_89 : decode cX9_layParts 89 = .ok (.iload_n 2, 1) := by decide +kernel
theorem dX9_layParts_90 : decode cX9_layParts 90 = .ok (.if_icmp .ge 22, 3) := by decide +kernel
theorem dX9_layParts_93 : decode cX9_layParts 93 = .ok (.aload_n 0, 1) := by decide +kernel
theorem dX9_layParts_94 : decode cX9_layParts 94 = .ok (.iload_n 2, 1) := by decide +kernel
theorem dX9_layParts_95 : decode cX9_layParts 95 = .ok (.iconst 1, 1) := by decide +kernel
theorem dX9_layParts_96 : decode cX9_layParts 96 = .ok (.iconst 0, 1) := by decide +kernel
theorem dX9_layParts_97 : decode cX9_layParts 97 = .ok (.iload_n 3, 1) := by decide +kernel
theorem dX9_layParts_98 : decode cX9_layParts 98 = .ok (.invokevirtual 379, 3) := by decide +kernel
theorem dX9_layParts_101 : decode cX9_layParts 101 = .ok (.ifCond .ne 5, 3) := by decide +kernel
theorem dX9_layParts_104 : decode cX9_layParts 104 = .ok (.iconst 0, 1) := by decide +kernel
theorem dX9_layParts_105 : decode cX9_layParts 105 = .ok (.ireturn, 1) := by decide +kernel
theorem dX9_layParts_106 : decode cX9_layParts 106 = .ok (.iinc 3 1, 3) := by decide +kernel
theorem dX9_layParts_109 : decode cX9_layParts 109 = .ok (.goto (-21), 3) := by decide +kernel
theorem dX9_layParts_112 : decode cX9_layParts 112 = .ok (.iconst 0, 1) := by decide +kernel
theorem dX9_layParts_113 : decode cX9_layParts 113 = .ok (.istore_n 3, 1) := by decide +kernel
theorem dX9_layParts_114 : decode cX9_layParts 114 = .ok (.iload_n 3, 1) := by decide +kernel
theorem dX9_layParts_115 : decode cX9_layParts 115 = .ok (.iload_n 2, 1) := by decide +kernel
theorem dX9_layParts_116 : decode cX9_layParts 116 = .ok (.iload_n 2, 1) := by decide +kernel
theorem dX9_layParts_117 : decode cX9_layParts 117 = .ok (.imul, 1) := by decide +kernel
theorem dX9_layParts_118 : decode cX9_layParts 118 = .ok (.if_icmp .ge 26, 3) := by decide +kernel
theorem dX9_layParts_121 : decode cX9_layParts 121 = .ok (.aload_n 0, 1) := by decide +kernel
theorem dX9_layParts_122 : decode cX9_layParts 122 = .ok (.iload_n 2, 1) := by decide +kernel
theorem dX9_layParts_123 : decode cX9_layParts 123 = .ok (.iconst 2, 1) := by decide +kernel
theorem dX9_layParts_124 : decode cX9_layParts 124 = .ok (.iload_n 3, 1) := by decide +kernel
theorem dX9_layParts_125 : decode cX9_layParts 125 = .ok (.iload_n 2, 1) := by decide +kernel
theorem dX9_layParts_126 : decode cX9_layParts 126 = .ok (.idiv, 1) := by decide +kernel
theorem dX9_layParts_127 : decode cX9_layParts 127 = .ok (.iload_n 3, 1) := by decide +kernel
theorem dX9_layParts_128 : decode cX9_layParts 128 = .ok (.iload_n 2, 1) := by decide +kernel
theorem dX9_layParts_129 : decode cX9_layParts 129 = .ok (.irem, 1) := by decide +kernel
theorem dX9_layParts_130 : decode cX9_layParts 130 = .ok (.invokevirtual 379, 3) := by decide +kernel
theorem dX9_layParts_133 : decode cX9_layParts 133 = .ok (.ifCond .ne 5, 3) := by decide +kernel
theorem dX9_layParts_136 : decode cX9_layParts 136 = .ok (.iconst 0, 1) := by decide +kernel
theorem dX9_layParts_137 : decode cX9_layParts 137 = .ok (.ireturn, 1) := by decide +kernel
theorem dX9_layParts_138 : decode cX9_layParts 138 = .ok (.iinc 3 1, 3) := by decide +kernel
theorem dX9_layParts_141 : decode cX9_layParts 141 = .ok (.goto (-27), 3) := by decide +kernel
theorem dX9_layParts_144 : decode cX9_layParts 144 = .ok (.aload_n 0, 1) := by decide +kernel
theorem dX9_layParts_145 : decode cX9_layParts 145 = .ok (.getfield 363, 3) := by decide +kernel
theorem dX9_layParts_148 : decode cX9_layParts 148 = .ok (.ifCond .le 29, 3) := by decide +kernel
theorem dX9_layParts_151 : decode cX9_layParts 151 = .ok (.aload_n 0, 1) := by decide +kernel
theorem dX9_layParts_152 : decode cX9_layParts 152 = .ok (.dup, 1) := by decide +kernel
theorem dX9_layParts_153 : decode cX9_layParts 153 = .ok (.getfield 373, 3) := by decide +kernel
theorem dX9_layParts_156 : decode cX9_layParts 156 = .ok (.iconst 1, 1) := by decide +kernel
theorem dX9_layParts_157 : decode cX9_layParts 157 = .ok (.iadd, 1) := by decide +kernel
theorem dX9_layParts_158 : decode cX9_layParts 158 = .ok (.putfield 373, 3) := by decide +kernel
theorem dX9_layParts_161 : decode cX9_layParts 161 = .ok (.aload_n 0, 1) := by decide +kernel
theorem dX9_layParts_162 : decode cX9_layParts 162 = .ok (.bipush 10, 2) := by decide +kernel
theorem dX9_layParts_164 : decode cX9_layParts 164 = .ok (.aload_n 0, 1) := by decide +kernel
theorem dX9_layParts_165 : decode cX9_layParts 165 = .ok (.getfield 376, 3) := by decide +kernel
theorem dX9_layParts_168 : decode cX9_layParts 168 = .ok (.imul, 1) := by decide +kernel
theorem dX9_layParts_169 : decode cX9_layParts 169 = .ok (.aload_n 0, 1) := by decide +kernel
theorem dX9_layParts_170 : decode cX9_layParts 170 = .ok (.getfield 363, 3) := by decide +kernel
theorem dX9_layParts_173 : decode cX9_layParts 173 = .ok (.iadd, 1) := by decide +kernel
theorem dX9_layParts_174 : decode cX9_layParts 174 = .ok (.putfield 376, 3) := by decide +kernel
theorem dX9_layParts_177 : decode cX9_layParts 177 = .ok (.iconst 1, 1) := by decide +kernel
theorem dX9_layParts_178 : decode cX9_layParts 178 = .ok (.ireturn, 1) := by decide +kernel
theorem dX9_isPrime_0 : decode cX9_isPrime 0 = .ok (.iload_n 0, 1) := by decide +kernel
theorem dX9_isPrime_1 : decode cX9_isPrime 1 = .ok (.iconst 2, 1) := by decide +kernel
theorem dX9_isPrime_2 : decode cX9_isPrime 2 = .ok (.if_icmp .eq 31, 3) := by decide +kernel
theorem dX9_isPrime_5 : decode cX9_isPrime 5 = .ok (.iload_n 0, 1) := by decide +kernel
theorem dX9_isPrime_6 : decode cX9_isPrime 6 = .ok (.iconst 3, 1) := by decide +kernel
theorem dX9_isPrime_7 : decode cX9_isPrime 7 = .ok (.if_icmp .eq 26, 3) := by decide +kernel
theorem dX9_isPrime_10 : decode cX9_isPrime 10 = .ok (.iload_n 0, 1) := by decide +kernel
theorem dX9_isPrime_11 : decode cX9_isPrime 11 = .ok (.iconst 5, 1) := by decide +kernel
theorem dX9_isPrime_12 : decode cX9_isPrime 12 = .ok (.if_icmp .eq 21, 3) := by decide +kernel
theorem dX9_isPrime_15 : decode cX9_isPrime 15 = .ok (.iload_n 0, 1) := by decide +kernel
theorem dX9_isPrime_16 : decode cX9_isPrime 16 = .ok (.bipush 7, 2) := by decide +kernel
theorem dX9_isPrime_18 : decode cX9_isPrime 18 = .ok (.if_icmp .eq 15, 3) := by decide +kernel
theorem dX9_isPrime_21 : decode cX9_isPrime 21 = .ok (.iload_n 0, 1) := by decide +kernel
theorem dX9_isPrime_22 : decode cX9_isPrime 22 = .ok (.bipush 11, 2) := by decide +kernel
theorem dX9_isPrime_24 : decode cX9_isPrime 24 = .ok (.if_icmp .eq 9, 3) := by decide +kernel
theorem dX9_isPrime_27 : decode cX9_isPrime 27 = .ok (.iload_n 0, 1) := by decide +kernel
theorem dX9_isPrime_28 : decode cX9_isPrime 28 = .ok (.bipush 13, 2) := by decide +kernel
theorem dX9_isPrime_30 : decode cX9_isPrime 30 = .ok (.if_icmp .ne 7, 3) := by decide +kernel
theorem dX9_isPrime_33 : decode cX9_isPrime 33 = .ok (.iconst 1, 1) := by decide +kernel
theorem dX9_isPrime_34 : decode cX9_isPrime 34 = .ok (.goto 4, 3) := by decide +kernel
theorem dX9_isPrime_37 : decode cX9_isPrime 37 = .ok (.iconst 0, 1) := by decide +kernel
theorem dX9_isPrime_38 : decode cX9_isPrime 38 = .ok (.ireturn, 1) := by decide +kernel
theorem dX9_partsNow_0 : decode cX9_partsNow 0 = .ok (.aload_n 0, 1) := by decide +kernel
theorem dX9_partsNow_1 : decode cX9_partsNow 1 = .ok (.iload_n 1, 1) := by decide +kernel
theorem dX9_partsNow_2 : decode cX9_partsNow 2 = .ok (.iload_n 2, 1) := by decide +kernel
theorem dX9_partsNow_3 : decode cX9_partsNow 3 = .ok (.invokevirtual 382, 3) := by decide +kernel
theorem dX9_partsNow_6 : decode cX9_partsNow 6 = .ok (.ifCond .ne 7, 3) := by decide +kernel
theorem dX9_partsNow_9 : decode cX9_partsNow 9 = .ok (.iconst (-1), 1) := by decide +kernel
theorem dX9_partsNow_10 : decode cX9_partsNow 10 = .ok (.goto 18, 3) := by decide +kernel
theorem dX9_partsNow_13 : decode cX9_partsNow 13 = .ok (.iload_n 3, 1) := by decide +kernel
theorem dX9_partsNow_14 : decode cX9_partsNow 14 = .ok (.ifCond .ne 10, 3) := by decide +kernel
theorem dX9_partsNow_17 : decode cX9_partsNow 17 = .ok (.aload_n 0, 1) := by decide +kernel
theorem dX9_partsNow_18 : decode cX9_partsNow 18 = .ok (.getfield 373, 3) := by decide +kernel
theorem dX9_partsNow_21 : decode cX9_partsNow 21 = .ok (.goto 7, 3) := by decide +kernel
theorem dX9_partsNow_24 : decode cX9_partsNow 24 = .ok (.aload_n 0, 1) := by decide +kernel
theorem dX9_partsNow_25 : decode cX9_partsNow 25 = .ok (.getfield 376, 3) := by decide +kernel
theorem dX9_partsNow_28 : decode cX9_partsNow 28 = .ok (.ireturn, 1) := by decide +kernel
theorem dX9_parts_0 : decode cX9_parts 0 = .ok (.aload_n 0, 1) := by decide +kernel
theorem dX9_parts_1 : decode cX9_parts 1 = .ok (.iload_n 1, 1) := by decide +kernel
theorem dX9_parts_2 : decode cX9_parts 2 = .ok (.invokevirtual 299, 3) := by decide +kernel
theorem dX9_parts_5 : decode cX9_parts 5 = .ok (.ifCond .ne 6, 3) := by decide +kernel
theorem dX9_parts_8 : decode cX9_parts 8 = .ok (.bipush (-101), 2) := by decide +kernel
theorem dX9_parts_10 : decode cX9_parts 10 = .ok (.ireturn, 1) := by decide +kernel
theorem dX9_parts_11 : decode cX9_parts 11 = .ok (.iload_n 2, 1) := by decide +kernel
theorem dX9_parts_12 : decode cX9_parts 12 = .ok (.invokestatic 386, 3) := by decide +kernel
theorem dX9_parts_15 : decode cX9_parts 15 = .ok (.ifCond .eq 23, 3) := by decide +kernel
theorem dX9_parts_18 : decode cX9_parts 18 = .ok (.iload_n 3, 1) := by decide +kernel
theorem dX9_parts_19 : decode cX9_parts 19 = .ok (.i2l, 1) := by decide +kernel
theorem dX9_parts_20 : decode cX9_parts 20 = .ok (.lconst 0, 1) := by decide +kernel
theorem dX9_parts_21 : decode cX9_parts 21 = .ok (.lconst 1, 1) := by decide +kernel
theorem dX9_parts_22 : decode cX9_parts 22 = .ok (.invokestatic 116, 3) := by decide +kernel
theorem dX9_parts_25 : decode cX9_parts 25 = .ok (.ifCond .eq 13, 3) := by decide +kernel
theorem dX9_parts_28 : decode cX9_parts 28 = .ok (.aload_n 0, 1) := by decide +kernel
theorem dX9_parts_29 : decode cX9_parts 29 = .ok (.iload_n 1, 1) := by decide +kernel
theorem dX9_parts_30 : decode cX9_parts 30 = .ok (.iload_n 2, 1) := by decide +kernel
theorem dX9_parts_31 : decode cX9_parts 31 = .ok (.iload_n 3, 1) := by decide +kernel
theorem dX9_parts_32 : decode cX9_parts 32 = .ok (.invokevirtual 389, 3) := by decide +kernel
theorem dX9_parts_35 : decode cX9_parts 35 = .ok (.goto 5, 3) := by decide +kernel
theorem dX9_parts_38 : decode cX9_parts 38 = .ok (.bipush (-102), 2) := by decide +kernel
theorem dX9_parts_40 : decode cX9_parts 40 = .ok (.ireturn, 1) := by decide +kernel
theorem dX9_degreesNow_0 : decode cX9_degreesNow 0 = .ok (.iconst 2, 1) := by decide +kernel
theorem dX9_degreesNow_1 : decode cX9_degreesNow 1 = .ok (.aload_n 0, 1) := by decide +kernel
theorem dX9_degreesNow_2 : decode cX9_degreesNow 2 = .ok (.getfield 17, 3) := by decide +kernel
theorem dX9_degreesNow_5 : decode cX9_degreesNow 5 = .ok (.iload_n 1, 1) := by decide +kernel
theorem dX9_degreesNow_6 : decode cX9_degreesNow 6 = .ok (.iaload, 1) := by decide +kernel
theorem dX9_degreesNow_7 : decode cX9_degreesNow 7 = .ok (.ishl, 1) := by decide +kernel
theorem dX9_degreesNow_8 : decode cX9_degreesNow 8 = .ok (.iconst 1, 1) := by decide +kernel
theorem dX9_degreesNow_9 : decode cX9_degreesNow 9 = .ok (.isub, 1) := by decide +kernel
theorem dX9_degreesNow_10 : decode cX9_degreesNow 10 = .ok (.istore_n 2, 1) := by decide +kernel
theorem dX9_degreesNow_11 : decode cX9_degreesNow 11 = .ok (.iconst 2, 1) := by decide +kernel
theorem dX9_degreesNow_12 : decode cX9_degreesNow 12 = .ok (.istore_n 3, 1) := by decide +kernel
theorem dX9_degreesNow_13 : decode cX9_degreesNow 13 = .ok (.iload_n 3, 1) := by decide +kernel
theorem dX9_degreesNow_14 : decode cX9_degreesNow 14 = .ok (.bipush 14, 2) := by decide +kernel
theorem dX9_degreesNow_16 : decode cX9_degreesNow 16 = .ok (.if_icmp .ge 67, 3) := by decide +kernel
theorem dX9_degreesNow_19 : decode cX9_degreesNow 19 = .ok (.iload_n 3, 1) := by decide +kernel
theorem dX9_degreesNow_20 : decode cX9_degreesNow 20 = .ok (.invokestatic 386, 3) := by decide +kernel
theorem dX9_degreesNow_23 : decode cX9_degreesNow 23 = .ok (.ifCond .eq 54, 3) := by decide +kernel
theorem dX9_degreesNow_26 : decode cX9_degreesNow 26 = .ok (.aload_n 0, 1) := by decide +kernel
theorem dX9_degreesNow_27 : decode cX9_degreesNow 27 = .ok (.iload_n 1, 1) := by decide +kernel
theorem dX9_degreesNow_28 : decode cX9_degreesNow 28 = .ok (.iload_n 3, 1) := by decide +kernel
theorem dX9_degreesNow_29 : decode cX9_degreesNow 29 = .ok (.invokevirtual 382, 3) := by decide +kernel
theorem dX9_degreesNow_32 : decode cX9_degreesNow 32 = .ok (.ifCond .eq 45, 3) := by decide +kernel
theorem dX9_degreesNow_35 : decode cX9_degreesNow 35 = .ok (.iconst 1, 1) := by decide +kernel
theorem dX9_degreesNow_36 : decode cX9_degreesNow 36 = .ok (.istore 4, 2) := by decide +kernel
theorem dX9_degreesNow_38 : decode cX9_degreesNow 38 = .ok (.aload_n 0, 1) := by decide +kernel
theorem dX9_degreesNow_39 : decode cX9_degreesNow 39 = .ok (.getfield 376, 3) := by decide +kernel
theorem dX9_degreesNow_42 : decode cX9_degreesNow 42 = .ok (.istore 5, 2) := by decide +kernel
theorem dX9_degreesNow_44 : decode cX9_degreesNow 44 = .ok (.iload 5, 2) := by decide +kernel
theorem dX9_degreesNow_46 : decode cX9_degreesNow 46 = .ok (.ifCond .le 26, 3) := by decide +kernel
theorem dX9_degreesNow_49 : decode cX9_degreesNow 49 = .ok (.iload 4, 2) := by decide +kernel
theorem dX9_degreesNow_51 : decode cX9_degreesNow 51 = .ok (.iload 4, 2) := by decide +kernel
theorem dX9_degreesNow_53 : decode cX9_degreesNow 53 = .ok (.iload 5, 2) := by decide +kernel
theorem dX9_degreesNow_55 : decode cX9_degreesNow 55 = .ok (.bipush 10, 2) := by decide +kernel
theorem dX9_degreesNow_57 : decode cX9_degreesNow 57 = .ok (.irem, 1) := by decide +kernel
theorem dX9_degreesNow_58 : decode cX9_degreesNow 58 = .ok (.ishl, 1) := by decide +kernel
theorem dX9_degreesNow_59 : decode cX9_degreesNow 59 = .ok (.ior, 1) := by decide +kernel
theorem dX9_degreesNow_60 : decode cX9_degreesNow 60 = .ok (.istore 4, 2) := by decide +kernel
theorem dX9_degreesNow_62 : decode cX9_degreesNow 62 = .ok (.iload 5, 2) := by decide +kernel
theorem dX9_degreesNow_64 : decode cX9_degreesNow 64 = .ok (.bipush 10, 2) := by decide +kernel
theorem dX9_degreesNow_66 : decode cX9_degreesNow 66 = .ok (.idiv, 1) := by decide +kernel
theorem dX9_degreesNow_67 : decode cX9_degreesNow 67 = .ok (.istore 5, 2) := by decide +kernel
theorem dX9_degreesNow_69 : decode cX9_degreesNow 69 = .ok (.goto (-25), 3) := by decide +kernel
theorem dX9_degreesNow_72 : decode cX9_degreesNow 72 = .ok (.iload_n 2, 1) := by decide +kernel
theorem dX9_degreesNow_73 : decode cX9_degreesNow 73 = .ok (.iload 4, 2) := by decide +kernel
theorem dX9_degreesNow_75 : decode cX9_degreesNow 75 = .ok (.iand, 1) := by decide +kernel
theorem dX9_degreesNow_76 : decode cX9_degreesNow 76 = .ok (.istore_n 2, 1) := by decide +kernel
theorem dX9_degreesNow_77 : decode cX9_degreesNow 77 = .ok (.iinc 3 1, 3) := by decide +kernel
theorem dX9_degreesNow_80 : decode cX9_degreesNow 80 = .ok (.goto (-67), 3) := by decide +kernel
theorem dX9_degreesNow_83 : decode cX9_degreesNow 83 = .ok (.iload_n 2, 1) := by decide +kernel
theorem dX9_degreesNow_84 : decode cX9_degreesNow 84 = .ok (.ireturn, 1) := by decide +kernel
theorem dX9_degrees_0 : decode cX9_degrees 0 = .ok (.aload_n 0, 1) := by decide +kernel
theorem dX9_degrees_1 : decode cX9_degrees 1 = .ok (.iload_n 1, 1) := by decide +kernel
theorem dX9_degrees_2 : decode cX9_degrees 2 = .ok (.invokevirtual 299, 3) := by decide +kernel
theorem dX9_degrees_5 : decode cX9_degrees 5 = .ok (.ifCond .eq 11, 3) := by decide +kernel
theorem dX9_degrees_8 : decode cX9_degrees 8 = .ok (.aload_n 0, 1) := by decide +kernel
theorem dX9_degrees_9 : decode cX9_degrees 9 = .ok (.iload_n 1, 1) := by decide +kernel
theorem dX9_degrees_10 : decode cX9_degrees 10 = .ok (.invokevirtual 393, 3) := by decide +kernel
theorem dX9_degrees_13 : decode cX9_degrees 13 = .ok (.goto 5, 3) := by decide +kernel
theorem dX9_degrees_16 : decode cX9_degrees 16 = .ok (.bipush (-101), 2) := by decide +kernel
theorem dX9_degrees_18 : decode cX9_degrees 18 = .ok (.ireturn, 1) := by decide +kernel
theorem dX9_could_0 : decode cX9_could 0 = .ok (.iload_n 1, 1) := by decide +kernel
theorem dX9_could_1 : decode cX9_could 1 = .ok (.tableswitch 64 0 2 #[27, 43, 54], 27) := by decide +kernel
theorem dX9_could_28 : decode cX9_could 28 = .ok (.iload_n 0, 1) := by decide +kernel
theorem dX9_could_29 : decode cX9_could 29 = .ok (.iconst 1, 1) := by decide +kernel
theorem dX9_could_30 : decode cX9_could 30 = .ok (.if_icmp .eq 8, 3) := by decide +kernel
theorem dX9_could_33 : decode cX9_could 33 = .ok (.iload_n 0, 1) := by decide +kernel
theorem dX9_could_34 : decode cX9_could 34 = .ok (.iconst 2, 1) := by decide +kernel
theorem dX9_could_35 : decode cX9_could 35 = .ok (.if_icmp .ne 7, 3) := by decide +kernel
theorem dX9_could_38 : decode cX9_could 38 = .ok (.iconst 1, 1) := by decide +kernel
theorem dX9_could_39 : decode cX9_could 39 = .ok (.goto 4, 3) := by decide +kernel
theorem dX9_could_42 : decode cX9_could 42 = .ok (.iconst 0, 1) := by decide +kernel
theorem dX9_could_43 : decode cX9_could 43 = .ok (.ireturn, 1) := by decide +kernel
theorem dX9_could_44 : decode cX9_could 44 = .ok (.iload_n 0, 1) := by decide +kernel
theorem dX9_could_45 : decode cX9_could 45 = .ok (.iconst 2, 1) := by decide +kernel
theorem dX9_could_46 : decode cX9_could 46 = .ok (.if_icmp .ne 7, 3) := by decide +kernel
theorem dX9_could_49 : decode cX9_could 49 = .ok (.iconst 1, 1) := by decide +kernel
theorem dX9_could_50 : decode cX9_could 50 = .ok (.goto 4, 3) := by decide +kernel
theorem dX9_could_53 : decode cX9_could 53 = .ok (.iconst 0, 1) := by decide +kernel
theorem dX9_could_54 : decode cX9_could 54 = .ok (.ireturn, 1) := by decide +kernel
theorem dX9_could_55 : decode cX9_could 55 = .ok (.iload_n 0, 1) := by decide +kernel
theorem dX9_could_56 : decode cX9_could 56 = .ok (.ifCond .eq 7, 3) := by decide +kernel
theorem dX9_could_59 : decode cX9_could 59 = .ok (.iconst 1, 1) := by decide +kernel
theorem dX9_could_60 : decode cX9_could 60 = .ok (.goto 4, 3) := by decide +kernel
theorem dX9_could_63 : decode cX9_could 63 = .ok (.iconst 0, 1) := by decide +kernel
theorem dX9_could_64 : decode cX9_could 64 = .ok (.ireturn, 1) := by decide +kernel
theorem dX9_could_65 : decode cX9_could 65 = .ok (.iload_n 0, 1) := by decide +kernel
theorem dX9_could_66 : decode cX9_could 66 = .ok (.ifCond .eq 12, 3) := by decide +kernel
theorem dX9_could_69 : decode cX9_could 69 = .ok (.iload_n 0, 1) := by decide +kernel
theorem dX9_could_70 : decode cX9_could 70 = .ok (.iconst 4, 1) := by decide +kernel
theorem dX9_could_71 : decode cX9_could 71 = .ok (.if_icmp .eq 7, 3) := by decide +kernel
theorem dX9_could_74 : decode cX9_could 74 = .ok (.iconst 1, 1) := by decide +kernel
theorem dX9_could_75 : decode cX9_could 75 = .ok (.goto 4, 3) := by decide +kernel
theorem dX9_could_78 : decode cX9_could 78 = .ok (.iconst 0, 1) := by decide +kernel
theorem dX9_could_79 : decode cX9_could 79 = .ok (.ireturn, 1) := by decide +kernel
theorem dX9_see_0 : decode cX9_see 0 = .ok (.aload_n 0, 1) := by decide +kernel
theorem dX9_see_1 : decode cX9_see 1 = .ok (.iload_n 1, 1) := by decide +kernel
theorem dX9_see_2 : decode cX9_see 2 = .ok (.invokevirtual 177, 3) := by decide +kernel
theorem dX9_see_5 : decode cX9_see 5 = .ok (.ifCond .ne 6, 3) := by decide +kernel
theorem dX9_see_8 : decode cX9_see 8 = .ok (.bipush (-101), 2) := by decide +kernel
theorem dX9_see_10 : decode cX9_see 10 = .ok (.ireturn, 1) := by decide +kernel
theorem dX9_see_11 : decode cX9_see 11 = .ok (.iload_n 2, 1) := by decide +kernel
theorem dX9_see_12 : decode cX9_see 12 = .ok (.i2l, 1) := by decide +kernel
theorem dX9_see_13 : decode cX9_see 13 = .ok (.lconst 0, 1) := by decide +kernel
theorem dX9_see_14 : decode cX9_see 14 = .ok (.ldc2_w 396, 3) := by decide +kernel
theorem dX9_see_17 : decode cX9_see 17 = .ok (.invokestatic 116, 3) := by decide +kernel
theorem dX9_see_20 : decode cX9_see 20 = .ok (.ifCond .ne 6, 3) := by decide +kernel
theorem dX9_see_23 : decode cX9_see 23 = .ok (.bipush (-102), 2) := by decide +kernel
theorem dX9_see_25 : decode cX9_see 25 = .ok (.ireturn, 1) := by decide +kernel
theorem dX9_see_26 : decode cX9_see 26 = .ok (.aload_n 0, 1) := by decide +kernel
theorem dX9_see_27 : decode cX9_see 27 = .ok (.getfield 174, 3) := by decide +kernel
theorem dX9_see_30 : decode cX9_see 30 = .ok (.bipush 6, 2) := by decide +kernel
theorem dX9_see_32 : decode cX9_see 32 = .ok (.if_icmp .ne 6, 3) := by decide +kernel
theorem dX9_see_35 : decode cX9_see 35 = .ok (.bipush (-104), 2) := by decide +kernel
theorem dX9_see_37 : decode cX9_see 37 = .ok (.ireturn, 1) := by decide +kernel
theorem dX9_see_38 : decode cX9_see 38 = .ok (.aload_n 0, 1) := by decide +kernel
theorem dX9_see_39 : decode cX9_see 39 = .ok (.getfield 20, 3) := by decide +kernel
theorem dX9_see_42 : decode cX9_see 42 = .ok (.aload_n 0, 1) := by decide +kernel
theorem dX9_see_43 : decode cX9_see 43 = .ok (.getfield 174, 3) := by decide +kernel
theorem dX9_see_46 : decode cX9_see 46 = .ok (.iload_n 1, 1) := by decide +kernel
theorem dX9_see_47 : decode cX9_see 47 = .ok (.iastore, 1) := by decide +kernel
theorem dX9_see_48 : decode cX9_see 48 = .ok (.aload_n 0, 1) := by decide +kernel
theorem dX9_see_49 : decode cX9_see 49 = .ok (.getfield 23, 3) := by decide +kernel
theorem dX9_see_52 : decode cX9_see 52 = .ok (.aload_n 0, 1) := by decide +kernel
theorem dX9_see_53 : decode cX9_see 53 = .ok (.getfield 174, 3) := by decide +kernel
theorem dX9_see_56 : decode cX9_see 56 = .ok (.iload_n 2, 1) := by decide +kernel
theorem dX9_see_57 : decode cX9_see 57 = .ok (.iastore, 1) := by decide +kernel
theorem dX9_see_58 : decode cX9_see 58 = .ok (.aload_n 0, 1) := by decide +kernel
theorem dX9_see_59 : decode cX9_see 59 = .ok (.getfield 26, 3) := by decide +kernel
theorem dX9_see_62 : decode cX9_see 62 = .ok (.aload_n 0, 1) := by decide +kernel
theorem dX9_see_63 : decode cX9_see 63 = .ok (.getfield 174, 3) := by decide +kernel
theorem dX9_see_66 : decode cX9_see 66 = .ok (.iload_n 3, 1) := by decide +kernel
theorem dX9_see_67 : decode cX9_see 67 = .ok (.ifCond .eq 7, 3) := by decide +kernel
theorem dX9_see_70 : decode cX9_see 70 = .ok (.iconst 1, 1) := by decide +kernel
theorem dX9_see_71 : decode cX9_see 71 = .ok (.goto 4, 3) := by decide +kernel
theorem dX9_see_74 : decode cX9_see 74 = .ok (.iconst 0, 1) := by decide +kernel
theorem dX9_see_75 : decode cX9_see 75 = .ok (.iastore, 1) := by decide +kernel
theorem dX9_see_76 : decode cX9_see 76 = .ok (.aload_n 0, 1) := by decide +kernel
theorem dX9_see_77 : decode cX9_see 77 = .ok (.dup, 1) := by decide +kernel
theorem dX9_see_78 : decode cX9_see 78 = .ok (.getfield 174, 3) := by decide +kernel
theorem dX9_see_81 : decode cX9_see 81 = .ok (.iconst 1, 1) := by decide +kernel
theorem dX9_see_82 : decode cX9_see 82 = .ok (.iadd, 1) := by decide +kernel
theorem dX9_see_83 : decode cX9_see 83 = .ok (.putfield 174, 3) := by decide +kernel
theorem dX9_see_86 : decode cX9_see 86 = .ok (.aload_n 0, 1) := by decide +kernel
theorem dX9_see_87 : decode cX9_see 87 = .ok (.getfield 174, 3) := by decide +kernel
theorem dX9_see_90 : decode cX9_see 90 = .ok (.ireturn, 1) := by decide +kernel
theorem dX9_forget_0 : decode cX9_forget 0 = .ok (.aload_n 0, 1) := by decide +kernel
theorem dX9_forget_1 : decode cX9_forget 1 = .ok (.getfield 174, 3) := by decide +kernel
theorem dX9_forget_4 : decode cX9_forget 4 = .ok (.istore_n 1, 1) := by decide +kernel
theorem dX9_forget_5 : decode cX9_forget 5 = .ok (.aload_n 0, 1) := by decide +kernel
theorem dX9_forget_6 : decode cX9_forget 6 = .ok (.iconst 0, 1) := by decide +kernel
theorem dX9_forget_7 : decode cX9_forget 7 = .ok (.putfield 174, 3) := by decide +kernel
theorem dX9_forget_10 : decode cX9_forget 10 = .ok (.iload_n 1, 1) := by decide +kernel
theorem dX9_forget_11 : decode cX9_forget 11 = .ok (.ireturn, 1) := by decide +kernel
theorem dX9_sortsOf_0 : decode cX9_sortsOf 0 = .ok (.iconst 0, 1) := by decide +kernel
theorem dX9_sortsOf_1 : decode cX9_sortsOf 1 = .ok (.istore_n 2, 1) := by decide +kernel
theorem dX9_sortsOf_2 : decode cX9_sortsOf 2 = .ok (.iconst 0, 1) := by decide +kernel
theorem dX9_sortsOf_3 : decode cX9_sortsOf 3 = .ok (.istore_n 3, 1) := by decide +kernel
theorem dX9_sortsOf_4 : decode cX9_sortsOf 4 = .ok (.iload_n 3, 1) := by decide +kernel
theorem dX9_sortsOf_5 : decode cX9_sortsOf 5 = .ok (.iconst 4, 1) := by decide +kernel
theorem dX9_sortsOf_6 : decode cX9_sortsOf 6 = .ok (.if_icmp .gt 98, 3) := by decide +kernel
theorem dX9_sortsOf_9 : decode cX9_sortsOf 9 = .ok (.iconst 1, 1) := by decide +kernel
theorem dX9_sortsOf_10 : decode cX9_sortsOf 10 = .ok (.istore 4, 2) := by decide +kernel
theorem dX9_sortsOf_12 : decode cX9_sortsOf 12 = .ok (.iconst 0, 1) := by decide +kernel
theorem dX9_sortsOf_13 : decode cX9_sortsOf 13 = .ok (.istore 5, 2) := by decide +kernel
theorem dX9_sortsOf_15 : decode cX9_sortsOf 15 = .ok (.iload 5, 2) := by decide +kernel
theorem dX9_sortsOf_17 : decode cX9_sortsOf 17 = .ok (.aload_n 0, 1) := by decide +kernel
theorem dX9_sortsOf_18 : decode cX9_sortsOf 18 = .ok (.getfield 174, 3) := by decide +kernel
theorem dX9_sortsOf_21 : decode cX9_sortsOf 21 = .ok (.if_icmp .ge 62, 3) := by decide +kernel
theorem dX9_sortsOf_24 : decode cX9_sortsOf 24 = .ok (.iload 4, 2) := by decide +kernel
theorem dX9_sortsOf_26 : decode cX9_sortsOf 26 = .ok (.ifCond .eq 48, 3) := by decide +kernel
theorem dX9_sortsOf_29 : decode cX9_sortsOf 29 = .ok (.aload_n 0, 1) := by decide +kernel
theorem dX9_sortsOf_30 : decode cX9_sortsOf 30 = .ok (.getfield 20, 3) := by decide +kernel
theorem dX9_sortsOf_33 : decode cX9_sortsOf 33 = .ok (.iload 5, 2) := by decide +kernel
theorem dX9_sortsOf_35 : decode cX9_sortsOf 35 = .ok (.iaload, 1) := by decide +kernel
theorem dX9_sortsOf_36 : decode cX9_sortsOf 36 = .ok (.iload_n 1, 1) := by decide +kernel
theorem dX9_sortsOf_37 : decode cX9_sortsOf 37 = .ok (.if_icmp .ne 33, 3) := by decide +kernel
theorem dX9_sortsOf_40 : decode cX9_sortsOf 40 = .ok (.iload_n 3, 1) := by decide +kernel
theorem dX9_sortsOf_41 : decode cX9_sortsOf 41 = .ok (.aload_n 0, 1) := by decide +kernel
theorem dX9_sortsOf_42 : decode cX9_sortsOf 42 = .ok (.getfield 23, 3) := by decide +kernel
theorem dX9_sortsOf_45 : decode cX9_sortsOf 45 = .ok (.iload 5, 2) := by decide +kernel
theorem dX9_sortsOf_47 : decode cX9_sortsOf 47 = .ok (.iaload, 1) := by decide +kernel
theorem dX9_sortsOf_48 : decode cX9_sortsOf 48 = .ok (.invokestatic 398, 3) := by decide +kernel
theorem dX9_sortsOf_51 : decode cX9_sortsOf 51 = .ok (.aload_n 0, 1) := by decide +kernel
theorem dX9_sortsOf_52 : decode cX9_sortsOf 52 = .ok (.getfield 26, 3) := by decide +kernel
theorem dX9_sortsOf_55 : decode cX9_sortsOf 55 = .ok (.iload 5, 2) := by decide +kernel
theorem dX9_sortsOf_57 : decode cX9_sortsOf 57 = .ok (.iaload, 1) := by decide +kernel
theorem dX9_sortsOf_58 : decode cX9_sortsOf 58 = .ok (.iconst 1, 1) := by decide +kernel
theorem dX9_sortsOf_59 : decode cX9_sortsOf 59 = .ok (.if_icmp .ne 7, 3) := by decide +kernel
theorem dX9_sortsOf_62 : decode cX9_sortsOf 62 = .ok (.iconst 1, 1) := by decide +kernel
theorem dX9_sortsOf_63 : decode cX9_sortsOf 63 = .ok (.goto 4, 3) := by decide +kernel
theorem dX9_sortsOf_66 : decode cX9_sortsOf 66 = .ok (.iconst 0, 1) := by decide +kernel
theorem dX9_sortsOf_67 : decode cX9_sortsOf 67 = .ok (.if_icmp .ne 7, 3) := by decide +kernel
theorem dX9_sortsOf_70 : decode cX9_sortsOf 70 = .ok (.iconst 1, 1) := by decide +kernel
theorem dX9_sortsOf_71 : decode cX9_sortsOf 71 = .ok (.goto 4, 3) := by decide +kernel
theorem dX9_sortsOf_74 : decode cX9_sortsOf 74 = .ok (.iconst 0, 1) := by decide +kernel
theorem dX9_sortsOf_75 : decode cX9_sortsOf 75 = .ok (.istore 4, 2) := by decide +kernel
theorem dX9_sortsOf_77 : decode cX9_sortsOf 77 = .ok (.iinc 5 1, 3) := by decide +kernel
theorem dX9_sortsOf_80 : decode cX9_sortsOf 80 = .ok (.goto (-65), 3) := by decide +kernel
theorem dX9_sortsOf_83 : decode cX9_sortsOf 83 = .ok (.iload_n 2, 1) := by decide +kernel
theorem dX9_sortsOf_84 : decode cX9_sortsOf 84 = .ok (.iload 4, 2) := by decide +kernel
theorem dX9_sortsOf_86 : decode cX9_sortsOf 86 = .ok (.ifCond .eq 9, 3) := by decide +kernel
theorem dX9_sortsOf_89 : decode cX9_sortsOf 89 = .ok (.iconst 1, 1) := by decide +kernel
theorem dX9_sortsOf_90 : decode cX9_sortsOf 90 = .ok (.iload_n 3, 1) := by decide +kernel
theorem dX9_sortsOf_91 : decode cX9_sortsOf 91 = .ok (.ishl, 1) := by decide +kernel
theorem dX9_sortsOf_92 : decode cX9_sortsOf 92 = .ok (.goto 4, 3) := by decide +kernel
theorem dX9_sortsOf_95 : decode cX9_sortsOf 95 = .ok (.iconst 0, 1) := by decide +kernel
theorem dX9_sortsOf_96 : decode cX9_sortsOf 96 = .ok (.ior, 1) := by decide +kernel
theorem dX9_sortsOf_97 : decode cX9_sortsOf 97 = .ok (.istore_n 2, 1) := by decide +kernel
theorem dX9_sortsOf_98 : decode cX9_sortsOf 98 = .ok (.iinc 3 1, 3) := by decide +kernel
theorem dX9_sortsOf_101 : decode cX9_sortsOf 101 = .ok (.goto (-97), 3) := by decide +kernel
theorem dX9_sortsOf_104 : decode cX9_sortsOf 104 = .ok (.iload_n 2, 1) := by decide +kernel
theorem dX9_sortsOf_105 : decode cX9_sortsOf 105 = .ok (.ireturn, 1) := by decide +kernel
theorem dX9_askOf_0 : decode cX9_askOf 0 = .ok (.aload_n 0, 1) := by decide +kernel
theorem dX9_askOf_1 : decode cX9_askOf 1 = .ok (.iload_n 1, 1) := by decide +kernel
theorem dX9_askOf_2 : decode cX9_askOf 2 = .ok (.invokevirtual 314, 3) := by decide +kernel
theorem dX9_askOf_5 : decode cX9_askOf 5 = .ok (.istore_n 2, 1) := by decide +kernel
theorem dX9_askOf_6 : decode cX9_askOf 6 = .ok (.iconst (-1), 1) := by decide +kernel
theorem dX9_askOf_7 : decode cX9_askOf 7 = .ok (.istore_n 3, 1) := by decide +kernel
theorem dX9_askOf_8 : decode cX9_askOf 8 = .ok (.ldc_w 401, 3) := by decide +kernel
theorem dX9_askOf_11 : decode cX9_askOf 11 = .ok (.istore 4, 2) := by decide +kernel
theorem dX9_askOf_13 : decode cX9_askOf 13 = .ok (.iconst 0, 1) := by decide +kernel
theorem dX9_askOf_14 : decode cX9_askOf 14 = .ok (.istore 5, 2) := by decide +kernel
theorem dX9_askOf_16 : decode cX9_askOf 16 = .ok (.iload 5, 2) := by decide +kernel
theorem dX9_askOf_18 : decode cX9_askOf 18 = .ok (.iconst 4, 1) := by decide +kernel
theorem dX9_askOf_19 : decode cX9_askOf 19 = .ok (.if_icmp .ge 115, 3) := by decide +kernel
theorem dX9_askOf_22 : decode cX9_askOf 22 = .ok (.iload_n 2, 1) := by decide +kernel
theorem dX9_askOf_23 : decode cX9_askOf 23 = .ok (.ifCond .eq 111, 3) := by decide +kernel
theorem dX9_askOf_26 : decode cX9_askOf 26 = .ok (.iconst 0, 1) := by decide +kernel
theorem dX9_askOf_27 : decode cX9_askOf 27 = .ok (.istore 6, 2) := by decide +kernel
theorem dX9_askOf_29 : decode cX9_askOf 29 = .ok (.iconst 0, 1) := by decide +kernel
theorem dX9_askOf_30 : decode cX9_askOf 30 = .ok (.istore 7, 2) := by decide +kernel
theorem dX9_askOf_32 : decode cX9_askOf 32 = .ok (.iload 7, 2) := by decide +kernel
theorem dX9_askOf_34 : decode cX9_askOf 34 = .ok (.iconst 4, 1) := by decide +kernel
theorem dX9_askOf_35 : decode cX9_askOf 35 = .ok (.if_icmp .gt 38, 3) := by decide +kernel
theorem dX9_askOf_38 : decode cX9_askOf 38 = .ok (.iload 6, 2) := by decide +kernel
theorem dX9_askOf_40 : decode cX9_askOf 40 = .ok (.iload_n 2, 1) := by decide +kernel
theorem dX9_askOf_41 : decode cX9_askOf 41 = .ok (.iload 7, 2) := by decide +kernel
theorem dX9_askOf_43 : decode cX9_askOf 43 = .ok (.invokestatic 402, 3) := by decide +kernel
theorem dX9_askOf_46 : decode cX9_askOf 46 = .ok (.ifCond .eq 17, 3) := by decide +kernel
theorem dX9_askOf_49 : decode cX9_askOf 49 = .ok (.iload 7, 2) := by decide +kernel
theorem dX9_askOf_51 : decode cX9_askOf 51 = .ok (.iload 5, 2) := by decide +kernel
theorem dX9_askOf_53 : decode cX9_askOf 53 = .ok (.invokestatic 398, 3) := by decide +kernel
theorem dX9_askOf_56 : decode cX9_askOf 56 = .ok (.ifCond .eq 7, 3) := by decide +kernel
theorem dX9_askOf_59 : decode cX9_askOf 59 = .ok (.iconst 1, 1) := by decide +kernel
theorem dX9_askOf_60 : decode cX9_askOf 60 = .ok (.goto 4, 3) := by decide +kernel
theorem dX9_askOf_63 : decode cX9_askOf 63 = .ok (.iconst 0, 1) := by decide +kernel
theorem dX9_askOf_64 : decode cX9_askOf 64 = .ok (.iadd, 1) := by decide +kernel
theorem dX9_askOf_65 : decode cX9_askOf 65 = .ok (.istore 6, 2) := by decide +kernel
theorem dX9_askOf_67 : decode cX9_askOf 67 = .ok (.iinc 7 1, 3) := by decide +kernel
theorem dX9_askOf_70 : decode cX9_askOf 70 = .ok (.goto (-38), 3) := by decide +kernel
theorem dX9_askOf_73 : decode cX9_askOf 73 = .ok (.iload_n 2, 1) := by decide +kernel
theorem dX9_askOf_74 : decode cX9_askOf 74 = .ok (.invokestatic 405, 3) := by decide +kernel
theorem dX9_askOf_77 : decode cX9_askOf 77 = .ok (.iload 6, 2) := by decide +kernel
theorem dX9_askOf_79 : decode cX9_askOf 79 = .ok (.isub, 1) := by decide +kernel
theorem dX9_askOf_80 : decode cX9_askOf 80 = .ok (.istore 7, 2) := by decide +kernel
theorem dX9_askOf_82 : decode cX9_askOf 82 = .ok (.iload 6, 2) := by decide +kernel
theorem dX9_askOf_84 : decode cX9_askOf 84 = .ok (.iload 7, 2) := by decide +kernel
theorem dX9_askOf_86 : decode cX9_askOf 86 = .ok (.if_icmp .le 8, 3) := by decide +kernel
theorem dX9_askOf_89 : decode cX9_askOf 89 = .ok (.iload 6, 2) := by decide +kernel
theorem dX9_askOf_91 : decode cX9_askOf 91 = .ok (.goto 5, 3) := by decide +kernel
theorem dX9_askOf_94 : decode cX9_askOf 94 = .ok (.iload 7, 2) := by decide +kernel
theorem dX9_askOf_96 : decode cX9_askOf 96 = .ok (.istore 8, 2) := by decide +kernel
theorem dX9_askOf_98 : decode cX9_askOf 98 = .ok (.iload 8, 2) := by decide +kernel
theorem dX9_askOf_100 : decode cX9_askOf 100 = .ok (.iload 4, 2) := by decide +kernel
theorem dX9_askOf_102 : decode cX9_askOf 102 = .ok (.if_icmp .ge 8, 3) := by decide +kernel
theorem dX9_askOf_105 : decode cX9_askOf 105 = .ok (.iload 5, 2) := by decide +kernel
theorem dX9_askOf_107 : decode cX9_askOf 107 = .ok (.goto 4, 3) := by decide +kernel
theorem dX9_askOf_110 : decode cX9_askOf 110 = .ok (.iload_n 3, 1) := by decide +kernel
theorem dX9_askOf_111 : decode cX9_askOf 111 = .ok (.istore_n 3, 1) := by decide +kernel
theorem dX9_askOf_112 : decode cX9_askOf 112 = .ok (.iload 8, 2) := by decide +kernel
theorem dX9_askOf_114 : decode cX9_askOf 114 = .ok (.iload 4, 2) := by decide +kernel
theorem dX9_askOf_116 : decode cX9_askOf 116 = .ok (.if_icmp .ge 8, 3) := by decide +kernel
theorem dX9_askOf_119 : decode cX9_askOf 119 = .ok (.iload 8, 2) := by decide +kernel
theorem dX9_askOf_121 : decode cX9_askOf 121 = .ok (.goto 5, 3) := by decide +kernel
theorem dX9_askOf_124 : decode cX9_askOf 124 = .ok (.iload 4, 2) := by decide +kernel
theorem dX9_askOf_126 : decode cX9_askOf 126 = .ok (.istore 4, 2) := by decide +kernel
theorem dX9_askOf_128 : decode cX9_askOf 128 = .ok (.iinc 5 1, 3) := by decide +kernel
theorem dX9_askOf_131 : decode cX9_askOf 131 = .ok (.goto (-115), 3) := by decide +kernel
theorem dX9_askOf_134 : decode cX9_askOf 134 = .ok (.iload_n 3, 1) := by decide +kernel
theorem dX9_askOf_135 : decode cX9_askOf 135 = .ok (.ireturn, 1) := by decide +kernel
theorem dX9_draw_0 : decode cX9_draw 0 = .ok (.aload_n 0, 1) := by decide +kernel
theorem dX9_draw_1 : decode cX9_draw 1 = .ok (.ldc2_w 408, 3) := by decide +kernel
theorem dX9_draw_4 : decode cX9_draw 4 = .ok (.aload_n 0, 1) := by decide +kernel
theorem dX9_draw_5 : decode cX9_draw 5 = .ok (.getfield 410, 3) := by decide +kernel
theorem dX9_draw_8 : decode cX9_draw 8 = .ok (.lmul, 1) := by decide +kernel
theorem dX9_draw_9 : decode cX9_draw 9 = .ok (.ldc2_w 413, 3) := by decide +kernel
theorem dX9_draw_12 : decode cX9_draw 12 = .ok (.ladd, 1) := by decide +kernel
theorem dX9_draw_13 : decode cX9_draw 13 = .ok (.ldc2_w 415, 3) := by decide +kernel
theorem dX9_draw_16 : decode cX9_draw 16 = .ok (.land, 1) := by decide +kernel
theorem dX9_draw_17 : decode cX9_draw 17 = .ok (.putfield 410, 3) := by decide +kernel
theorem dX9_draw_20 : decode cX9_draw 20 = .ok (.aload_n 0, 1) := by decide +kernel
theorem dX9_draw_21 : decode cX9_draw 21 = .ok (.getfield 410, 3) := by decide +kernel
theorem dX9_draw_24 : decode cX9_draw 24 = .ok (.ldc2_w 417, 3) := by decide +kernel
theorem dX9_draw_27 : decode cX9_draw 27 = .ok (.ldiv, 1) := by decide +kernel
theorem dX9_draw_28 : decode cX9_draw 28 = .ok (.iload_n 1, 1) := by decide +kernel
theorem dX9_draw_29 : decode cX9_draw 29 = .ok (.i2l, 1) := by decide +kernel
theorem dX9_draw_30 : decode cX9_draw 30 = .ok (.lrem, 1) := by decide +kernel
theorem dX9_draw_31 : decode cX9_draw 31 = .ok (.l2i, 1) := by decide +kernel
theorem dX9_draw_32 : decode cX9_draw 32 = .ok (.ireturn, 1) := by decide +kernel
theorem dX9_drawnNow_0 : decode cX9_drawnNow 0 = .ok (.aload_n 0, 1) := by decide +kernel
theorem dX9_drawnNow_1 : decode cX9_drawnNow 1 = .ok (.iload_n 2, 1) := by decide +kernel
theorem dX9_drawnNow_2 : decode cX9_drawnNow 2 = .ok (.i2l, 1) := by decide +kernel
theorem dX9_drawnNow_3 : decode cX9_drawnNow 3 = .ok (.putfield 410, 3) := by decide +kernel
theorem dX9_drawnNow_6 : decode cX9_drawnNow 6 = .ok (.iconst 0, 1) := by decide +kernel
theorem dX9_drawnNow_7 : decode cX9_drawnNow 7 = .ok (.istore 4, 2) := by decide +kernel
theorem dX9_drawnNow_9 : decode cX9_drawnNow 9 = .ok (.iconst 0, 1) := by decide +kernel
theorem dX9_drawnNow_10 : decode cX9_drawnNow 10 = .ok (.istore 5, 2) := by decide +kernel
theorem dX9_drawnNow_12 : decode cX9_drawnNow 12 = .ok (.iconst 0, 1) := by decide +kernel
theorem dX9_drawnNow_13 : decode cX9_drawnNow 13 = .ok (.istore 6, 2) := by decide +kernel
theorem dX9_drawnNow_15 : decode cX9_drawnNow 15 = .ok (.iload 6, 2) := by decide +kernel
theorem dX9_drawnNow_17 : decode cX9_drawnNow 17 = .ok (.iload_n 1, 1) := by decide +kernel
theorem dX9_drawnNow_18 : decode cX9_drawnNow 18 = .ok (.if_icmp .ge 82, 3) := by decide +kernel
theorem dX9_drawnNow_21 : decode cX9_drawnNow 21 = .ok (.aload_n 0, 1) := by decide +kernel
theorem dX9_drawnNow_22 : decode cX9_drawnNow 22 = .ok (.lconst 0, 1) := by decide +kernel
theorem dX9_drawnNow_23 : decode cX9_drawnNow 23 = .ok (.invokevirtual 252, 3) := by decide +kernel
theorem dX9_drawnNow_26 : decode cX9_drawnNow 26 = .ok (.aload_n 0, 1) := by decide +kernel
theorem dX9_drawnNow_27 : decode cX9_drawnNow 27 = .ok (.getfield 39, 3) := by decide +kernel
theorem dX9_drawnNow_30 : decode cX9_drawnNow 30 = .ok (.iconst 4, 1) := by decide +kernel
theorem dX9_drawnNow_31 : decode cX9_drawnNow 31 = .ok (.lconst 1, 1) := by decide +kernel
theorem dX9_drawnNow_32 : decode cX9_drawnNow 32 = .ok (.lastore, 1) := by decide +kernel
theorem dX9_drawnNow_33 : decode cX9_drawnNow 33 = .ok (.iconst 3, 1) := by decide +kernel
theorem dX9_drawnNow_34 : decode cX9_drawnNow 34 = .ok (.istore 7, 2) := by decide +kernel
theorem dX9_drawnNow_36 : decode cX9_drawnNow 36 = .ok (.iload 7, 2) := by decide +kernel
theorem dX9_drawnNow_38 : decode cX9_drawnNow 38 = .ok (.ifCond .lt 25, 3) := by decide +kernel
theorem dX9_drawnNow_41 : decode cX9_drawnNow 41 = .ok (.aload_n 0, 1) := by decide +kernel
theorem dX9_drawnNow_42 : decode cX9_drawnNow 42 = .ok (.getfield 39, 3) := by decide +kernel
theorem dX9_drawnNow_45 : decode cX9_drawnNow 45 = .ok (.iload 7, 2) := by decide +kernel
theorem dX9_drawnNow_47 : decode cX9_drawnNow 47 = .ok (.aload_n 0, 1) := by decide +kernel
theorem dX9_drawnNow_48 : decode cX9_drawnNow 48 = .ok (.bipush 9, 2) := by decide +kernel
theorem dX9_drawnNow_50 : decode cX9_drawnNow 50 = .ok (.invokevirtual 419, 3) := by decide +kernel
theorem dX9_drawnNow_53 : decode cX9_drawnNow 53 = .ok (.iconst 4, 1) := by decide +kernel
theorem dX9_drawnNow_54 : decode cX9_drawnNow 54 = .ok (.isub, 1) := by decide +kernel
theorem dX9_drawnNow_55 : decode cX9_drawnNow 55 = .ok (.i2l, 1) := by decide +kernel
theorem dX9_drawnNow_56 : decode cX9_drawnNow 56 = .ok (.lastore, 1) := by decide +kernel
theorem dX9_drawnNow_57 : decode cX9_drawnNow 57 = .ok (.iinc 7 (-1), 3) := by decide +kernel
theorem dX9_drawnNow_60 : decode cX9_drawnNow 60 = .ok (.goto (-24), 3) := by decide +kernel
theorem dX9_drawnNow_63 : decode cX9_drawnNow 63 = .ok (.aload_n 0, 1) := by decide +kernel
theorem dX9_drawnNow_64 : decode cX9_drawnNow 64 = .ok (.invokevirtual 249, 3) := by decide +kernel
theorem dX9_drawnNow_67 : decode cX9_drawnNow 67 = .ok (.iload 4, 2) := by decide +kernel
theorem dX9_drawnNow_69 : decode cX9_drawnNow 69 = .ok (.aload_n 0, 1) := by decide +kernel
theorem dX9_drawnNow_70 : decode cX9_drawnNow 70 = .ok (.invokevirtual 324, 3) := by decide +kernel
theorem dX9_drawnNow_73 : decode cX9_drawnNow 73 = .ok (.iconst 1, 1) := by decide +kernel
theorem dX9_drawnNow_74 : decode cX9_drawnNow 74 = .ok (.if_icmp .ne 7, 3) := by decide +kernel
theorem dX9_drawnNow_77 : decode cX9_drawnNow 77 = .ok (.iconst 1, 1) := by decide +kernel
theorem dX9_drawnNow_78 : decode cX9_drawnNow 78 = .ok (.goto 4, 3) := by decide +kernel
theorem dX9_drawnNow_81 : decode cX9_drawnNow 81 = .ok (.iconst 0, 1) := by decide +kernel
theorem dX9_drawnNow_82 : decode cX9_drawnNow 82 = .ok (.iadd, 1) := by decide +kernel
theorem dX9_drawnNow_83 : decode cX9_drawnNow 83 = .ok (.istore 4, 2) := by decide +kernel
theorem dX9_drawnNow_85 : decode cX9_drawnNow 85 = .ok (.iload 5, 2) := by decide +kernel
theorem dX9_drawnNow_87 : decode cX9_drawnNow 87 = .ok (.aload_n 0, 1) := by decide +kernel
theorem dX9_drawnNow_88 : decode cX9_drawnNow 88 = .ok (.invokevirtual 324, 3) := by decide +kernel
theorem dX9_drawnNow_91 : decode cX9_drawnNow 91 = .ok (.iadd, 1) := by decide +kernel
theorem dX9_drawnNow_92 : decode cX9_drawnNow 92 = .ok (.istore 5, 2) := by decide +kernel
theorem dX9_drawnNow_94 : decode cX9_drawnNow 94 = .ok (.iinc 6 1, 3) := by decide +kernel
theorem dX9_drawnNow_97 : decode cX9_drawnNow 97 = .ok (.goto (-82), 3) := by decide +kernel
theorem dX9_drawnNow_100 : decode cX9_drawnNow 100 = .ok (.iload_n 3, 1) := by decide +kernel
theorem dX9_drawnNow_101 : decode cX9_drawnNow 101 = .ok (.ifCond .ne 8, 3) := by decide +kernel
theorem dX9_drawnNow_104 : decode cX9_drawnNow 104 = .ok (.iload 4, 2) := by decide +kernel
theorem dX9_drawnNow_106 : decode cX9_drawnNow 106 = .ok (.goto 18, 3) := by decide +kernel
theorem dX9_drawnNow_109 : decode cX9_drawnNow 109 = .ok (.iload_n 3, 1) := by decide +kernel
theorem dX9_drawnNow_110 : decode cX9_drawnNow 110 = .ok (.iconst 1, 1) := by decide +kernel
theorem dX9_drawnNow_111 : decode cX9_drawnNow 111 = .ok (.if_icmp .ne 8, 3) := by decide +kernel
theorem dX9_drawnNow_114 : decode cX9_drawnNow 114 = .ok (.iload 5, 2) := by decide +kernel
theorem dX9_drawnNow_116 : decode cX9_drawnNow 116 = .ok (.goto 8, 3) := by decide +kernel
theorem dX9_drawnNow_119 : decode cX9_drawnNow 119 = .ok (.aload_n 0, 1) := by decide +kernel
theorem dX9_drawnNow_120 : decode cX9_drawnNow 120 = .ok (.getfield 410, 3) := by decide +kernel
theorem dX9_drawnNow_123 : decode cX9_drawnNow 123 = .ok (.l2i, 1) := by decide +kernel
theorem dX9_drawnNow_124 : decode cX9_drawnNow 124 = .ok (.ireturn, 1) := by decide +kernel
theorem dX9_drawn_0 : decode cX9_drawn 0 = .ok (.iload_n 1, 1) := by decide +kernel
theorem dX9_drawn_1 : decode cX9_drawn 1 = .ok (.i2l, 1) := by decide +kernel
theorem dX9_drawn_2 : decode cX9_drawn 2 = .ok (.lconst 1, 1) := by decide +kernel
theorem dX9_drawn_3 : decode cX9_drawn 3 = .ok (.ldc2_w 163, 3) := by decide +kernel
theorem dX9_drawn_6 : decode cX9_drawn 6 = .ok (.invokestatic 116, 3) := by decide +kernel
theorem dX9_drawn_9 : decode cX9_drawn 9 = .ok (.ifCond .eq 19, 3) := by decide +kernel
theorem dX9_drawn_12 : decode cX9_drawn 12 = .ok (.iload_n 2, 1) := by decide +kernel
theorem dX9_drawn_13 : decode cX9_drawn 13 = .ok (.ifCond .lt 15, 3) := by decide +kernel
theorem dX9_drawn_16 : decode cX9_drawn 16 = .ok (.iload_n 3, 1) := by decide +kernel
theorem dX9_drawn_17 : decode cX9_drawn 17 = .ok (.i2l, 1) := by decide +kernel
theorem dX9_drawn_18 : decode cX9_drawn 18 = .ok (.lconst 0, 1) := by decide +kernel
theorem dX9_drawn_19 : decode cX9_drawn 19 = .ok (.ldc2_w 422, 3) := by decide +kernel
theorem dX9_drawn_22 : decode cX9_drawn 22 = .ok (.invokestatic 116, 3) := by decide +kernel
theorem dX9_drawn_25 : decode cX9_drawn 25 = .ok (.ifCond .ne 8, 3) := by decide +kernel
theorem dX9_drawn_28 : decode cX9_drawn 28 = .ok (.bipush (-102), 2) := by decide +kernel
theorem dX9_drawn_30 : decode cX9_drawn 30 = .ok (.goto 10, 3) := by decide +kernel
theorem dX9_drawn_33 : decode cX9_drawn 33 = .ok (.aload_n 0, 1) := by decide +kernel
theorem dX9_drawn_34 : decode cX9_drawn 34 = .ok (.iload_n 1, 1) := by decide +kernel
theorem dX9_drawn_35 : decode cX9_drawn 35 = .ok (.iload_n 2, 1) := by decide +kernel
theorem dX9_drawn_36 : decode cX9_drawn 36 = .ok (.iload_n 3, 1) := by decide +kernel
theorem dX9_drawn_37 : decode cX9_drawn 37 = .ok (.invokevirtual 424, 3) := by decide +kernel
theorem dX9_drawn_40 : decode cX9_drawn 40 = .ok (.ireturn, 1) := by decide +kernel
theorem dX9_filled_0 : decode cX9_filled 0 = .ok (.iconst 0, 1) := by decide +kernel
theorem dX9_filled_1 : decode cX9_filled 1 = .ok (.istore_n 1, 1) := by decide +kernel
theorem dX9_filled_2 : decode cX9_filled 2 = .ok (.iconst 0, 1) := by decide +kernel
theorem dX9_filled_3 : decode cX9_filled 3 = .ok (.istore_n 2, 1) := by decide +kernel
theorem dX9_filled_4 : decode cX9_filled 4 = .ok (.iload_n 2, 1) := by decide +kernel
theorem dX9_filled_5 : decode cX9_filled 5 = .ok (.aload_n 0, 1) := by decide +kernel
theorem dX9_filled_6 : decode cX9_filled 6 = .ok (.getfield 168, 3) := by decide +kernel
theorem dX9_filled_9 : decode cX9_filled 9 = .ok (.if_icmp .ge 26, 3) := by decide +kernel
theorem dX9_filled_12 : decode cX9_filled 12 = .ok (.iload_n 1, 1) := by decide +kernel
theorem dX9_filled_13 : decode cX9_filled 13 = .ok (.aload_n 0, 1) := by decide +kernel
theorem dX9_filled_14 : decode cX9_filled 14 = .ok (.getfield 17, 3) := by decide +kernel
theorem dX9_filled_17 : decode cX9_filled 17 = .ok (.iload_n 2, 1) := by decide +kernel
theorem dX9_filled_18 : decode cX9_filled 18 = .ok (.iaload, 1) := by decide +kernel
theorem dX9_filled_19 : decode cX9_filled 19 = .ok (.ifCond .lt 7, 3) := by decide +kernel
theorem dX9_filled_22 : decode cX9_filled 22 = .ok (.iconst 1, 1) := by decide +kernel
theorem dX9_filled_23 : decode cX9_filled 23 = .ok (.goto 4, 3) := by decide +kernel
theorem dX9_filled_26 : decode cX9_filled 26 = .ok (.iconst 0, 1) := by decide +kernel
theorem dX9_filled_27 : decode cX9_filled 27 = .ok (.iadd, 1) := by decide +kernel
theorem dX9_filled_28 : decode cX9_filled 28 = .ok (.istore_n 1, 1) := by decide +kernel
theorem dX9_filled_29 : decode cX9_filled 29 = .ok (.iinc 2 1, 3) := by decide +kernel
theorem dX9_filled_32 : decode cX9_filled 32 = .ok (.goto (-28), 3) := by decide +kernel
theorem dX9_filled_35 : decode cX9_filled 35 = .ok (.iload_n 1, 1) := by decide +kernel
theorem dX9_filled_36 : decode cX9_filled 36 = .ok (.ireturn, 1) := by decide +kernel
theorem dX9_image_0 : decode cX9_image 0 = .ok (.aload_n 0, 1) := by decide +kernel
theorem dX9_image_1 : decode cX9_image 1 = .ok (.getfield 168, 3) := by decide +kernel
theorem dX9_image_4 : decode cX9_image 4 = .ok (.ifCond .ne 6, 3) := by decide +kernel
theorem dX9_image_7 : decode cX9_image 7 = .ok (.bipush (-103), 2) := by decide +kernel
theorem dX9_image_9 : decode cX9_image 9 = .ok (.ireturn, 1) := by decide +kernel
theorem dX9_image_10 : decode cX9_image 10 = .ok (.aload_n 0, 1) := by decide +kernel
theorem dX9_image_11 : decode cX9_image 11 = .ok (.iconst 1, 1) := by decide +kernel
theorem dX9_image_12 : decode cX9_image 12 = .ok (.putfield 427, 3) := by decide +kernel
theorem dX9_image_15 : decode cX9_image 15 = .ok (.aload_n 0, 1) := by decide +kernel
theorem dX9_image_16 : decode cX9_image 16 = .ok (.aload_n 0, 1) := by decide +kernel
theorem dX9_image_17 : decode cX9_image 17 = .ok (.getfield 171, 3) := by decide +kernel
theorem dX9_image_20 : decode cX9_image 20 = .ok (.putfield 430, 3) := by decide +kernel
theorem dX9_image_23 : decode cX9_image 23 = .ok (.aload_n 0, 1) := by decide +kernel
theorem dX9_image_24 : decode cX9_image 24 = .ok (.aload_n 0, 1) := by decide +kernel
theorem dX9_image_25 : decode cX9_image 25 = .ok (.getfield 174, 3) := by decide +kernel
theorem dX9_image_28 : decode cX9_image 28 = .ok (.putfield 433, 3) := by decide +kernel
theorem dX9_image_31 : decode cX9_image 31 = .ok (.iconst 0, 1) := by decide +kernel
theorem dX9_image_32 : decode cX9_image 32 = .ok (.istore_n 1, 1) := by decide +kernel
theorem dX9_image_33 : decode cX9_image 33 = .ok (.iload_n 1, 1) := by decide +kernel
theorem dX9_image_34 : decode cX9_image 34 = .ok (.iconst 4, 1) := by decide +kernel
theorem dX9_image_35 : decode cX9_image 35 = .ok (.if_icmp .ge 33, 3) := by decide +kernel
theorem dX9_image_38 : decode cX9_image 38 = .ok (.aload_n 0, 1) := by decide +kernel
theorem dX9_image_39 : decode cX9_image 39 = .ok (.getfield 90, 3) := by decide +kernel
theorem dX9_image_42 : decode cX9_image 42 = .ok (.iload_n 1, 1) := by decide +kernel
theorem dX9_image_43 : decode cX9_image 43 = .ok (.aload_n 0, 1) := by decide +kernel
theorem dX9_image_44 : decode cX9_image 44 = .ok (.getfield 7, 3) := by decide +kernel
theorem dX9_image_47 : decode cX9_image 47 = .ok (.iload_n 1, 1) := by decide +kernel
theorem dX9_image_48 : decode cX9_image 48 = .ok (.iaload, 1) := by decide +kernel
theorem dX9_image_49 : decode cX9_image 49 = .ok (.iastore, 1) := by decide +kernel
theorem dX9_image_50 : decode cX9_image 50 = .ok (.aload_n 0, 1) := by decide +kernel
theorem dX9_image_51 : decode cX9_image 51 = .ok (.getfield 93, 3) := by decide +kernel
theorem dX9_image_54 : decode cX9_image 54 = .ok (.iload_n 1, 1) := by decide +kernel
theorem dX9_image_55 : decode cX9_image 55 = .ok (.aload_n 0, 1) := by decide +kernel
theorem dX9_image_56 : decode cX9_image 56 = .ok (.getfield 17, 3) := by decide +kernel
theorem dX9_image_59 : decode cX9_image 59 = .ok (.iload_n 1, 1) := by decide +kernel
theorem dX9_image_60 : decode cX9_image 60 = .ok (.iaload, 1) := by decide +kernel
theorem dX9_image_61 : decode cX9_image 61 = .ok (.iastore, 1) := by decide +kernel
theorem dX9_image_62 : decode cX9_image 62 = .ok (.iinc 1 1, 3) := by decide +kernel
theorem dX9_image_65 : decode cX9_image 65 = .ok (.goto (-32), 3) := by decide +kernel
theorem dX9_image_68 : decode cX9_image 68 = .ok (.iconst 0, 1) := by decide +kernel
theorem dX9_image_69 : decode cX9_image 69 = .ok (.istore_n 1, 1) := by decide +kernel
theorem dX9_image_70 : decode cX9_image 70 = .ok (.iload_n 1, 1) := by decide +kernel
theorem dX9_image_71 : decode cX9_image 71 = .ok (.bipush 24, 2) := by decide +kernel
theorem dX9_image_73 : decode cX9_image 73 = .ok (.if_icmp .ge 21, 3) := by decide +kernel
theorem dX9_image_76 : decode cX9_image 76 = .ok (.aload_n 0, 1) := by decide +kernel
theorem dX9_image_77 : decode cX9_image 77 = .ok (.getfield 96, 3) := by decide +kernel
theorem dX9_image_80 : decode cX9_image 80 = .ok (.iload_n 1, 1) := by decide +kernel
theorem dX9_image_81 : decode cX9_image 81 = .ok (.aload_n 0, 1) := by decide +kernel
theorem dX9_image_82 : decode cX9_image 82 = .ok (.getfield 13, 3) := by decide +kernel
theorem dX9_image_85 : decode cX9_image 85 = .ok (.iload_n 1, 1) := by decide +kernel
theorem dX9_image_86 : decode cX9_image 86 = .ok (.laload, 1) := by decide +kernel
theorem dX9_image_87 : decode cX9_image 87 = .ok (.lastore, 1) := by decide +kernel
theorem dX9_image_88 : decode cX9_image 88 = .ok (.iinc 1 1, 3) := by decide +kernel
theorem dX9_image_91 : decode cX9_image 91 = .ok (.goto (-21), 3) := by decide +kernel
theorem dX9_image_94 : decode cX9_image 94 = .ok (.iconst 0, 1) := by decide +kernel
theorem dX9_image_95 : decode cX9_image 95 = .ok (.istore_n 1, 1) := by decide +kernel
theorem dX9_image_96 : decode cX9_image 96 = .ok (.iload_n 1, 1) := by decide +kernel
theorem dX9_image_97 : decode cX9_image 97 = .ok (.bipush 6, 2) := by decide +kernel
theorem dX9_image_99 : decode cX9_image 99 = .ok (.if_icmp .ge 45, 3) := by decide +kernel
theorem dX9_image_102 : decode cX9_image 102 = .ok (.aload_n 0, 1) := by decide +kernel
theorem dX9_image_103 : decode cX9_image 103 = .ok (.getfield 99, 3) := by decide +kernel
theorem dX9_image_106 : decode cX9_image 106 = .ok (.iload_n 1, 1) := by decide +kernel
theorem dX9_image_107 : decode cX9_image 107 = .ok (.aload_n 0, 1) := by decide +kernel
theorem dX9_image_108 : decode cX9_image 108 = .ok (.getfield 20, 3) := by decide +kernel
theorem dX9_image_111 : decode cX9_image 111 = .ok (.iload_n 1, 1) := by decide +kernel
theorem dX9_image_112 : decode cX9_image 112 = .ok (.iaload, 1) := by decide +kernel
theorem dX9_image_113 : decode cX9_image 113 = .ok (.iastore, 1) := by decide +kernel
theorem dX9_image_114 : decode cX9_image 114 = .ok (.aload_n 0, 1) := by decide +kernel
theorem dX9_image_115 : decode cX9_image 115 = .ok (.getfield 102, 3) := by decide +kernel
theorem dX9_image_118 : decode cX9_image 118 = .ok (.iload_n 1, 1) := by decide +kernel
theorem dX9_image_119 : decode cX9_image 119 = .ok (.aload_n 0, 1) := by decide +kernel
theorem dX9_image_120 : decode cX9_image 120 = .ok (.getfield 23, 3) := by decide +kernel
theorem dX9_image_123 : decode cX9_image 123 = .ok (.iload_n 1, 1) := by decide +kernel
theorem dX9_image_124 : decode cX9_image 124 = .ok (.iaload, 1) := by decide +kernel
theorem dX9_image_125 : decode cX9_image 125 = .ok (.iastore, 1) := by decide +kernel
theorem dX9_image_126 : decode cX9_image 126 = .ok (.aload_n 0, 1) := by decide +kernel
theorem dX9_image_127 : decode cX9_image 127 = .ok (.getfield 105, 3) := by decide +kernel
theorem dX9_image_130 : decode cX9_image 130 = .ok (.iload_n 1, 1) := by decide +kernel
theorem dX9_image_131 : decode cX9_image 131 = .ok (.aload_n 0, 1) := by decide +kernel
theorem dX9_image_132 : decode cX9_image 132 = .ok (.getfield 26, 3) := by decide +kernel
theorem dX9_image_135 : decode cX9_image 135 = .ok (.iload_n 1, 1) := by decide +kernel
theorem dX9_image_136 : decode cX9_image 136 = .ok (.iaload, 1) := by decide +kernel
theorem dX9_image_137 : decode cX9_image 137 = .ok (.iastore, 1) := by decide +kernel
theorem dX9_image_138 : decode cX9_image 138 = .ok (.iinc 1 1, 3) := by decide +kernel
theorem dX9_image_141 : decode cX9_image 141 = .ok (.goto (-45), 3) := by decide +kernel
theorem dX9_image_144 : decode cX9_image 144 = .ok (.aload_n 0, 1) := by decide +kernel
theorem dX9_image_145 : decode cX9_image 145 = .ok (.invokevirtual 436, 3) := by decide +kernel
theorem dX9_image_148 : decode cX9_image 148 = .ok (.ireturn, 1) := by decide +kernel
theorem dX9_restore_0 : decode cX9_restore 0 = .ok (.aload_n 0, 1) := by decide +kernel
theorem dX9_restore_1 : decode cX9_restore 1 = .ok (.getfield 427, 3) := by decide +kernel
theorem dX9_restore_4 : decode cX9_restore 4 = .ok (.ifCond .eq 14, 3) := by decide +kernel
theorem dX9_restore_7 : decode cX9_restore 7 = .ok (.aload_n 0, 1) := by decide +kernel
theorem dX9_restore_8 : decode cX9_restore 8 = .ok (.getfield 430, 3) := by decide +kernel
theorem dX9_restore_11 : decode cX9_restore 11 = .ok (.aload_n 0, 1) := by decide +kernel
theorem dX9_restore_12 : decode cX9_restore 12 = .ok (.getfield 171, 3) := by decide +kernel
theorem dX9_restore_15 : decode cX9_restore 15 = .ok (.if_icmp .eq 6, 3) := by decide +kernel
theorem dX9_restore_18 : decode cX9_restore 18 = .ok (.bipush (-103), 2) := by decide +kernel
theorem dX9_restore_20 : decode cX9_restore 20 = .ok (.ireturn, 1) := by decide +kernel
theorem dX9_restore_21 : decode cX9_restore 21 = .ok (.aload_n 0, 1) := by decide +kernel
theorem dX9_restore_22 : decode cX9_restore 22 = .ok (.aload_n 0, 1) := by decide +kernel
theorem dX9_restore_23 : decode cX9_restore 23 = .ok (.getfield 433, 3) := by decide +kernel
theorem dX9_restore_26 : decode cX9_restore 26 = .ok (.putfield 174, 3) := by decide +kernel
theorem dX9_restore_29 : decode cX9_restore 29 = .ok (.iconst 0, 1) := by decide +kernel
theorem dX9_restore_30 : decode cX9_restore 30 = .ok (.istore_n 1, 1) := by decide +kernel
theorem dX9_restore_31 : decode cX9_restore 31 = .ok (.iload_n 1, 1) := by decide +kernel
theorem dX9_restore_32 : decode cX9_restore 32 = .ok (.iconst 4, 1) := by decide +kernel
theorem dX9_restore_33 : decode cX9_restore 33 = .ok (.if_icmp .ge 33, 3) := by decide +kernel
theorem dX9_restore_36 : decode cX9_restore 36 = .ok (.aload_n 0, 1) := by decide +kernel
theorem dX9_restore_37 : decode cX9_restore 37 = .ok (.getfield 7, 3) := by decide +kernel
theorem dX9_restore_40 : decode cX9_restore 40 = .ok (.iload_n 1, 1) := by decide +kernel
theorem dX9_restore_41 : decode cX9_restore 41 = .ok (.aload_n 0, 1) := by decide +kernel
theorem dX9_restore_42 : decode cX9_restore 42 = .ok (.getfield 90, 3) := by decide +kernel
theorem dX9_restore_45 : decode cX9_restore 45 = .ok (.iload_n 1, 1) := by decide +kernel
theorem dX9_restore_46 : decode cX9_restore 46 = .ok (.iaload, 1) := by decide +kernel
theorem dX9_restore_47 : decode cX9_restore 47 = .ok (.iastore, 1) := by decide +kernel
theorem dX9_restore_48 : decode cX9_restore 48 = .ok (.aload_n 0, 1) := by decide +kernel
theorem dX9_restore_49 : decode cX9_restore 49 = .ok (.getfield 17, 3) := by decide +kernel
theorem dX9_restore_52 : decode cX9_restore 52 = .ok (.iload_n 1, 1) := by decide +kernel
theorem dX9_restore_53 : decode cX9_restore 53 = .ok (.aload_n 0, 1) := by decide +kernel
theorem dX9_restore_54 : decode cX9_restore 54 = .ok (.getfield 93, 3) := by decide +kernel
theorem dX9_restore_57 : decode cX9_restore 57 = .ok (.iload_n 1, 1) := by decide +kernel
theorem dX9_restore_58 : decode cX9_restore 58 = .ok (.iaload, 1) := by decide +kernel
theorem dX9_restore_59 : decode cX9_restore 59 = .ok (.iastore, 1) := by decide +kernel
theorem dX9_restore_60 : decode cX9_restore 60 = .ok (.iinc 1 1, 3) := by decide +kernel
theorem dX9_restore_63 : decode cX9_restore 63 = .ok (.goto (-32), 3) := by decide +kernel
theorem dX9_restore_66 : decode cX9_restore 66 = .ok (.iconst 0, 1) := by decide +kernel
theorem dX9_restore_67 : decode cX9_restore 67 = .ok (.istore_n 1, 1) := by decide +kernel
theorem dX9_restore_68 : decode cX9_restore 68 = .ok (.iload_n 1, 1) := by decide +kernel
theorem dX9_restore_69 : decode cX9_restore 69 = .ok (.bipush 24, 2) := by decide +kernel
theorem dX9_restore_71 : decode cX9_restore 71 = .ok (.if_icmp .ge 21, 3) := by decide +kernel
theorem dX9_restore_74 : decode cX9_restore 74 = .ok (.aload_n 0, 1) := by decide +kernel
theorem dX9_restore_75 : decode cX9_restore 75 = .ok (.getfield 13, 3) := by decide +kernel
theorem dX9_restore_78 : decode cX9_restore 78 = .ok (.iload_n 1, 1) := by decide +kernel
theorem dX9_restore_79 : decode cX9_restore 79 = .ok (.aload_n 0, 1) := by decide +kernel
theorem dX9_restore_80 : decode cX9_restore 80 = .ok (.getfield 96, 3) := by decide +kernel
theorem dX9_restore_83 : decode cX9_restore 83 = .ok (.iload_n 1, 1) := by decide +kernel
theorem dX9_restore_84 : decode cX9_restore 84 = .ok (.laload, 1) := by decide +kernel
theorem dX9_restore_85 : decode cX9_restore 85 = .ok (.lastore, 1) := by decide +kernel
theorem dX9_restore_86 : decode cX9_restore 86 = .ok (.iinc 1 1, 3) := by decide +kernel
theorem dX9_restore_89 : decode cX9_restore 89 = .ok (.goto (-21), 3) := by decide +kernel
theorem dX9_restore_92 : decode cX9_restore 92 = .ok (.iconst 0, 1) := by decide +kernel
theorem dX9_restore_93 : decode cX9_restore 93 = .ok (.istore_n 1, 1) := by decide +kernel
theorem dX9_restore_94 : decode cX9_restore 94 = .ok (.iload_n 1, 1) := by decide +kernel
theorem dX9_restore_95 : decode cX9_restore 95 = .ok (.bipush 6, 2) := by decide +kernel
theorem dX9_restore_97 : decode cX9_restore 97 = .ok (.if_icmp .ge 45, 3) := by decide +kernel
theorem dX9_restore_100 : decode cX9_restore 100 = .ok (.aload_n 0, 1) := by decide +kernel
theorem dX9_restore_101 : decode cX9_restore 101 = .ok (.getfield 20, 3) := by decide +kernel
theorem dX9_restore_104 : decode cX9_restore 104 = .ok (.iload_n 1, 1) := by decide +kernel
theorem dX9_restore_105 : decode cX9_restore 105 = .ok (.aload_n 0, 1) := by decide +kernel
theorem dX9_restore_106 : decode cX9_restore 106 = .ok (.getfield 99, 3) := by decide +kernel
theorem dX9_restore_109 : decode cX9_restore 109 = .ok (.iload_n 1, 1) := by decide +kernel
theorem dX9_restore_110 : decode cX9_restore 110 = .ok (.iaload, 1) := by decide +kernel
theorem dX9_restore_111 : decode cX9_restore 111 = .ok (.iastore, 1) := by decide +kernel
theorem dX9_restore_112 : decode cX9_restore 112 = .ok (.aload_n 0, 1) := by decide +kernel
theorem dX9_restore_113 : decode cX9_restore 113 = .ok (.getfield 23, 3) := by decide +kernel
theorem dX9_restore_116 : decode cX9_restore 116 = .ok (.iload_n 1, 1) := by decide +kernel
theorem dX9_restore_117 : decode cX9_restore 117 = .ok (.aload_n 0, 1) := by decide +kernel
theorem dX9_restore_118 : decode cX9_restore 118 = .ok (.getfield 102, 3) := by decide +kernel
theorem dX9_restore_121 : decode cX9_restore 121 = .ok (.iload_n 1, 1) := by decide +kernel
theorem dX9_restore_122 : decode cX9_restore 122 = .ok (.iaload, 1) := by decide +kernel
theorem dX9_restore_123 : decode cX9_restore 123 = .ok (.iastore, 1) := by decide +kernel
theorem dX9_restore_124 : decode cX9_restore 124 = .ok (.aload_n 0, 1) := by decide +kernel
theorem dX9_restore_125 : decode cX9_restore 125 = .ok (.getfield 26, 3) := by decide +kernel
theorem dX9_restore_128 : decode cX9_restore 128 = .ok (.iload_n 1, 1) := by decide +kernel
theorem dX9_restore_129 : decode cX9_restore 129 = .ok (.aload_n 0, 1) := by decide +kernel
theorem dX9_restore_130 : decode cX9_restore 130 = .ok (.getfield 105, 3) := by decide +kernel
theorem dX9_restore_133 : decode cX9_restore 133 = .ok (.iload_n 1, 1) := by decide +kernel
theorem dX9_restore_134 : decode cX9_restore 134 = .ok (.iaload, 1) := by decide +kernel
theorem dX9_restore_135 : decode cX9_restore 135 = .ok (.iastore, 1) := by decide +kernel
theorem dX9_restore_136 : decode cX9_restore 136 = .ok (.iinc 1 1, 3) := by decide +kernel
theorem dX9_restore_139 : decode cX9_restore 139 = .ok (.goto (-45), 3) := by decide +kernel
theorem dX9_restore_142 : decode cX9_restore 142 = .ok (.aload_n 0, 1) := by decide +kernel
theorem dX9_restore_143 : decode cX9_restore 143 = .ok (.invokevirtual 436, 3) := by decide +kernel
theorem dX9_restore_146 : decode cX9_restore 146 = .ok (.ireturn, 1) := by decide +kernel
theorem dX9_isWholeSlot_0 : decode cX9_isWholeSlot 0 = .ok (.aload_n 0, 1) := by decide +kernel
theorem dX9_isWholeSlot_1 : decode cX9_isWholeSlot 1 = .ok (.iload_n 1, 1) := by decide +kernel
theorem dX9_isWholeSlot_2 : decode cX9_isWholeSlot 2 = .ok (.invokevirtual 305, 3) := by decide +kernel
theorem dX9_isWholeSlot_5 : decode cX9_isWholeSlot 5 = .ok (.aload_n 0, 1) := by decide +kernel
theorem dX9_isWholeSlot_6 : decode cX9_isWholeSlot 6 = .ok (.invokevirtual 249, 3) := by decide +kernel
theorem dX9_isWholeSlot_9 : decode cX9_isWholeSlot 9 = .ok (.aload_n 0, 1) := by decide +kernel
theorem dX9_isWholeSlot_10 : decode cX9_isWholeSlot 10 = .ok (.invokevirtual 240, 3) := by decide +kernel
theorem dX9_isWholeSlot_13 : decode cX9_isWholeSlot 13 = .ok (.aload_n 0, 1) := by decide +kernel
theorem dX9_isWholeSlot_14 : decode cX9_isWholeSlot 14 = .ok (.getfield 230, 3) := by decide +kernel
theorem dX9_isWholeSlot_17 : decode cX9_isWholeSlot 17 = .ok (.lconst 1, 1) := by decide +kernel
theorem dX9_isWholeSlot_18 : decode cX9_isWholeSlot 18 = .ok (.lcmp, 1) := by decide +kernel
theorem dX9_isWholeSlot_19 : decode cX9_isWholeSlot 19 = .ok (.ifCond .ne 15, 3) := by decide +kernel
theorem dX9_isWholeSlot_22 : decode cX9_isWholeSlot 22 = .ok (.aload_n 0, 1) := by decide +kernel
theorem dX9_isWholeSlot_23 : decode cX9_isWholeSlot 23 = .ok (.invokevirtual 324, 3) := by decide +kernel
theorem dX9_isWholeSlot_26 : decode cX9_isWholeSlot 26 = .ok (.iconst 1, 1) := by decide +kernel
theorem dX9_isWholeSlot_27 : decode cX9_isWholeSlot 27 = .ok (.if_icmp .ne 7, 3) := by decide +kernel
theorem dX9_isWholeSlot_30 : decode cX9_isWholeSlot 30 = .ok (.iconst 1, 1) := by decide +kernel
theorem dX9_isWholeSlot_31 : decode cX9_isWholeSlot 31 = .ok (.goto 4, 3) := by decide +kernel
theorem dX9_isWholeSlot_34 : decode cX9_isWholeSlot 34 = .ok (.iconst 0, 1) := by decide +kernel
theorem dX9_isWholeSlot_35 : decode cX9_isWholeSlot 35 = .ok (.ireturn, 1) := by decide +kernel
theorem dX9_ofSlots_0 : decode cX9_ofSlots 0 = .ok (.iconst 0, 1) := by decide +kernel
theorem dX9_ofSlots_1 : decode cX9_ofSlots 1 = .ok (.istore_n 2, 1) := by decide +kernel
theorem dX9_ofSlots_2 : decode cX9_ofSlots 2 = .ok (.iconst 0, 1) := by decide +kernel
theorem dX9_ofSlots_3 : decode cX9_ofSlots 3 = .ok (.istore_n 3, 1) := by decide +kernel
theorem dX9_ofSlots_4 : decode cX9_ofSlots 4 = .ok (.iload_n 3, 1) := by decide +kernel
theorem dX9_ofSlots_5 : decode cX9_ofSlots 5 = .ok (.aload_n 0, 1) := by decide +kernel
theorem dX9_ofSlots_6 : decode cX9_ofSlots 6 = .ok (.getfield 168, 3) := by decide +kernel
theorem dX9_ofSlots_9 : decode cX9_ofSlots 9 = .ok (.if_icmp .ge 61, 3) := by decide +kernel
theorem dX9_ofSlots_12 : decode cX9_ofSlots 12 = .ok (.aload_n 0, 1) := by decide +kernel
theorem dX9_ofSlots_13 : decode cX9_ofSlots 13 = .ok (.getfield 17, 3) := by decide +kernel
theorem dX9_ofSlots_16 : decode cX9_ofSlots 16 = .ok (.iload_n 3, 1) := by decide +kernel
theorem dX9_ofSlots_17 : decode cX9_ofSlots 17 = .ok (.iaload, 1) := by decide +kernel
theorem dX9_ofSlots_18 : decode cX9_ofSlots 18 = .ok (.ifCond .lt 46, 3) := by decide +kernel
theorem dX9_ofSlots_21 : decode cX9_ofSlots 21 = .ok (.iload_n 2, 1) := by decide +kernel
theorem dX9_ofSlots_22 : decode cX9_ofSlots 22 = .ok (.iload_n 1, 1) := by decide +kernel
theorem dX9_ofSlots_23 : decode cX9_ofSlots 23 = .ok (.iconst 3, 1) := by decide +kernel
theorem dX9_ofSlots_24 : decode cX9_ofSlots 24 = .ok (.if_icmp .ne 12, 3) := by decide +kernel
theorem dX9_ofSlots_27 : decode cX9_ofSlots 27 = .ok (.aload_n 0, 1) := by decide +kernel
theorem dX9_ofSlots_28 : decode cX9_ofSlots 28 = .ok (.getfield 17, 3) := by decide +kernel
theorem dX9_ofSlots_31 : decode cX9_ofSlots 31 = .ok (.iload_n 3, 1) := by decide +kernel
theorem dX9_ofSlots_32 : decode cX9_ofSlots 32 = .ok (.iaload, 1) := by decide +kernel
theorem dX9_ofSlots_33 : decode cX9_ofSlots 33 = .ok (.goto 29, 3) := by decide +kernel
theorem dX9_ofSlots_36 : decode cX9_ofSlots 36 = .ok (.iload_n 1, 1) := by decide +kernel
theorem dX9_ofSlots_37 : decode cX9_ofSlots 37 = .ok (.iconst 4, 1) := by decide +kernel
theorem dX9_ofSlots_38 : decode cX9_ofSlots 38 = .ok (.if_icmp .ne 11, 3) := by decide +kernel
theorem dX9_ofSlots_41 : decode cX9_ofSlots 41 = .ok (.aload_n 0, 1) := by decide +kernel
theorem dX9_ofSlots_42 : decode cX9_ofSlots 42 = .ok (.iload_n 3, 1) := by decide +kernel
theorem dX9_ofSlots_43 : decode cX9_ofSlots 43 = .ok (.invokevirtual 311, 3) := by decide +kernel
theorem dX9_ofSlots_46 : decode cX9_ofSlots 46 = .ok (.goto 16, 3) := by decide +kernel
theorem dX9_ofSlots_49 : decode cX9_ofSlots 49 = .ok (.aload_n 0, 1) := by decide +kernel
theorem dX9_ofSlots_50 : decode cX9_ofSlots 50 = .ok (.iload_n 3, 1) := by decide +kernel
theorem dX9_ofSlots_51 : decode cX9_ofSlots 51 = .ok (.invokevirtual 439, 3) := by decide +kernel
theorem dX9_ofSlots_54 : decode cX9_ofSlots 54 = .ok (.ifCond .eq 7, 3) := by decide +kernel
theorem dX9_ofSlots_57 : decode cX9_ofSlots 57 = .ok (.iconst 1, 1) := by decide +kernel
theorem dX9_ofSlots_58 : decode cX9_ofSlots 58 = .ok (.goto 4, 3) := by decide +kernel
theorem dX9_ofSlots_61 : decode cX9_ofSlots 61 = .ok (.iconst 0, 1) := by decide +kernel
theorem dX9_ofSlots_62 : decode cX9_ofSlots 62 = .ok (.iadd, 1) := by decide +kernel
theorem dX9_ofSlots_63 : decode cX9_ofSlots 63 = .ok (.istore_n 2, 1) := by decide +kernel
theorem dX9_ofSlots_64 : decode cX9_ofSlots 64 = .ok (.iinc 3 1, 3) := by decide +kernel
theorem dX9_ofSlots_67 : decode cX9_ofSlots 67 = .ok (.goto (-63), 3) := by decide +kernel
theorem dX9_ofSlots_70 : decode cX9_ofSlots 70 = .ok (.iload_n 2, 1) := by decide +kernel
theorem dX9_ofSlots_71 : decode cX9_ofSlots 71 = .ok (.ireturn, 1) := by decide +kernel
theorem dX9_howMany_0 : decode cX9_howMany 0 = .ok (.iload_n 1, 1) := by decide +kernel
theorem dX9_howMany_1 : decode cX9_howMany 1 = .ok (.tableswitch 78 0 7 #[47, 52, 57, 57, 57, 63, 68, 73], 47) := by decide +kernel
theorem dX9_howMany_48 : decode cX9_howMany 48 = .ok (.aload_n 0, 1) := by decide +kernel
theorem dX9_howMany_49 : decode cX9_howMany 49 = .ok (.getfield 168, 3) := by decide +kernel
theorem dX9_howMany_52 : decode cX9_howMany 52 = .ok (.ireturn, 1) := by decide +kernel
theorem dX9_howMany_53 : decode cX9_howMany 53 = .ok (.aload_n 0, 1) := by decide +kernel
theorem dX9_howMany_54 : decode cX9_howMany 54 = .ok (.invokevirtual 436, 3) := by decide +kernel
theorem dX9_howMany_57 : decode cX9_howMany 57 = .ok (.ireturn, 1) := by decide +kernel
theorem dX9_howMany_58 : decode cX9_howMany 58 = .ok (.aload_n 0, 1) := by decide +kernel
theorem dX9_howMany_59 : decode cX9_howMany 59 = .ok (.iload_n 1, 1) := by decide +kernel
theorem dX9_howMany_60 : decode cX9_howMany 60 = .ok (.invokevirtual 442, 3) := by decide +kernel
theorem dX9_howMany_63 : decode cX9_howMany 63 = .ok (.ireturn, 1) := by decide +kernel
theorem dX9_howMany_64 : decode cX9_howMany 64 = .ok (.aload_n 0, 1) := by decide +kernel
theorem dX9_howMany_65 : decode cX9_howMany 65 = .ok (.getfield 174, 3) := by decide +kernel
theorem dX9_howMany_68 : decode cX9_howMany 68 = .ok (.ireturn, 1) := by decide +kernel
theorem dX9_howMany_69 : decode cX9_howMany 69 = .ok (.aload_n 0, 1) := by decide +kernel
theorem dX9_howMany_70 : decode cX9_howMany 70 = .ok (.getfield 120, 3) := by decide +kernel
theorem dX9_howMany_73 : decode cX9_howMany 73 = .ok (.ireturn, 1) := by decide +kernel
theorem dX9_howMany_74 : decode cX9_howMany 74 = .ok (.aload_n 0, 1) := by decide +kernel
theorem dX9_howMany_75 : decode cX9_howMany 75 = .ok (.getfield 171, 3) := by decide +kernel
theorem dX9_howMany_78 : decode cX9_howMany 78 = .ok (.ireturn, 1) := by decide +kernel
theorem dX9_howMany_79 : decode cX9_howMany 79 = .ok (.bipush (-102), 2) := by decide +kernel
theorem dX9_howMany_81 : decode cX9_howMany 81 = .ok (.ireturn, 1) := by decide +kernel
theorem dX9_count_0 : decode cX9_count 0 = .ok (.aload_n 0, 1) := by decide +kernel
theorem dX9_count_1 : decode cX9_count 1 = .ok (.iload_n 1, 1) := by decide +kernel
theorem dX9_count_2 : decode cX9_count 2 = .ok (.invokevirtual 445, 3) := by decide +kernel
theorem dX9_count_5 : decode cX9_count 5 = .ok (.ireturn, 1) := by decide +kernel
theorem dX9_mix_0 : decode cX9_mix 0 = .ok (.aload_n 0, 1) := by decide +kernel
theorem dX9_mix_1 : decode cX9_mix 1 = .ok (.ldc2_w 448, 3) := by decide +kernel
theorem dX9_mix_4 : decode cX9_mix 4 = .ok (.aload_n 0, 1) := by decide +kernel
theorem dX9_mix_5 : decode cX9_mix 5 = .ok (.getfield 450, 3) := by decide +kernel
theorem dX9_mix_8 : decode cX9_mix 8 = .ok (.lmul, 1) := by decide +kernel
theorem dX9_mix_9 : decode cX9_mix 9 = .ok (.lload_n 1, 1) := by decide +kernel
theorem dX9_mix_10 : decode cX9_mix 10 = .ok (.ladd, 1) := by decide +kernel
theorem dX9_mix_11 : decode cX9_mix 11 = .ok (.putfield 450, 3) := by decide +kernel
theorem dX9_mix_14 : decode cX9_mix 14 = .ok (.return_, 1) := by decide +kernel
theorem dX9_mixFilled_0 : decode cX9_mixFilled 0 = .ok (.iconst 0, 1) := by decide +kernel
theorem dX9_mixFilled_1 : decode cX9_mixFilled 1 = .ok (.istore_n 2, 1) := by decide +kernel
theorem dX9_mixFilled_2 : decode cX9_mixFilled 2 = .ok (.iload_n 2, 1) := by decide +kernel
theorem dX9_mixFilled_3 : decode cX9_mixFilled 3 = .ok (.bipush 6, 2) := by decide +kernel
theorem dX9_mixFilled_5 : decode cX9_mixFilled 5 = .ok (.if_icmp .ge 20, 3) := by decide +kernel
theorem dX9_mixFilled_8 : decode cX9_mixFilled 8 = .ok (.aload_n 0, 1) := by decide +kernel
theorem dX9_mixFilled_9 : decode cX9_mixFilled 9 = .ok (.aload_n 0, 1) := by decide +kernel
theorem dX9_mixFilled_10 : decode cX9_mixFilled 10 = .ok (.iload_n 1, 1) := by decide +kernel
theorem dX9_mixFilled_11 : decode cX9_mixFilled 11 = .ok (.iload_n 2, 1) := by decide +kernel
theorem dX9_mixFilled_12 : decode cX9_mixFilled 12 = .ok (.invokevirtual 334, 3) := by decide +kernel
theorem dX9_mixFilled_15 : decode cX9_mixFilled 15 = .ok (.i2l, 1) := by decide +kernel
theorem dX9_mixFilled_16 : decode cX9_mixFilled 16 = .ok (.invokevirtual 453, 3) := by decide +kernel
theorem dX9_mixFilled_19 : decode cX9_mixFilled 19 = .ok (.iinc 2 1, 3) := by decide +kernel
theorem dX9_mixFilled_22 : decode cX9_mixFilled 22 = .ok (.goto (-20), 3) := by decide +kernel
theorem dX9_mixFilled_25 : decode cX9_mixFilled 25 = .ok (.aload_n 0, 1) := by decide +kernel
theorem dX9_mixFilled_26 : decode cX9_mixFilled 26 = .ok (.iload_n 1, 1) := by decide +kernel
theorem dX9_mixFilled_27 : decode cX9_mixFilled 27 = .ok (.invokevirtual 305, 3) := by decide +kernel
theorem dX9_mixFilled_30 : decode cX9_mixFilled 30 = .ok (.aload_n 0, 1) := by decide +kernel
theorem dX9_mixFilled_31 : decode cX9_mixFilled 31 = .ok (.invokevirtual 249, 3) := by decide +kernel
theorem dX9_mixFilled_34 : decode cX9_mixFilled 34 = .ok (.iconst 0, 1) := by decide +kernel
theorem dX9_mixFilled_35 : decode cX9_mixFilled 35 = .ok (.istore_n 2, 1) := by decide +kernel
theorem dX9_mixFilled_36 : decode cX9_mixFilled 36 = .ok (.iload_n 2, 1) := by decide +kernel
theorem dX9_mixFilled_37 : decode cX9_mixFilled 37 = .ok (.aload_n 0, 1) := by decide +kernel
theorem dX9_mixFilled_38 : decode cX9_mixFilled 38 = .ok (.getfield 191, 3) := by decide +kernel
theorem dX9_mixFilled_41 : decode cX9_mixFilled 41 = .ok (.if_icmp .ge 34, 3) := by decide +kernel
theorem dX9_mixFilled_44 : decode cX9_mixFilled 44 = .ok (.iconst 0, 1) := by decide +kernel
theorem dX9_mixFilled_45 : decode cX9_mixFilled 45 = .ok (.istore_n 3, 1) := by decide +kernel
theorem dX9_mixFilled_46 : decode cX9_mixFilled 46 = .ok (.iload_n 3, 1) := by decide +kernel
theorem dX9_mixFilled_47 : decode cX9_mixFilled 47 = .ok (.bipush 8, 2) := by decide +kernel
theorem dX9_mixFilled_49 : decode cX9_mixFilled 49 = .ok (.if_icmp .ge 20, 3) := by decide +kernel
theorem dX9_mixFilled_52 : decode cX9_mixFilled 52 = .ok (.aload_n 0, 1) := by decide +kernel
theorem dX9_mixFilled_53 : decode cX9_mixFilled 53 = .ok (.aload_n 0, 1) := by decide +kernel
theorem dX9_mixFilled_54 : decode cX9_mixFilled 54 = .ok (.iload_n 2, 1) := by decide +kernel
theorem dX9_mixFilled_55 : decode cX9_mixFilled 55 = .ok (.iload_n 3, 1) := by decide +kernel
theorem dX9_mixFilled_56 : decode cX9_mixFilled 56 = .ok (.invokevirtual 338, 3) := by decide +kernel
theorem dX9_mixFilled_59 : decode cX9_mixFilled 59 = .ok (.i2l, 1) := by decide +kernel
theorem dX9_mixFilled_60 : decode cX9_mixFilled 60 = .ok (.invokevirtual 453, 3) := by decide +kernel
theorem dX9_mixFilled_63 : decode cX9_mixFilled 63 = .ok (.iinc 3 1, 3) := by decide +kernel
theorem dX9_mixFilled_66 : decode cX9_mixFilled 66 = .ok (.goto (-20), 3) := by decide +kernel
theorem dX9_mixFilled_69 : decode cX9_mixFilled 69 = .ok (.iinc 2 1, 3) := by decide +kernel
theorem dX9_mixFilled_72 : decode cX9_mixFilled 72 = .ok (.goto (-36), 3) := by decide +kernel
theorem dX9_mixFilled_75 : decode cX9_mixFilled 75 = .ok (.aload_n 0, 1) := by decide +kernel
theorem dX9_mixFilled_76 : decode cX9_mixFilled 76 = .ok (.aload_n 0, 1) := by decide +kernel
theorem dX9_mixFilled_77 : decode cX9_mixFilled 77 = .ok (.iload_n 1, 1) := by decide +kernel
theorem dX9_mixFilled_78 : decode cX9_mixFilled 78 = .ok (.invokevirtual 393, 3) := by decide +kernel
theorem dX9_mixFilled_81 : decode cX9_mixFilled 81 = .ok (.i2l, 1) := by decide +kernel
theorem dX9_mixFilled_82 : decode cX9_mixFilled 82 = .ok (.invokevirtual 453, 3) := by decide +kernel
theorem dX9_mixFilled_85 : decode cX9_mixFilled 85 = .ok (.aload_n 0, 1) := by decide +kernel
theorem dX9_mixFilled_86 : decode cX9_mixFilled 86 = .ok (.aload_n 0, 1) := by decide +kernel
theorem dX9_mixFilled_87 : decode cX9_mixFilled 87 = .ok (.iload_n 1, 1) := by decide +kernel
theorem dX9_mixFilled_88 : decode cX9_mixFilled 88 = .ok (.iconst 3, 1) := by decide +kernel
theorem dX9_mixFilled_89 : decode cX9_mixFilled 89 = .ok (.invokevirtual 345, 3) := by decide +kernel
theorem dX9_mixFilled_92 : decode cX9_mixFilled 92 = .ok (.invokevirtual 453, 3) := by decide +kernel
theorem dX9_mixFilled_95 : decode cX9_mixFilled 95 = .ok (.aload_n 0, 1) := by decide +kernel
theorem dX9_mixFilled_96 : decode cX9_mixFilled 96 = .ok (.iload_n 1, 1) := by decide +kernel
theorem dX9_mixFilled_97 : decode cX9_mixFilled 97 = .ok (.invokevirtual 302, 3) := by decide +kernel
theorem dX9_mixFilled_100 : decode cX9_mixFilled 100 = .ok (.iconst 0, 1) := by decide +kernel
theorem dX9_mixFilled_101 : decode cX9_mixFilled 101 = .ok (.istore_n 2, 1) := by decide +kernel
theorem dX9_mixFilled_102 : decode cX9_mixFilled 102 = .ok (.iload_n 2, 1) := by decide +kernel
theorem dX9_mixFilled_103 : decode cX9_mixFilled 103 = .ok (.aload_n 0, 1) := by decide +kernel
theorem dX9_mixFilled_104 : decode cX9_mixFilled 104 = .ok (.getfield 283, 3) := by decide +kernel
theorem dX9_mixFilled_107 : decode cX9_mixFilled 107 = .ok (.if_icmp .ge 20, 3) := by decide +kernel
theorem dX9_mixFilled_110 : decode cX9_mixFilled 110 = .ok (.aload_n 0, 1) := by decide +kernel
theorem dX9_mixFilled_111 : decode cX9_mixFilled 111 = .ok (.aload_n 0, 1) := by decide +kernel
theorem dX9_mixFilled_112 : decode cX9_mixFilled 112 = .ok (.getfield 75, 3) := by decide +kernel
theorem dX9_mixFilled_115 : decode cX9_mixFilled 115 = .ok (.iload_n 2, 1) := by decide +kernel
theorem dX9_mixFilled_116 : decode cX9_mixFilled 116 = .ok (.iaload, 1) := by decide +kernel
theorem dX9_mixFilled_117 : decode cX9_mixFilled 117 = .ok (.i2l, 1) := by decide +kernel
theorem dX9_mixFilled_118 : decode cX9_mixFilled 118 = .ok (.invokevirtual 453, 3) := by decide +kernel
theorem dX9_mixFilled_121 : decode cX9_mixFilled 121 = .ok (.iinc 2 1, 3) := by decide +kernel
theorem dX9_mixFilled_124 : decode cX9_mixFilled 124 = .ok (.goto (-22), 3) := by decide +kernel
theorem dX9_mixFilled_127 : decode cX9_mixFilled 127 = .ok (.return_, 1) := by decide +kernel
theorem dX9_digest_0 : decode cX9_digest 0 = .ok (.aload_n 0, 1) := by decide +kernel
theorem dX9_digest_1 : decode cX9_digest 1 = .ok (.ldc2_w 456, 3) := by decide +kernel
theorem dX9_digest_4 : decode cX9_digest 4 = .ok (.putfield 450, 3) := by decide +kernel
theorem dX9_digest_7 : decode cX9_digest 7 = .ok (.iconst 0, 1) := by decide +kernel
theorem dX9_digest_8 : decode cX9_digest 8 = .ok (.istore_n 1, 1) := by decide +kernel
theorem dX9_digest_9 : decode cX9_digest 9 = .ok (.iload_n 1, 1) := by decide +kernel
theorem dX9_digest_10 : decode cX9_digest 10 = .ok (.aload_n 0, 1) := by decide +kernel
theorem dX9_digest_11 : decode cX9_digest 11 = .ok (.getfield 168, 3) := by decide +kernel
theorem dX9_digest_14 : decode cX9_digest 14 = .ok (.if_icmp .ge 48, 3) := by decide +kernel
theorem dX9_digest_17 : decode cX9_digest 17 = .ok (.iconst 0, 1) := by decide +kernel
theorem dX9_digest_18 : decode cX9_digest 18 = .ok (.istore_n 2, 1) := by decide +kernel
theorem dX9_digest_19 : decode cX9_digest 19 = .ok (.iload_n 2, 1) := by decide +kernel
theorem dX9_digest_20 : decode cX9_digest 20 = .ok (.bipush 8, 2) := by decide +kernel
theorem dX9_digest_22 : decode cX9_digest 22 = .ok (.if_icmp .ge 20, 3) := by decide +kernel
theorem dX9_digest_25 : decode cX9_digest 25 = .ok (.aload_n 0, 1) := by decide +kernel
theorem dX9_digest_26 : decode cX9_digest 26 = .ok (.aload_n 0, 1) := by decide +kernel
theorem dX9_digest_27 : decode cX9_digest 27 = .ok (.iload_n 1, 1) := by decide +kernel
theorem dX9_digest_28 : decode cX9_digest 28 = .ok (.iload_n 2, 1) := by decide +kernel
theorem dX9_digest_29 : decode cX9_digest 29 = .ok (.invokevirtual 329, 3) := by decide +kernel
theorem dX9_digest_32 : decode cX9_digest 32 = .ok (.i2l, 1) := by decide +kernel
theorem dX9_digest_33 : decode cX9_digest 33 = .ok (.invokevirtual 453, 3) := by decide +kernel
theorem dX9_digest_36 : decode cX9_digest 36 = .ok (.iinc 2 1, 3) := by decide +kernel
theorem dX9_digest_39 : decode cX9_digest 39 = .ok (.goto (-20), 3) := by decide +kernel
theorem dX9_digest_42 : decode cX9_digest 42 = .ok (.aload_n 0, 1) := by decide +kernel
theorem dX9_digest_43 : decode cX9_digest 43 = .ok (.getfield 17, 3) := by decide +kernel
theorem dX9_digest_46 : decode cX9_digest 46 = .ok (.iload_n 1, 1) := by decide +kernel
theorem dX9_digest_47 : decode cX9_digest 47 = .ok (.iaload, 1) := by decide +kernel
theorem dX9_digest_48 : decode cX9_digest 48 = .ok (.ifCond .lt 8, 3) := by decide +kernel
theorem dX9_digest_51 : decode cX9_digest 51 = .ok (.aload_n 0, 1) := by decide +kernel
theorem dX9_digest_52 : decode cX9_digest 52 = .ok (.iload_n 1, 1) := by decide +kernel
theorem dX9_digest_53 : decode cX9_digest 53 = .ok (.invokevirtual 458, 3) := by decide +kernel
theorem dX9_digest_56 : decode cX9_digest 56 = .ok (.iinc 1 1, 3) := by decide +kernel
theorem dX9_digest_59 : decode cX9_digest 59 = .ok (.goto (-50), 3) := by decide +kernel
theorem dX9_digest_62 : decode cX9_digest 62 = .ok (.iconst 0, 1) := by decide +kernel
theorem dX9_digest_63 : decode cX9_digest 63 = .ok (.istore_n 1, 1) := by decide +kernel
theorem dX9_digest_64 : decode cX9_digest 64 = .ok (.iload_n 1, 1) := by decide +kernel
theorem dX9_digest_65 : decode cX9_digest 65 = .ok (.aload_n 0, 1) := by decide +kernel
theorem dX9_digest_66 : decode cX9_digest 66 = .ok (.getfield 120, 3) := by decide +kernel
theorem dX9_digest_69 : decode cX9_digest 69 = .ok (.if_icmp .ge 20, 3) := by decide +kernel
theorem dX9_digest_72 : decode cX9_digest 72 = .ok (.aload_n 0, 1) := by decide +kernel
theorem dX9_digest_73 : decode cX9_digest 73 = .ok (.aload_n 0, 1) := by decide +kernel
theorem dX9_digest_74 : decode cX9_digest 74 = .ok (.getfield 29, 3) := by decide +kernel
theorem dX9_digest_77 : decode cX9_digest 77 = .ok (.iload_n 1, 1) := by decide +kernel
theorem dX9_digest_78 : decode cX9_digest 78 = .ok (.baload, 1) := by decide +kernel
theorem dX9_digest_79 : decode cX9_digest 79 = .ok (.i2l, 1) := by decide +kernel
theorem dX9_digest_80 : decode cX9_digest 80 = .ok (.invokevirtual 453, 3) := by decide +kernel
theorem dX9_digest_83 : decode cX9_digest 83 = .ok (.iinc 1 1, 3) := by decide +kernel
theorem dX9_digest_86 : decode cX9_digest 86 = .ok (.goto (-22), 3) := by decide +kernel
theorem dX9_digest_89 : decode cX9_digest 89 = .ok (.iconst 0, 1) := by decide +kernel
theorem dX9_digest_90 : decode cX9_digest 90 = .ok (.istore_n 1, 1) := by decide +kernel
theorem dX9_digest_91 : decode cX9_digest 91 = .ok (.iload_n 1, 1) := by decide +kernel
theorem dX9_digest_92 : decode cX9_digest 92 = .ok (.bipush 8, 2) := by decide +kernel
theorem dX9_digest_94 : decode cX9_digest 94 = .ok (.if_icmp .ge 19, 3) := by decide +kernel
theorem dX9_digest_97 : decode cX9_digest 97 = .ok (.aload_n 0, 1) := by decide +kernel
theorem dX9_digest_98 : decode cX9_digest 98 = .ok (.aload_n 0, 1) := by decide +kernel
theorem dX9_digest_99 : decode cX9_digest 99 = .ok (.iload_n 1, 1) := by decide +kernel
theorem dX9_digest_100 : decode cX9_digest 100 = .ok (.invokevirtual 445, 3) := by decide +kernel
theorem dX9_digest_103 : decode cX9_digest 103 = .ok (.i2l, 1) := by decide +kernel
theorem dX9_digest_104 : decode cX9_digest 104 = .ok (.invokevirtual 453, 3) := by decide +kernel
theorem dX9_digest_107 : decode cX9_digest 107 = .ok (.iinc 1 1, 3) := by decide +kernel
theorem dX9_digest_110 : decode cX9_digest 110 = .ok (.goto (-19), 3) := by decide +kernel
theorem dX9_digest_113 : decode cX9_digest 113 = .ok (.aload_n 0, 1) := by decide +kernel
theorem dX9_digest_114 : decode cX9_digest 114 = .ok (.getfield 450, 3) := by decide +kernel
theorem dX9_digest_117 : decode cX9_digest 117 = .ok (.lreturn, 1) := by decide +kernel
