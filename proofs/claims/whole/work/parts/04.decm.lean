theorem dX4_init_0 : decode cX4_init 0 = .ok (.aload_n 0, 1) := by decide +kernel
theorem dX4_init_1 : decode cX4_init 1 = .ok (.invokespecial 1, 3) := by decide +kernel
theorem dX4_init_4 : decode cX4_init 4 = .ok (.aload_n 0, 1) := by decide +kernel
theorem dX4_init_5 : decode cX4_init 5 = .ok (.bipush 8, 2) := by decide +kernel
theorem dX4_init_7 : decode cX4_init 7 = .ok (.newarray .int, 2) := by decide +kernel
theorem dX4_init_9 : decode cX4_init 9 = .ok (.putfield 7, 3) := by decide +kernel
theorem dX4_init_12 : decode cX4_init 12 = .ok (.aload_n 0, 1) := by decide +kernel
theorem dX4_init_13 : decode cX4_init 13 = .ok (.bipush 8, 2) := by decide +kernel
theorem dX4_init_15 : decode cX4_init 15 = .ok (.newarray .int, 2) := by decide +kernel
theorem dX4_init_17 : decode cX4_init 17 = .ok (.putfield 13, 3) := by decide +kernel
theorem dX4_init_20 : decode cX4_init 20 = .ok (.aload_n 0, 1) := by decide +kernel
theorem dX4_init_21 : decode cX4_init 21 = .ok (.bipush 8, 2) := by decide +kernel
theorem dX4_init_23 : decode cX4_init 23 = .ok (.newarray .int, 2) := by decide +kernel
theorem dX4_init_25 : decode cX4_init 25 = .ok (.putfield 16, 3) := by decide +kernel
theorem dX4_init_28 : decode cX4_init 28 = .ok (.aload_n 0, 1) := by decide +kernel
theorem dX4_init_29 : decode cX4_init 29 = .ok (.bipush 8, 2) := by decide +kernel
theorem dX4_init_31 : decode cX4_init 31 = .ok (.newarray .long, 2) := by decide +kernel
theorem dX4_init_33 : decode cX4_init 33 = .ok (.putfield 19, 3) := by decide +kernel
theorem dX4_init_36 : decode cX4_init 36 = .ok (.aload_n 0, 1) := by decide +kernel
theorem dX4_init_37 : decode cX4_init 37 = .ok (.sipush 512, 3) := by decide +kernel
theorem dX4_init_40 : decode cX4_init 40 = .ok (.newarray .boolean, 2) := by decide +kernel
theorem dX4_init_42 : decode cX4_init 42 = .ok (.putfield 23, 3) := by decide +kernel
theorem dX4_init_45 : decode cX4_init 45 = .ok (.aload_n 0, 1) := by decide +kernel
theorem dX4_init_46 : decode cX4_init 46 = .ok (.sipush 512, 3) := by decide +kernel
theorem dX4_init_49 : decode cX4_init 49 = .ok (.newarray .long, 2) := by decide +kernel
theorem dX4_init_51 : decode cX4_init 51 = .ok (.putfield 27, 3) := by decide +kernel
theorem dX4_init_54 : decode cX4_init 54 = .ok (.aload_n 0, 1) := by decide +kernel
theorem dX4_init_55 : decode cX4_init 55 = .ok (.sipush 512, 3) := by decide +kernel
theorem dX4_init_58 : decode cX4_init 58 = .ok (.newarray .int, 2) := by decide +kernel
theorem dX4_init_60 : decode cX4_init 60 = .ok (.putfield 30, 3) := by decide +kernel
theorem dX4_init_63 : decode cX4_init 63 = .ok (.aload_n 0, 1) := by decide +kernel
theorem dX4_init_64 : decode cX4_init 64 = .ok (.sipush 512, 3) := by decide +kernel
theorem dX4_init_67 : decode cX4_init 67 = .ok (.newarray .int, 2) := by decide +kernel
theorem dX4_init_69 : decode cX4_init 69 = .ok (.putfield 33, 3) := by decide +kernel
theorem dX4_init_72 : decode cX4_init 72 = .ok (.aload_n 0, 1) := by decide +kernel
theorem dX4_init_73 : decode cX4_init 73 = .ok (.sipush 4096, 3) := by decide +kernel
theorem dX4_init_76 : decode cX4_init 76 = .ok (.newarray .long, 2) := by decide +kernel
theorem dX4_init_78 : decode cX4_init 78 = .ok (.putfield 36, 3) := by decide +kernel
theorem dX4_init_81 : decode cX4_init 81 = .ok (.aload_n 0, 1) := by decide +kernel
theorem dX4_init_82 : decode cX4_init 82 = .ok (.bipush 16, 2) := by decide +kernel
theorem dX4_init_84 : decode cX4_init 84 = .ok (.newarray .int, 2) := by decide +kernel
theorem dX4_init_86 : decode cX4_init 86 = .ok (.putfield 39, 3) := by decide +kernel
theorem dX4_init_89 : decode cX4_init 89 = .ok (.aload_n 0, 1) := by decide +kernel
theorem dX4_init_90 : decode cX4_init 90 = .ok (.bipush 64, 2) := by decide +kernel
theorem dX4_init_92 : decode cX4_init 92 = .ok (.newarray .int, 2) := by decide +kernel
theorem dX4_init_94 : decode cX4_init 94 = .ok (.putfield 42, 3) := by decide +kernel
theorem dX4_init_97 : decode cX4_init 97 = .ok (.aload_n 0, 1) := by decide +kernel
theorem dX4_init_98 : decode cX4_init 98 = .ok (.bipush 64, 2) := by decide +kernel
theorem dX4_init_100 : decode cX4_init 100 = .ok (.newarray .int, 2) := by decide +kernel
theorem dX4_init_102 : decode cX4_init 102 = .ok (.putfield 45, 3) := by decide +kernel
theorem dX4_init_105 : decode cX4_init 105 = .ok (.aload_n 0, 1) := by decide +kernel
theorem dX4_init_106 : decode cX4_init 106 = .ok (.bipush 16, 2) := by decide +kernel
theorem dX4_init_108 : decode cX4_init 108 = .ok (.newarray .int, 2) := by decide +kernel
theorem dX4_init_110 : decode cX4_init 110 = .ok (.putfield 48, 3) := by decide +kernel
theorem dX4_init_113 : decode cX4_init 113 = .ok (.aload_n 0, 1) := by decide +kernel
theorem dX4_init_114 : decode cX4_init 114 = .ok (.bipush 64, 2) := by decide +kernel
theorem dX4_init_116 : decode cX4_init 116 = .ok (.newarray .int, 2) := by decide +kernel
theorem dX4_init_118 : decode cX4_init 118 = .ok (.putfield 51, 3) := by decide +kernel
theorem dX4_init_121 : decode cX4_init 121 = .ok (.aload_n 0, 1) := by decide +kernel
theorem dX4_init_122 : decode cX4_init 122 = .ok (.bipush 16, 2) := by decide +kernel
theorem dX4_init_124 : decode cX4_init 124 = .ok (.newarray .int, 2) := by decide +kernel
theorem dX4_init_126 : decode cX4_init 126 = .ok (.putfield 54, 3) := by decide +kernel
theorem dX4_init_129 : decode cX4_init 129 = .ok (.aload_n 0, 1) := by decide +kernel
theorem dX4_init_130 : decode cX4_init 130 = .ok (.bipush 16, 2) := by decide +kernel
theorem dX4_init_132 : decode cX4_init 132 = .ok (.newarray .int, 2) := by decide +kernel
theorem dX4_init_134 : decode cX4_init 134 = .ok (.putfield 57, 3) := by decide +kernel
theorem dX4_init_137 : decode cX4_init 137 = .ok (.aload_n 0, 1) := by decide +kernel
theorem dX4_init_138 : decode cX4_init 138 = .ok (.bipush 16, 2) := by decide +kernel
theorem dX4_init_140 : decode cX4_init 140 = .ok (.newarray .int, 2) := by decide +kernel
theorem dX4_init_142 : decode cX4_init 142 = .ok (.putfield 60, 3) := by decide +kernel
theorem dX4_init_145 : decode cX4_init 145 = .ok (.aload_n 0, 1) := by decide +kernel
theorem dX4_init_146 : decode cX4_init 146 = .ok (.bipush 16, 2) := by decide +kernel
theorem dX4_init_148 : decode cX4_init 148 = .ok (.newarray .int, 2) := by decide +kernel
theorem dX4_init_150 : decode cX4_init 150 = .ok (.putfield 63, 3) := by decide +kernel
theorem dX4_init_153 : decode cX4_init 153 = .ok (.aload_n 0, 1) := by decide +kernel
theorem dX4_init_154 : decode cX4_init 154 = .ok (.bipush 16, 2) := by decide +kernel
theorem dX4_init_156 : decode cX4_init 156 = .ok (.newarray .int, 2) := by decide +kernel
theorem dX4_init_158 : decode cX4_init 158 = .ok (.putfield 66, 3) := by decide +kernel
theorem dX4_init_161 : decode cX4_init 161 = .ok (.aload_n 0, 1) := by decide +kernel
theorem dX4_init_162 : decode cX4_init 162 = .ok (.bipush 16, 2) := by decide +kernel
theorem dX4_init_164 : decode cX4_init 164 = .ok (.newarray .int, 2) := by decide +kernel
theorem dX4_init_166 : decode cX4_init 166 = .ok (.putfield 69, 3) := by decide +kernel
theorem dX4_init_169 : decode cX4_init 169 = .ok (.aload_n 0, 1) := by decide +kernel
theorem dX4_init_170 : decode cX4_init 170 = .ok (.bipush 16, 2) := by decide +kernel
theorem dX4_init_172 : decode cX4_init 172 = .ok (.newarray .int, 2) := by decide +kernel
theorem dX4_init_174 : decode cX4_init 174 = .ok (.putfield 72, 3) := by decide +kernel
theorem dX4_init_177 : decode cX4_init 177 = .ok (.aload_n 0, 1) := by decide +kernel
theorem dX4_init_178 : decode cX4_init 178 = .ok (.bipush 16, 2) := by decide +kernel
theorem dX4_init_180 : decode cX4_init 180 = .ok (.newarray .int, 2) := by decide +kernel
theorem dX4_init_182 : decode cX4_init 182 = .ok (.putfield 75, 3) := by decide +kernel
theorem dX4_init_185 : decode cX4_init 185 = .ok (.aload_n 0, 1) := by decide +kernel
theorem dX4_init_186 : decode cX4_init 186 = .ok (.bipush 16, 2) := by decide +kernel
theorem dX4_init_188 : decode cX4_init 188 = .ok (.newarray .long, 2) := by decide +kernel
theorem dX4_init_190 : decode cX4_init 190 = .ok (.putfield 78, 3) := by decide +kernel
theorem dX4_init_193 : decode cX4_init 193 = .ok (.aload_n 0, 1) := by decide +kernel
theorem dX4_init_194 : decode cX4_init 194 = .ok (.bipush 16, 2) := by decide +kernel
theorem dX4_init_196 : decode cX4_init 196 = .ok (.newarray .int, 2) := by decide +kernel
theorem dX4_init_198 : decode cX4_init 198 = .ok (.putfield 81, 3) := by decide +kernel
theorem dX4_init_201 : decode cX4_init 201 = .ok (.aload_n 0, 1) := by decide +kernel
theorem dX4_init_202 : decode cX4_init 202 = .ok (.bipush 16, 2) := by decide +kernel
theorem dX4_init_204 : decode cX4_init 204 = .ok (.newarray .int, 2) := by decide +kernel
theorem dX4_init_206 : decode cX4_init 206 = .ok (.putfield 84, 3) := by decide +kernel
theorem dX4_init_209 : decode cX4_init 209 = .ok (.aload_n 0, 1) := by decide +kernel
theorem dX4_init_210 : decode cX4_init 210 = .ok (.sipush 128, 3) := by decide +kernel
theorem dX4_init_213 : decode cX4_init 213 = .ok (.newarray .long, 2) := by decide +kernel
theorem dX4_init_215 : decode cX4_init 215 = .ok (.putfield 87, 3) := by decide +kernel
theorem dX4_init_218 : decode cX4_init 218 = .ok (.aload_n 0, 1) := by decide +kernel
theorem dX4_init_219 : decode cX4_init 219 = .ok (.bipush 16, 2) := by decide +kernel
theorem dX4_init_221 : decode cX4_init 221 = .ok (.newarray .int, 2) := by decide +kernel
theorem dX4_init_223 : decode cX4_init 223 = .ok (.putfield 90, 3) := by decide +kernel
theorem dX4_init_226 : decode cX4_init 226 = .ok (.aload_n 0, 1) := by decide +kernel
theorem dX4_init_227 : decode cX4_init 227 = .ok (.sipush 512, 3) := by decide +kernel
theorem dX4_init_230 : decode cX4_init 230 = .ok (.newarray .int, 2) := by decide +kernel
theorem dX4_init_232 : decode cX4_init 232 = .ok (.putfield 93, 3) := by decide +kernel
theorem dX4_init_235 : decode cX4_init 235 = .ok (.aload_n 0, 1) := by decide +kernel
theorem dX4_init_236 : decode cX4_init 236 = .ok (.sipush 512, 3) := by decide +kernel
theorem dX4_init_239 : decode cX4_init 239 = .ok (.newarray .long, 2) := by decide +kernel
theorem dX4_init_241 : decode cX4_init 241 = .ok (.putfield 96, 3) := by decide +kernel
theorem dX4_init_244 : decode cX4_init 244 = .ok (.aload_n 0, 1) := by decide +kernel
theorem dX4_init_245 : decode cX4_init 245 = .ok (.sipush 512, 3) := by decide +kernel
theorem dX4_init_248 : decode cX4_init 248 = .ok (.newarray .int, 2) := by decide +kernel
theorem dX4_init_250 : decode cX4_init 250 = .ok (.putfield 99, 3) := by decide +kernel
theorem dX4_init_253 : decode cX4_init 253 = .ok (.aload_n 0, 1) := by decide +kernel
theorem dX4_init_254 : decode cX4_init 254 = .ok (.sipush 512, 3) := by decide +kernel
theorem dX4_init_257 : decode cX4_init 257 = .ok (.newarray .int, 2) := by decide +kernel
theorem dX4_init_259 : decode cX4_init 259 = .ok (.putfield 102, 3) := by decide +kernel
theorem dX4_init_262 : decode cX4_init 262 = .ok (.aload_n 0, 1) := by decide +kernel
theorem dX4_init_263 : decode cX4_init 263 = .ok (.sipush 4096, 3) := by decide +kernel
theorem dX4_init_266 : decode cX4_init 266 = .ok (.newarray .long, 2) := by decide +kernel
theorem dX4_init_268 : decode cX4_init 268 = .ok (.putfield 105, 3) := by decide +kernel
theorem dX4_init_271 : decode cX4_init 271 = .ok (.aload_n 0, 1) := by decide +kernel
theorem dX4_init_272 : decode cX4_init 272 = .ok (.iconst (-1), 1) := by decide +kernel
theorem dX4_init_273 : decode cX4_init 273 = .ok (.putfield 108, 3) := by decide +kernel
theorem dX4_init_276 : decode cX4_init 276 = .ok (.aload_n 0, 1) := by decide +kernel
theorem dX4_init_277 : decode cX4_init 277 = .ok (.bipush 7, 2) := by decide +kernel
theorem dX4_init_279 : decode cX4_init 279 = .ok (.newarray .int, 2) := by decide +kernel
theorem dX4_init_281 : decode cX4_init 281 = .ok (.putfield 112, 3) := by decide +kernel
theorem dX4_init_284 : decode cX4_init 284 = .ok (.aload_n 0, 1) := by decide +kernel
theorem dX4_init_285 : decode cX4_init 285 = .ok (.bipush 20, 2) := by decide +kernel
theorem dX4_init_287 : decode cX4_init 287 = .ok (.newarray .int, 2) := by decide +kernel
theorem dX4_init_289 : decode cX4_init 289 = .ok (.putfield 115, 3) := by decide +kernel
theorem dX4_init_292 : decode cX4_init 292 = .ok (.aload_n 0, 1) := by decide +kernel
theorem dX4_init_293 : decode cX4_init 293 = .ok (.bipush 16, 2) := by decide +kernel
theorem dX4_init_295 : decode cX4_init 295 = .ok (.newarray .boolean, 2) := by decide +kernel
theorem dX4_init_297 : decode cX4_init 297 = .ok (.putfield 118, 3) := by decide +kernel
theorem dX4_init_300 : decode cX4_init 300 = .ok (.return_, 1) := by decide +kernel
theorem dX4_find_0 : decode cX4_find 0 = .ok (.aload_n 0, 1) := by decide +kernel
theorem dX4_find_1 : decode cX4_find 1 = .ok (.getfield 112, 3) := by decide +kernel
theorem dX4_find_4 : decode cX4_find 4 = .ok (.iconst 0, 1) := by decide +kernel
theorem dX4_find_5 : decode cX4_find 5 = .ok (.iload_n 1, 1) := by decide +kernel
theorem dX4_find_6 : decode cX4_find 6 = .ok (.iastore, 1) := by decide +kernel
theorem dX4_find_7 : decode cX4_find 7 = .ok (.aload_n 0, 1) := by decide +kernel
theorem dX4_find_8 : decode cX4_find 8 = .ok (.getfield 112, 3) := by decide +kernel
theorem dX4_find_11 : decode cX4_find 11 = .ok (.iload_n 1, 1) := by decide +kernel
theorem dX4_find_12 : decode cX4_find 12 = .ok (.dup2, 1) := by decide +kernel
theorem dX4_find_13 : decode cX4_find 13 = .ok (.iaload, 1) := by decide +kernel
theorem dX4_find_14 : decode cX4_find 14 = .ok (.iconst 1, 1) := by decide +kernel
theorem dX4_find_15 : decode cX4_find 15 = .ok (.iadd, 1) := by decide +kernel
theorem dX4_find_16 : decode cX4_find 16 = .ok (.iastore, 1) := by decide +kernel
theorem dX4_find_17 : decode cX4_find 17 = .ok (.bipush (-12), 2) := by decide +kernel
theorem dX4_find_19 : decode cX4_find 19 = .ok (.ireturn, 1) := by decide +kernel
theorem dX4_isRing_0 : decode cX4_isRing 0 = .ok (.iload_n 1, 1) := by decide +kernel
theorem dX4_isRing_1 : decode cX4_isRing 1 = .ok (.ifCond .lt 15, 3) := by decide +kernel
theorem dX4_isRing_4 : decode cX4_isRing 4 = .ok (.iload_n 1, 1) := by decide +kernel
theorem dX4_isRing_5 : decode cX4_isRing 5 = .ok (.aload_n 0, 1) := by decide +kernel
theorem dX4_isRing_6 : decode cX4_isRing 6 = .ok (.getfield 121, 3) := by decide +kernel
theorem dX4_isRing_9 : decode cX4_isRing 9 = .ok (.if_icmp .ge 7, 3) := by decide +kernel
theorem dX4_isRing_12 : decode cX4_isRing 12 = .ok (.iconst 1, 1) := by decide +kernel
theorem dX4_isRing_13 : decode cX4_isRing 13 = .ok (.goto 4, 3) := by decide +kernel
theorem dX4_isRing_16 : decode cX4_isRing 16 = .ok (.iconst 0, 1) := by decide +kernel
theorem dX4_isRing_17 : decode cX4_isRing 17 = .ok (.ireturn, 1) := by decide +kernel
theorem dX4_isReader_0 : decode cX4_isReader 0 = .ok (.iload_n 1, 1) := by decide +kernel
theorem dX4_isReader_1 : decode cX4_isReader 1 = .ok (.ifCond .lt 15, 3) := by decide +kernel
theorem dX4_isReader_4 : decode cX4_isReader 4 = .ok (.iload_n 1, 1) := by decide +kernel
theorem dX4_isReader_5 : decode cX4_isReader 5 = .ok (.aload_n 0, 1) := by decide +kernel
theorem dX4_isReader_6 : decode cX4_isReader 6 = .ok (.getfield 124, 3) := by decide +kernel
theorem dX4_isReader_9 : decode cX4_isReader 9 = .ok (.if_icmp .ge 7, 3) := by decide +kernel
theorem dX4_isReader_12 : decode cX4_isReader 12 = .ok (.iconst 1, 1) := by decide +kernel
theorem dX4_isReader_13 : decode cX4_isReader 13 = .ok (.goto 4, 3) := by decide +kernel
theorem dX4_isReader_16 : decode cX4_isReader 16 = .ok (.iconst 0, 1) := by decide +kernel
theorem dX4_isReader_17 : decode cX4_isReader 17 = .ok (.ireturn, 1) := by decide +kernel
theorem dX4_index_0 : decode cX4_index 0 = .ok (.iconst (-1), 1) := by decide +kernel
theorem dX4_index_1 : decode cX4_index 1 = .ok (.istore_n 3, 1) := by decide +kernel
theorem dX4_index_2 : decode cX4_index 2 = .ok (.aload_n 0, 1) := by decide +kernel
theorem dX4_index_3 : decode cX4_index 3 = .ok (.getfield 39, 3) := by decide +kernel
theorem dX4_index_6 : decode cX4_index 6 = .ok (.iload_n 1, 1) := by decide +kernel
theorem dX4_index_7 : decode cX4_index 7 = .ok (.iaload, 1) := by decide +kernel
theorem dX4_index_8 : decode cX4_index 8 = .ok (.iconst 1, 1) := by decide +kernel
theorem dX4_index_9 : decode cX4_index 9 = .ok (.if_icmp .eq 55, 3) := by decide +kernel
theorem dX4_index_12 : decode cX4_index 12 = .ok (.aload_n 0, 1) := by decide +kernel
theorem dX4_index_13 : decode cX4_index 13 = .ok (.getfield 39, 3) := by decide +kernel
theorem dX4_index_16 : decode cX4_index 16 = .ok (.iload_n 1, 1) := by decide +kernel
theorem dX4_index_17 : decode cX4_index 17 = .ok (.iaload, 1) := by decide +kernel
theorem dX4_index_18 : decode cX4_index 18 = .ok (.iconst 4, 1) := by decide +kernel
theorem dX4_index_19 : decode cX4_index 19 = .ok (.if_icmp .eq 45, 3) := by decide +kernel
theorem dX4_index_22 : decode cX4_index 22 = .ok (.iconst 0, 1) := by decide +kernel
theorem dX4_index_23 : decode cX4_index 23 = .ok (.istore 4, 2) := by decide +kernel
theorem dX4_index_25 : decode cX4_index 25 = .ok (.iload 4, 2) := by decide +kernel
theorem dX4_index_27 : decode cX4_index 27 = .ok (.aload_n 0, 1) := by decide +kernel
theorem dX4_index_28 : decode cX4_index 28 = .ok (.getfield 48, 3) := by decide +kernel
theorem dX4_index_31 : decode cX4_index 31 = .ok (.iload_n 1, 1) := by decide +kernel
theorem dX4_index_32 : decode cX4_index 32 = .ok (.iaload, 1) := by decide +kernel
theorem dX4_index_33 : decode cX4_index 33 = .ok (.if_icmp .ge 31, 3) := by decide +kernel
theorem dX4_index_36 : decode cX4_index 36 = .ok (.aload_n 0, 1) := by decide +kernel
theorem dX4_index_37 : decode cX4_index 37 = .ok (.getfield 42, 3) := by decide +kernel
theorem dX4_index_40 : decode cX4_index 40 = .ok (.iconst 4, 1) := by decide +kernel
theorem dX4_index_41 : decode cX4_index 41 = .ok (.iload_n 1, 1) := by decide +kernel
theorem dX4_index_42 : decode cX4_index 42 = .ok (.imul, 1) := by decide +kernel
theorem dX4_index_43 : decode cX4_index 43 = .ok (.iload 4, 2) := by decide +kernel
theorem dX4_index_45 : decode cX4_index 45 = .ok (.iadd, 1) := by decide +kernel
theorem dX4_index_46 : decode cX4_index 46 = .ok (.iaload, 1) := by decide +kernel
theorem dX4_index_47 : decode cX4_index 47 = .ok (.iload_n 2, 1) := by decide +kernel
theorem dX4_index_48 : decode cX4_index 48 = .ok (.if_icmp .ne 8, 3) := by decide +kernel
theorem dX4_index_51 : decode cX4_index 51 = .ok (.iload 4, 2) := by decide +kernel
theorem dX4_index_53 : decode cX4_index 53 = .ok (.goto 4, 3) := by decide +kernel
theorem dX4_index_56 : decode cX4_index 56 = .ok (.iload_n 3, 1) := by decide +kernel
theorem dX4_index_57 : decode cX4_index 57 = .ok (.istore_n 3, 1) := by decide +kernel
theorem dX4_index_58 : decode cX4_index 58 = .ok (.iinc 4 1, 3) := by decide +kernel
theorem dX4_index_61 : decode cX4_index 61 = .ok (.goto (-36), 3) := by decide +kernel
theorem dX4_index_64 : decode cX4_index 64 = .ok (.iload_n 3, 1) := by decide +kernel
theorem dX4_index_65 : decode cX4_index 65 = .ok (.ireturn, 1) := by decide +kernel
theorem dX4_placeIn_0 : decode cX4_placeIn 0 = .ok (.aload_n 0, 1) := by decide +kernel
theorem dX4_placeIn_1 : decode cX4_placeIn 1 = .ok (.iload_n 1, 1) := by decide +kernel
theorem dX4_placeIn_2 : decode cX4_placeIn 2 = .ok (.iload_n 2, 1) := by decide +kernel
theorem dX4_placeIn_3 : decode cX4_placeIn 3 = .ok (.invokevirtual 127, 3) := by decide +kernel
theorem dX4_placeIn_6 : decode cX4_placeIn 6 = .ok (.istore_n 3, 1) := by decide +kernel
theorem dX4_placeIn_7 : decode cX4_placeIn 7 = .ok (.iload_n 3, 1) := by decide +kernel
theorem dX4_placeIn_8 : decode cX4_placeIn 8 = .ok (.ifCond .ge 7, 3) := by decide +kernel
theorem dX4_placeIn_11 : decode cX4_placeIn 11 = .ok (.iconst (-1), 1) := by decide +kernel
theorem dX4_placeIn_12 : decode cX4_placeIn 12 = .ok (.goto 13, 3) := by decide +kernel
theorem dX4_placeIn_15 : decode cX4_placeIn 15 = .ok (.aload_n 0, 1) := by decide +kernel
theorem dX4_placeIn_16 : decode cX4_placeIn 16 = .ok (.getfield 45, 3) := by decide +kernel
theorem dX4_placeIn_19 : decode cX4_placeIn 19 = .ok (.iconst 4, 1) := by decide +kernel
theorem dX4_placeIn_20 : decode cX4_placeIn 20 = .ok (.iload_n 1, 1) := by decide +kernel
theorem dX4_placeIn_21 : decode cX4_placeIn 21 = .ok (.imul, 1) := by decide +kernel
theorem dX4_placeIn_22 : decode cX4_placeIn 22 = .ok (.iload_n 3, 1) := by decide +kernel
theorem dX4_placeIn_23 : decode cX4_placeIn 23 = .ok (.iadd, 1) := by decide +kernel
theorem dX4_placeIn_24 : decode cX4_placeIn 24 = .ok (.iaload, 1) := by decide +kernel
theorem dX4_placeIn_25 : decode cX4_placeIn 25 = .ok (.ireturn, 1) := by decide +kernel
theorem dX4_ring_0 : decode cX4_ring 0 = .ok (.iload_n 1, 1) := by decide +kernel
theorem dX4_ring_1 : decode cX4_ring 1 = .ok (.ifCond .ge 9, 3) := by decide +kernel
theorem dX4_ring_4 : decode cX4_ring 4 = .ok (.aload_n 0, 1) := by decide +kernel
theorem dX4_ring_5 : decode cX4_ring 5 = .ok (.iconst 3, 1) := by decide +kernel
theorem dX4_ring_6 : decode cX4_ring 6 = .ok (.invokevirtual 131, 3) := by decide +kernel
theorem dX4_ring_9 : decode cX4_ring 9 = .ok (.ireturn, 1) := by decide +kernel
theorem dX4_ring_10 : decode cX4_ring 10 = .ok (.iload_n 1, 1) := by decide +kernel
theorem dX4_ring_11 : decode cX4_ring 11 = .ok (.iconst 1, 1) := by decide +kernel
theorem dX4_ring_12 : decode cX4_ring 12 = .ok (.if_icmp .eq 39, 3) := by decide +kernel
theorem dX4_ring_15 : decode cX4_ring 15 = .ok (.iload_n 1, 1) := by decide +kernel
theorem dX4_ring_16 : decode cX4_ring 16 = .ok (.iconst 2, 1) := by decide +kernel
theorem dX4_ring_17 : decode cX4_ring 17 = .ok (.if_icmp .eq 34, 3) := by decide +kernel
theorem dX4_ring_20 : decode cX4_ring 20 = .ok (.iload_n 1, 1) := by decide +kernel
theorem dX4_ring_21 : decode cX4_ring 21 = .ok (.iconst 4, 1) := by decide +kernel
theorem dX4_ring_22 : decode cX4_ring 22 = .ok (.if_icmp .eq 29, 3) := by decide +kernel
theorem dX4_ring_25 : decode cX4_ring 25 = .ok (.iload_n 1, 1) := by decide +kernel
theorem dX4_ring_26 : decode cX4_ring 26 = .ok (.bipush 8, 2) := by decide +kernel
theorem dX4_ring_28 : decode cX4_ring 28 = .ok (.if_icmp .eq 23, 3) := by decide +kernel
theorem dX4_ring_31 : decode cX4_ring 31 = .ok (.iload_n 1, 1) := by decide +kernel
theorem dX4_ring_32 : decode cX4_ring 32 = .ok (.bipush 16, 2) := by decide +kernel
theorem dX4_ring_34 : decode cX4_ring 34 = .ok (.if_icmp .eq 17, 3) := by decide +kernel
theorem dX4_ring_37 : decode cX4_ring 37 = .ok (.iload_n 1, 1) := by decide +kernel
theorem dX4_ring_38 : decode cX4_ring 38 = .ok (.bipush 32, 2) := by decide +kernel
theorem dX4_ring_40 : decode cX4_ring 40 = .ok (.if_icmp .eq 11, 3) := by decide +kernel
theorem dX4_ring_43 : decode cX4_ring 43 = .ok (.iload_n 1, 1) := by decide +kernel
theorem dX4_ring_44 : decode cX4_ring 44 = .ok (.bipush 64, 2) := by decide +kernel
theorem dX4_ring_46 : decode cX4_ring 46 = .ok (.if_icmp .eq 5, 3) := by decide +kernel
theorem dX4_ring_49 : decode cX4_ring 49 = .ok (.iconst (-1), 1) := by decide +kernel
theorem dX4_ring_50 : decode cX4_ring 50 = .ok (.ireturn, 1) := by decide +kernel
theorem dX4_ring_51 : decode cX4_ring 51 = .ok (.aload_n 0, 1) := by decide +kernel
theorem dX4_ring_52 : decode cX4_ring 52 = .ok (.getfield 135, 3) := by decide +kernel
theorem dX4_ring_55 : decode cX4_ring 55 = .ok (.ifCond .eq 6, 3) := by decide +kernel
theorem dX4_ring_58 : decode cX4_ring 58 = .ok (.bipush (-2), 2) := by decide +kernel
theorem dX4_ring_60 : decode cX4_ring 60 = .ok (.ireturn, 1) := by decide +kernel
theorem dX4_ring_61 : decode cX4_ring 61 = .ok (.aload_n 0, 1) := by decide +kernel
theorem dX4_ring_62 : decode cX4_ring 62 = .ok (.getfield 121, 3) := by decide +kernel
theorem dX4_ring_65 : decode cX4_ring 65 = .ok (.bipush 8, 2) := by decide +kernel
theorem dX4_ring_67 : decode cX4_ring 67 = .ok (.if_icmp .ne 6, 3) := by decide +kernel
theorem dX4_ring_70 : decode cX4_ring 70 = .ok (.bipush (-4), 2) := by decide +kernel
theorem dX4_ring_72 : decode cX4_ring 72 = .ok (.ireturn, 1) := by decide +kernel
theorem dX4_ring_73 : decode cX4_ring 73 = .ok (.aload_n 0, 1) := by decide +kernel
theorem dX4_ring_74 : decode cX4_ring 74 = .ok (.getfield 7, 3) := by decide +kernel
theorem dX4_ring_77 : decode cX4_ring 77 = .ok (.aload_n 0, 1) := by decide +kernel
theorem dX4_ring_78 : decode cX4_ring 78 = .ok (.getfield 121, 3) := by decide +kernel
theorem dX4_ring_81 : decode cX4_ring 81 = .ok (.iload_n 1, 1) := by decide +kernel
theorem dX4_ring_82 : decode cX4_ring 82 = .ok (.iastore, 1) := by decide +kernel
theorem dX4_ring_83 : decode cX4_ring 83 = .ok (.aload_n 0, 1) := by decide +kernel
theorem dX4_ring_84 : decode cX4_ring 84 = .ok (.dup, 1) := by decide +kernel
theorem dX4_ring_85 : decode cX4_ring 85 = .ok (.getfield 139, 3) := by decide +kernel
theorem dX4_ring_88 : decode cX4_ring 88 = .ok (.iconst 1, 1) := by decide +kernel
theorem dX4_ring_89 : decode cX4_ring 89 = .ok (.iload_n 1, 1) := by decide +kernel
theorem dX4_ring_90 : decode cX4_ring 90 = .ok (.iadd, 1) := by decide +kernel
theorem dX4_ring_91 : decode cX4_ring 91 = .ok (.iadd, 1) := by decide +kernel
theorem dX4_ring_92 : decode cX4_ring 92 = .ok (.putfield 139, 3) := by decide +kernel
theorem dX4_ring_95 : decode cX4_ring 95 = .ok (.aload_n 0, 1) := by decide +kernel
theorem dX4_ring_96 : decode cX4_ring 96 = .ok (.dup, 1) := by decide +kernel
theorem dX4_ring_97 : decode cX4_ring 97 = .ok (.getfield 121, 3) := by decide +kernel
theorem dX4_ring_100 : decode cX4_ring 100 = .ok (.iconst 1, 1) := by decide +kernel
theorem dX4_ring_101 : decode cX4_ring 101 = .ok (.iadd, 1) := by decide +kernel
theorem dX4_ring_102 : decode cX4_ring 102 = .ok (.putfield 121, 3) := by decide +kernel
theorem dX4_ring_105 : decode cX4_ring 105 = .ok (.aload_n 0, 1) := by decide +kernel
theorem dX4_ring_106 : decode cX4_ring 106 = .ok (.getfield 121, 3) := by decide +kernel
theorem dX4_ring_109 : decode cX4_ring 109 = .ok (.iconst 1, 1) := by decide +kernel
theorem dX4_ring_110 : decode cX4_ring 110 = .ok (.isub, 1) := by decide +kernel
theorem dX4_ring_111 : decode cX4_ring 111 = .ok (.ireturn, 1) := by decide +kernel
theorem dX4_isNumbered_0 : decode cX4_isNumbered 0 = .ok (.iload_n 1, 1) := by decide +kernel
theorem dX4_isNumbered_1 : decode cX4_isNumbered 1 = .ok (.iconst 1, 1) := by decide +kernel
theorem dX4_isNumbered_2 : decode cX4_isNumbered 2 = .ok (.if_icmp .lt 17, 3) := by decide +kernel
theorem dX4_isNumbered_5 : decode cX4_isNumbered 5 = .ok (.iload_n 1, 1) := by decide +kernel
theorem dX4_isNumbered_6 : decode cX4_isNumbered 6 = .ok (.bipush 7, 2) := by decide +kernel
theorem dX4_isNumbered_8 : decode cX4_isNumbered 8 = .ok (.if_icmp .gt 11, 3) := by decide +kernel
theorem dX4_isNumbered_11 : decode cX4_isNumbered 11 = .ok (.aload_n 0, 1) := by decide +kernel
theorem dX4_isNumbered_12 : decode cX4_isNumbered 12 = .ok (.iload_n 2, 1) := by decide +kernel
theorem dX4_isNumbered_13 : decode cX4_isNumbered 13 = .ok (.invokevirtual 142, 3) := by decide +kernel
theorem dX4_isNumbered_16 : decode cX4_isNumbered 16 = .ok (.ifCond .ne 5, 3) := by decide +kernel
theorem dX4_isNumbered_19 : decode cX4_isNumbered 19 = .ok (.iconst 0, 1) := by decide +kernel
theorem dX4_isNumbered_20 : decode cX4_isNumbered 20 = .ok (.ireturn, 1) := by decide +kernel
theorem dX4_isNumbered_21 : decode cX4_isNumbered 21 = .ok (.iload_n 1, 1) := by decide +kernel
theorem dX4_isNumbered_22 : decode cX4_isNumbered 22 = .ok (.iconst 5, 1) := by decide +kernel
theorem dX4_isNumbered_23 : decode cX4_isNumbered 23 = .ok (.if_icmp .eq 9, 3) := by decide +kernel
theorem dX4_isNumbered_26 : decode cX4_isNumbered 26 = .ok (.iload_n 1, 1) := by decide +kernel
theorem dX4_isNumbered_27 : decode cX4_isNumbered 27 = .ok (.bipush 7, 2) := by decide +kernel
theorem dX4_isNumbered_29 : decode cX4_isNumbered 29 = .ok (.if_icmp .ne 22, 3) := by decide +kernel
theorem dX4_isNumbered_32 : decode cX4_isNumbered 32 = .ok (.aload_n 0, 1) := by decide +kernel
theorem dX4_isNumbered_33 : decode cX4_isNumbered 33 = .ok (.iload_n 3, 1) := by decide +kernel
theorem dX4_isNumbered_34 : decode cX4_isNumbered 34 = .ok (.invokevirtual 142, 3) := by decide +kernel
theorem dX4_isNumbered_37 : decode cX4_isNumbered 37 = .ok (.ifCond .eq 12, 3) := by decide +kernel
theorem dX4_isNumbered_40 : decode cX4_isNumbered 40 = .ok (.iload_n 3, 1) := by decide +kernel
theorem dX4_isNumbered_41 : decode cX4_isNumbered 41 = .ok (.iload_n 2, 1) := by decide +kernel
theorem dX4_isNumbered_42 : decode cX4_isNumbered 42 = .ok (.if_icmp .eq 7, 3) := by decide +kernel
theorem dX4_isNumbered_45 : decode cX4_isNumbered 45 = .ok (.iconst 1, 1) := by decide +kernel
theorem dX4_isNumbered_46 : decode cX4_isNumbered 46 = .ok (.goto 4, 3) := by decide +kernel
theorem dX4_isNumbered_49 : decode cX4_isNumbered 49 = .ok (.iconst 0, 1) := by decide +kernel
theorem dX4_isNumbered_50 : decode cX4_isNumbered 50 = .ok (.ireturn, 1) := by decide +kernel
theorem dX4_isNumbered_51 : decode cX4_isNumbered 51 = .ok (.iload_n 1, 1) := by decide +kernel
theorem dX4_isNumbered_52 : decode cX4_isNumbered 52 = .ok (.bipush 6, 2) := by decide +kernel
theorem dX4_isNumbered_54 : decode cX4_isNumbered 54 = .ok (.if_icmp .ne 11, 3) := by decide +kernel
theorem dX4_isNumbered_57 : decode cX4_isNumbered 57 = .ok (.aload_n 0, 1) := by decide +kernel
theorem dX4_isNumbered_58 : decode cX4_isNumbered 58 = .ok (.iload_n 3, 1) := by decide +kernel
theorem dX4_isNumbered_59 : decode cX4_isNumbered 59 = .ok (.invokevirtual 146, 3) := by decide +kernel
theorem dX4_isNumbered_62 : decode cX4_isNumbered 62 = .ok (.ifCond .eq 7, 3) := by decide +kernel
theorem dX4_isNumbered_65 : decode cX4_isNumbered 65 = .ok (.iconst 1, 1) := by decide +kernel
theorem dX4_isNumbered_66 : decode cX4_isNumbered 66 = .ok (.goto 4, 3) := by decide +kernel
theorem dX4_isNumbered_69 : decode cX4_isNumbered 69 = .ok (.iconst 0, 1) := by decide +kernel
theorem dX4_isNumbered_70 : decode cX4_isNumbered 70 = .ok (.ireturn, 1) := by decide +kernel
theorem dX4_reader_0 : decode cX4_reader 0 = .ok (.aload_n 0, 1) := by decide +kernel
theorem dX4_reader_1 : decode cX4_reader 1 = .ok (.iload_n 1, 1) := by decide +kernel
theorem dX4_reader_2 : decode cX4_reader 2 = .ok (.iload_n 2, 1) := by decide +kernel
theorem dX4_reader_3 : decode cX4_reader 3 = .ok (.iload_n 3, 1) := by decide +kernel
theorem dX4_reader_4 : decode cX4_reader 4 = .ok (.invokevirtual 149, 3) := by decide +kernel
theorem dX4_reader_7 : decode cX4_reader 7 = .ok (.ifCond .ne 5, 3) := by decide +kernel
theorem dX4_reader_10 : decode cX4_reader 10 = .ok (.iconst (-1), 1) := by decide +kernel
theorem dX4_reader_11 : decode cX4_reader 11 = .ok (.ireturn, 1) := by decide +kernel
theorem dX4_reader_12 : decode cX4_reader 12 = .ok (.aload_n 0, 1) := by decide +kernel
theorem dX4_reader_13 : decode cX4_reader 13 = .ok (.getfield 135, 3) := by decide +kernel
theorem dX4_reader_16 : decode cX4_reader 16 = .ok (.ifCond .eq 6, 3) := by decide +kernel
theorem dX4_reader_19 : decode cX4_reader 19 = .ok (.bipush (-2), 2) := by decide +kernel
theorem dX4_reader_21 : decode cX4_reader 21 = .ok (.ireturn, 1) := by decide +kernel
theorem dX4_reader_22 : decode cX4_reader 22 = .ok (.iload_n 1, 1) := by decide +kernel
theorem dX4_reader_23 : decode cX4_reader 23 = .ok (.bipush 6, 2) := by decide +kernel
theorem dX4_reader_25 : decode cX4_reader 25 = .ok (.if_icmp .ne 15, 3) := by decide +kernel
theorem dX4_reader_28 : decode cX4_reader 28 = .ok (.aload_n 0, 1) := by decide +kernel
theorem dX4_reader_29 : decode cX4_reader 29 = .ok (.iload_n 3, 1) := by decide +kernel
theorem dX4_reader_30 : decode cX4_reader 30 = .ok (.iload_n 2, 1) := by decide +kernel
theorem dX4_reader_31 : decode cX4_reader 31 = .ok (.invokevirtual 127, 3) := by decide +kernel
theorem dX4_reader_34 : decode cX4_reader 34 = .ok (.ifCond .ge 6, 3) := by decide +kernel
theorem dX4_reader_37 : decode cX4_reader 37 = .ok (.bipush (-3), 2) := by decide +kernel
theorem dX4_reader_39 : decode cX4_reader 39 = .ok (.ireturn, 1) := by decide +kernel
theorem dX4_reader_40 : decode cX4_reader 40 = .ok (.aload_n 0, 1) := by decide +kernel
theorem dX4_reader_41 : decode cX4_reader 41 = .ok (.getfield 124, 3) := by decide +kernel
theorem dX4_reader_44 : decode cX4_reader 44 = .ok (.bipush 16, 2) := by decide +kernel
theorem dX4_reader_46 : decode cX4_reader 46 = .ok (.if_icmp .ne 6, 3) := by decide +kernel
theorem dX4_reader_49 : decode cX4_reader 49 = .ok (.bipush (-4), 2) := by decide +kernel
theorem dX4_reader_51 : decode cX4_reader 51 = .ok (.ireturn, 1) := by decide +kernel
theorem dX4_reader_52 : decode cX4_reader 52 = .ok (.aload_n 0, 1) := by decide +kernel
theorem dX4_reader_53 : decode cX4_reader 53 = .ok (.getfield 124, 3) := by decide +kernel
theorem dX4_reader_56 : decode cX4_reader 56 = .ok (.istore 4, 2) := by decide +kernel
theorem dX4_reader_58 : decode cX4_reader 58 = .ok (.aload_n 0, 1) := by decide +kernel
theorem dX4_reader_59 : decode cX4_reader 59 = .ok (.dup, 1) := by decide +kernel
theorem dX4_reader_60 : decode cX4_reader 60 = .ok (.getfield 124, 3) := by decide +kernel
theorem dX4_reader_63 : decode cX4_reader 63 = .ok (.iconst 1, 1) := by decide +kernel
theorem dX4_reader_64 : decode cX4_reader 64 = .ok (.iadd, 1) := by decide +kernel
theorem dX4_reader_65 : decode cX4_reader 65 = .ok (.putfield 124, 3) := by decide +kernel
theorem dX4_reader_68 : decode cX4_reader 68 = .ok (.aload_n 0, 1) := by decide +kernel
theorem dX4_reader_69 : decode cX4_reader 69 = .ok (.getfield 39, 3) := by decide +kernel
theorem dX4_reader_72 : decode cX4_reader 72 = .ok (.iload 4, 2) := by decide +kernel
theorem dX4_reader_74 : decode cX4_reader 74 = .ok (.iload_n 1, 1) := by decide +kernel
theorem dX4_reader_75 : decode cX4_reader 75 = .ok (.iastore, 1) := by decide +kernel
theorem dX4_reader_76 : decode cX4_reader 76 = .ok (.aload_n 0, 1) := by decide +kernel
theorem dX4_reader_77 : decode cX4_reader 77 = .ok (.getfield 42, 3) := by decide +kernel
theorem dX4_reader_80 : decode cX4_reader 80 = .ok (.iconst 4, 1) := by decide +kernel
theorem dX4_reader_81 : decode cX4_reader 81 = .ok (.iload 4, 2) := by decide +kernel
theorem dX4_reader_83 : decode cX4_reader 83 = .ok (.imul, 1) := by decide +kernel
theorem dX4_reader_84 : decode cX4_reader 84 = .ok (.iload_n 2, 1) := by decide +kernel
theorem dX4_reader_85 : decode cX4_reader 85 = .ok (.iastore, 1) := by decide +kernel
theorem dX4_reader_86 : decode cX4_reader 86 = .ok (.aload_n 0, 1) := by decide +kernel
theorem dX4_reader_87 : decode cX4_reader 87 = .ok (.getfield 48, 3) := by decide +kernel
theorem dX4_reader_90 : decode cX4_reader 90 = .ok (.iload 4, 2) := by decide +kernel
theorem dX4_reader_92 : decode cX4_reader 92 = .ok (.iconst 1, 1) := by decide +kernel
theorem dX4_reader_93 : decode cX4_reader 93 = .ok (.iastore, 1) := by decide +kernel
theorem dX4_reader_94 : decode cX4_reader 94 = .ok (.iload_n 1, 1) := by decide +kernel
theorem dX4_reader_95 : decode cX4_reader 95 = .ok (.iconst 5, 1) := by decide +kernel
theorem dX4_reader_96 : decode cX4_reader 96 = .ok (.if_icmp .ne 23, 3) := by decide +kernel
theorem dX4_reader_99 : decode cX4_reader 99 = .ok (.aload_n 0, 1) := by decide +kernel
theorem dX4_reader_100 : decode cX4_reader 100 = .ok (.getfield 42, 3) := by decide +kernel
theorem dX4_reader_103 : decode cX4_reader 103 = .ok (.iconst 4, 1) := by decide +kernel
theorem dX4_reader_104 : decode cX4_reader 104 = .ok (.iload 4, 2) := by decide +kernel
theorem dX4_reader_106 : decode cX4_reader 106 = .ok (.imul, 1) := by decide +kernel
theorem dX4_reader_107 : decode cX4_reader 107 = .ok (.iconst 1, 1) := by decide +kernel
theorem dX4_reader_108 : decode cX4_reader 108 = .ok (.iadd, 1) := by decide +kernel
theorem dX4_reader_109 : decode cX4_reader 109 = .ok (.iload_n 3, 1) := by decide +kernel
theorem dX4_reader_110 : decode cX4_reader 110 = .ok (.iastore, 1) := by decide +kernel
theorem dX4_reader_111 : decode cX4_reader 111 = .ok (.aload_n 0, 1) := by decide +kernel
theorem dX4_reader_112 : decode cX4_reader 112 = .ok (.getfield 48, 3) := by decide +kernel
theorem dX4_reader_115 : decode cX4_reader 115 = .ok (.iload 4, 2) := by decide +kernel
theorem dX4_reader_117 : decode cX4_reader 117 = .ok (.iconst 2, 1) := by decide +kernel
theorem dX4_reader_118 : decode cX4_reader 118 = .ok (.iastore, 1) := by decide +kernel
theorem dX4_reader_119 : decode cX4_reader 119 = .ok (.iload_n 1, 1) := by decide +kernel
theorem dX4_reader_120 : decode cX4_reader 120 = .ok (.bipush 6, 2) := by decide +kernel
theorem dX4_reader_122 : decode cX4_reader 122 = .ok (.if_icmp .ne 21, 3) := by decide +kernel
theorem dX4_reader_125 : decode cX4_reader 125 = .ok (.aload_n 0, 1) := by decide +kernel
theorem dX4_reader_126 : decode cX4_reader 126 = .ok (.getfield 51, 3) := by decide +kernel
theorem dX4_reader_129 : decode cX4_reader 129 = .ok (.iconst 4, 1) := by decide +kernel
theorem dX4_reader_130 : decode cX4_reader 130 = .ok (.iload 4, 2) := by decide +kernel
theorem dX4_reader_132 : decode cX4_reader 132 = .ok (.imul, 1) := by decide +kernel
theorem dX4_reader_133 : decode cX4_reader 133 = .ok (.iload_n 3, 1) := by decide +kernel
theorem dX4_reader_134 : decode cX4_reader 134 = .ok (.iastore, 1) := by decide +kernel
theorem dX4_reader_135 : decode cX4_reader 135 = .ok (.aload_n 0, 1) := by decide +kernel
theorem dX4_reader_136 : decode cX4_reader 136 = .ok (.getfield 54, 3) := by decide +kernel
theorem dX4_reader_139 : decode cX4_reader 139 = .ok (.iload 4, 2) := by decide +kernel
theorem dX4_reader_141 : decode cX4_reader 141 = .ok (.iconst 1, 1) := by decide +kernel
theorem dX4_reader_142 : decode cX4_reader 142 = .ok (.iastore, 1) := by decide +kernel
theorem dX4_reader_143 : decode cX4_reader 143 = .ok (.aload_n 0, 1) := by decide +kernel
theorem dX4_reader_144 : decode cX4_reader 144 = .ok (.getfield 57, 3) := by decide +kernel
theorem dX4_reader_147 : decode cX4_reader 147 = .ok (.iload 4, 2) := by decide +kernel
theorem dX4_reader_149 : decode cX4_reader 149 = .ok (.iload_n 3, 1) := by decide +kernel
theorem dX4_reader_150 : decode cX4_reader 150 = .ok (.iastore, 1) := by decide +kernel
theorem dX4_reader_151 : decode cX4_reader 151 = .ok (.aload_n 0, 1) := by decide +kernel
theorem dX4_reader_152 : decode cX4_reader 152 = .ok (.getfield 63, 3) := by decide +kernel
theorem dX4_reader_155 : decode cX4_reader 155 = .ok (.iload 4, 2) := by decide +kernel
theorem dX4_reader_157 : decode cX4_reader 157 = .ok (.iconst (-1), 1) := by decide +kernel
theorem dX4_reader_158 : decode cX4_reader 158 = .ok (.iastore, 1) := by decide +kernel
theorem dX4_reader_159 : decode cX4_reader 159 = .ok (.aload_n 0, 1) := by decide +kernel
theorem dX4_reader_160 : decode cX4_reader 160 = .ok (.getfield 66, 3) := by decide +kernel
theorem dX4_reader_163 : decode cX4_reader 163 = .ok (.iload 4, 2) := by decide +kernel
theorem dX4_reader_165 : decode cX4_reader 165 = .ok (.iconst (-1), 1) := by decide +kernel
theorem dX4_reader_166 : decode cX4_reader 166 = .ok (.iastore, 1) := by decide +kernel
theorem dX4_reader_167 : decode cX4_reader 167 = .ok (.aload_n 0, 1) := by decide +kernel
theorem dX4_reader_168 : decode cX4_reader 168 = .ok (.dup, 1) := by decide +kernel
theorem dX4_reader_169 : decode cX4_reader 169 = .ok (.getfield 139, 3) := by decide +kernel
theorem dX4_reader_172 : decode cX4_reader 172 = .ok (.iload_n 1, 1) := by decide +kernel
theorem dX4_reader_173 : decode cX4_reader 173 = .ok (.iconst 4, 1) := by decide +kernel
theorem dX4_reader_174 : decode cX4_reader 174 = .ok (.if_icmp .ne 8, 3) := by decide +kernel
theorem dX4_reader_177 : decode cX4_reader 177 = .ok (.bipush 33, 2) := by decide +kernel
theorem dX4_reader_179 : decode cX4_reader 179 = .ok (.goto 4, 3) := by decide +kernel
theorem dX4_reader_182 : decode cX4_reader 182 = .ok (.iconst 1, 1) := by decide +kernel
theorem dX4_reader_183 : decode cX4_reader 183 = .ok (.iadd, 1) := by decide +kernel
theorem dX4_reader_184 : decode cX4_reader 184 = .ok (.putfield 139, 3) := by decide +kernel
theorem dX4_reader_187 : decode cX4_reader 187 = .ok (.iload 4, 2) := by decide +kernel
theorem dX4_reader_189 : decode cX4_reader 189 = .ok (.ireturn, 1) := by decide +kernel
theorem dX4_join_0 : decode cX4_join 0 = .ok (.aload_n 0, 1) := by decide +kernel
theorem dX4_join_1 : decode cX4_join 1 = .ok (.iload_n 1, 1) := by decide +kernel
theorem dX4_join_2 : decode cX4_join 2 = .ok (.invokevirtual 146, 3) := by decide +kernel
theorem dX4_join_5 : decode cX4_join 5 = .ok (.ifCond .eq 11, 3) := by decide +kernel
theorem dX4_join_8 : decode cX4_join 8 = .ok (.aload_n 0, 1) := by decide +kernel
theorem dX4_join_9 : decode cX4_join 9 = .ok (.iload_n 2, 1) := by decide +kernel
theorem dX4_join_10 : decode cX4_join 10 = .ok (.invokevirtual 142, 3) := by decide +kernel
theorem dX4_join_13 : decode cX4_join 13 = .ok (.ifCond .ne 5, 3) := by decide +kernel
theorem dX4_join_16 : decode cX4_join 16 = .ok (.iconst (-1), 1) := by decide +kernel
theorem dX4_join_17 : decode cX4_join 17 = .ok (.ireturn, 1) := by decide +kernel
theorem dX4_join_18 : decode cX4_join 18 = .ok (.aload_n 0, 1) := by decide +kernel
theorem dX4_join_19 : decode cX4_join 19 = .ok (.getfield 135, 3) := by decide +kernel
theorem dX4_join_22 : decode cX4_join 22 = .ok (.ifCond .eq 6, 3) := by decide +kernel
theorem dX4_join_25 : decode cX4_join 25 = .ok (.bipush (-2), 2) := by decide +kernel
theorem dX4_join_27 : decode cX4_join 27 = .ok (.ireturn, 1) := by decide +kernel
theorem dX4_join_28 : decode cX4_join 28 = .ok (.aload_n 0, 1) := by decide +kernel
theorem dX4_join_29 : decode cX4_join 29 = .ok (.getfield 39, 3) := by decide +kernel
theorem dX4_join_32 : decode cX4_join 32 = .ok (.iload_n 1, 1) := by decide +kernel
theorem dX4_join_33 : decode cX4_join 33 = .ok (.iaload, 1) := by decide +kernel
theorem dX4_join_34 : decode cX4_join 34 = .ok (.iconst 5, 1) := by decide +kernel
theorem dX4_join_35 : decode cX4_join 35 = .ok (.if_icmp .eq 6, 3) := by decide +kernel
theorem dX4_join_38 : decode cX4_join 38 = .ok (.bipush (-3), 2) := by decide +kernel
theorem dX4_join_40 : decode cX4_join 40 = .ok (.ireturn, 1) := by decide +kernel
theorem dX4_join_41 : decode cX4_join 41 = .ok (.aload_n 0, 1) := by decide +kernel
theorem dX4_join_42 : decode cX4_join 42 = .ok (.iload_n 1, 1) := by decide +kernel
theorem dX4_join_43 : decode cX4_join 43 = .ok (.iload_n 2, 1) := by decide +kernel
theorem dX4_join_44 : decode cX4_join 44 = .ok (.invokevirtual 127, 3) := by decide +kernel
theorem dX4_join_47 : decode cX4_join 47 = .ok (.ifCond .lt 6, 3) := by decide +kernel
theorem dX4_join_50 : decode cX4_join 50 = .ok (.bipush (-5), 2) := by decide +kernel
theorem dX4_join_52 : decode cX4_join 52 = .ok (.ireturn, 1) := by decide +kernel
theorem dX4_join_53 : decode cX4_join 53 = .ok (.aload_n 0, 1) := by decide +kernel
theorem dX4_join_54 : decode cX4_join 54 = .ok (.getfield 48, 3) := by decide +kernel
theorem dX4_join_57 : decode cX4_join 57 = .ok (.iload_n 1, 1) := by decide +kernel
theorem dX4_join_58 : decode cX4_join 58 = .ok (.iaload, 1) := by decide +kernel
theorem dX4_join_59 : decode cX4_join 59 = .ok (.iconst 4, 1) := by decide +kernel
theorem dX4_join_60 : decode cX4_join 60 = .ok (.if_icmp .ne 6, 3) := by decide +kernel
theorem dX4_join_63 : decode cX4_join 63 = .ok (.bipush (-4), 2) := by decide +kernel
theorem dX4_join_65 : decode cX4_join 65 = .ok (.ireturn, 1) := by decide +kernel
theorem dX4_join_66 : decode cX4_join 66 = .ok (.aload_n 0, 1) := by decide +kernel
theorem dX4_join_67 : decode cX4_join 67 = .ok (.getfield 42, 3) := by decide +kernel
theorem dX4_join_70 : decode cX4_join 70 = .ok (.iconst 4, 1) := by decide +kernel
theorem dX4_join_71 : decode cX4_join 71 = .ok (.iload_n 1, 1) := by decide +kernel
theorem dX4_join_72 : decode cX4_join 72 = .ok (.imul, 1) := by decide +kernel
theorem dX4_join_73 : decode cX4_join 73 = .ok (.aload_n 0, 1) := by decide +kernel
theorem dX4_join_74 : decode cX4_join 74 = .ok (.getfield 48, 3) := by decide +kernel
theorem dX4_join_77 : decode cX4_join 77 = .ok (.iload_n 1, 1) := by decide +kernel
theorem dX4_join_78 : decode cX4_join 78 = .ok (.iaload, 1) := by decide +kernel
theorem dX4_join_79 : decode cX4_join 79 = .ok (.iadd, 1) := by decide +kernel
theorem dX4_join_80 : decode cX4_join 80 = .ok (.iload_n 2, 1) := by decide +kernel
theorem dX4_join_81 : decode cX4_join 81 = .ok (.iastore, 1) := by decide +kernel
theorem dX4_join_82 : decode cX4_join 82 = .ok (.aload_n 0, 1) := by decide +kernel
theorem dX4_join_83 : decode cX4_join 83 = .ok (.getfield 48, 3) := by decide +kernel
theorem dX4_join_86 : decode cX4_join 86 = .ok (.iload_n 1, 1) := by decide +kernel
theorem dX4_join_87 : decode cX4_join 87 = .ok (.dup2, 1) := by decide +kernel
theorem dX4_join_88 : decode cX4_join 88 = .ok (.iaload, 1) := by decide +kernel
theorem dX4_join_89 : decode cX4_join 89 = .ok (.iconst 1, 1) := by decide +kernel
theorem dX4_join_90 : decode cX4_join 90 = .ok (.iadd, 1) := by decide +kernel
theorem dX4_join_91 : decode cX4_join 91 = .ok (.iastore, 1) := by decide +kernel
theorem dX4_join_92 : decode cX4_join 92 = .ok (.iconst 1, 1) := by decide +kernel
theorem dX4_join_93 : decode cX4_join 93 = .ok (.ireturn, 1) := by decide +kernel
theorem dX4_doesName_0 : decode cX4_doesName 0 = .ok (.iconst 0, 1) := by decide +kernel
theorem dX4_doesName_1 : decode cX4_doesName 1 = .ok (.istore_n 3, 1) := by decide +kernel
theorem dX4_doesName_2 : decode cX4_doesName 2 = .ok (.iconst 0, 1) := by decide +kernel
theorem dX4_doesName_3 : decode cX4_doesName 3 = .ok (.istore 4, 2) := by decide +kernel
theorem dX4_doesName_5 : decode cX4_doesName 5 = .ok (.iload 4, 2) := by decide +kernel
theorem dX4_doesName_7 : decode cX4_doesName 7 = .ok (.aload_n 0, 1) := by decide +kernel
theorem dX4_doesName_8 : decode cX4_doesName 8 = .ok (.getfield 54, 3) := by decide +kernel
theorem dX4_doesName_11 : decode cX4_doesName 11 = .ok (.iload_n 1, 1) := by decide +kernel
theorem dX4_doesName_12 : decode cX4_doesName 12 = .ok (.iaload, 1) := by decide +kernel
theorem dX4_doesName_13 : decode cX4_doesName 13 = .ok (.if_icmp .ge 34, 3) := by decide +kernel
theorem dX4_doesName_16 : decode cX4_doesName 16 = .ok (.iload_n 3, 1) := by decide +kernel
theorem dX4_doesName_17 : decode cX4_doesName 17 = .ok (.ifCond .ne 18, 3) := by decide +kernel
theorem dX4_doesName_20 : decode cX4_doesName 20 = .ok (.aload_n 0, 1) := by decide +kernel
theorem dX4_doesName_21 : decode cX4_doesName 21 = .ok (.getfield 51, 3) := by decide +kernel
theorem dX4_doesName_24 : decode cX4_doesName 24 = .ok (.iconst 4, 1) := by decide +kernel
theorem dX4_doesName_25 : decode cX4_doesName 25 = .ok (.iload_n 1, 1) := by decide +kernel
theorem dX4_doesName_26 : decode cX4_doesName 26 = .ok (.imul, 1) := by decide +kernel
theorem dX4_doesName_27 : decode cX4_doesName 27 = .ok (.iload 4, 2) := by decide +kernel
theorem dX4_doesName_29 : decode cX4_doesName 29 = .ok (.iadd, 1) := by decide +kernel
theorem dX4_doesName_30 : decode cX4_doesName 30 = .ok (.iaload, 1) := by decide +kernel
theorem dX4_doesName_31 : decode cX4_doesName 31 = .ok (.iload_n 2, 1) := by decide +kernel
theorem dX4_doesName_32 : decode cX4_doesName 32 = .ok (.if_icmp .ne 7, 3) := by decide +kernel
theorem dX4_doesName_35 : decode cX4_doesName 35 = .ok (.iconst 1, 1) := by decide +kernel
theorem dX4_doesName_36 : decode cX4_doesName 36 = .ok (.goto 4, 3) := by decide +kernel
theorem dX4_doesName_39 : decode cX4_doesName 39 = .ok (.iconst 0, 1) := by decide +kernel
theorem dX4_doesName_40 : decode cX4_doesName 40 = .ok (.istore_n 3, 1) := by decide +kernel
theorem dX4_doesName_41 : decode cX4_doesName 41 = .ok (.iinc 4 1, 3) := by decide +kernel
theorem dX4_doesName_44 : decode cX4_doesName 44 = .ok (.goto (-39), 3) := by decide +kernel
theorem dX4_doesName_47 : decode cX4_doesName 47 = .ok (.iload_n 3, 1) := by decide +kernel
theorem dX4_doesName_48 : decode cX4_doesName 48 = .ok (.ireturn, 1) := by decide +kernel
theorem dX4_reach_0 : decode cX4_reach 0 = .ok (.iconst 0, 1) := by decide +kernel
theorem dX4_reach_1 : decode cX4_reach 1 = .ok (.istore_n 2, 1) := by decide +kernel
theorem dX4_reach_2 : decode cX4_reach 2 = .ok (.iload_n 2, 1) := by decide +kernel
theorem dX4_reach_3 : decode cX4_reach 3 = .ok (.bipush 16, 2) := by decide +kernel
theorem dX4_reach_5 : decode cX4_reach 5 = .ok (.if_icmp .ge 16, 3) := by decide +kernel
theorem dX4_reach_8 : decode cX4_reach 8 = .ok (.aload_n 0, 1) := by decide +kernel
theorem dX4_reach_9 : decode cX4_reach 9 = .ok (.getfield 118, 3) := by decide +kernel
theorem dX4_reach_12 : decode cX4_reach 12 = .ok (.iload_n 2, 1) := by decide +kernel
theorem dX4_reach_13 : decode cX4_reach 13 = .ok (.iconst 0, 1) := by decide +kernel
theorem dX4_reach_14 : decode cX4_reach 14 = .ok (.bastore, 1) := by decide +kernel
theorem dX4_reach_15 : decode cX4_reach 15 = .ok (.iinc 2 1, 3) := by decide +kernel
theorem dX4_reach_18 : decode cX4_reach 18 = .ok (.goto (-16), 3) := by decide +kernel
theorem dX4_reach_21 : decode cX4_reach 21 = .ok (.iconst 0, 1) := by decide +kernel
theorem dX4_reach_22 : decode cX4_reach 22 = .ok (.istore_n 2, 1) := by decide +kernel
theorem dX4_reach_23 : decode cX4_reach 23 = .ok (.iload_n 2, 1) := by decide +kernel
theorem dX4_reach_24 : decode cX4_reach 24 = .ok (.bipush 16, 2) := by decide +kernel
theorem dX4_reach_26 : decode cX4_reach 26 = .ok (.if_icmp .ge 94, 3) := by decide +kernel
theorem dX4_reach_29 : decode cX4_reach 29 = .ok (.iconst 0, 1) := by decide +kernel
theorem dX4_reach_30 : decode cX4_reach 30 = .ok (.istore_n 3, 1) := by decide +kernel
theorem dX4_reach_31 : decode cX4_reach 31 = .ok (.iload_n 3, 1) := by decide +kernel
theorem dX4_reach_32 : decode cX4_reach 32 = .ok (.aload_n 0, 1) := by decide +kernel
theorem dX4_reach_33 : decode cX4_reach 33 = .ok (.getfield 124, 3) := by decide +kernel
theorem dX4_reach_36 : decode cX4_reach 36 = .ok (.if_icmp .ge 78, 3) := by decide +kernel
theorem dX4_reach_39 : decode cX4_reach 39 = .ok (.iconst 0, 1) := by decide +kernel
theorem dX4_reach_40 : decode cX4_reach 40 = .ok (.istore 4, 2) := by decide +kernel
theorem dX4_reach_42 : decode cX4_reach 42 = .ok (.iload 4, 2) := by decide +kernel
theorem dX4_reach_44 : decode cX4_reach 44 = .ok (.aload_n 0, 1) := by decide +kernel
theorem dX4_reach_45 : decode cX4_reach 45 = .ok (.getfield 54, 3) := by decide +kernel
theorem dX4_reach_48 : decode cX4_reach 48 = .ok (.iload_n 3, 1) := by decide +kernel
theorem dX4_reach_49 : decode cX4_reach 49 = .ok (.iaload, 1) := by decide +kernel
theorem dX4_reach_50 : decode cX4_reach 50 = .ok (.if_icmp .ge 58, 3) := by decide +kernel
theorem dX4_reach_53 : decode cX4_reach 53 = .ok (.aload_n 0, 1) := by decide +kernel
theorem dX4_reach_54 : decode cX4_reach 54 = .ok (.getfield 51, 3) := by decide +kernel
theorem dX4_reach_57 : decode cX4_reach 57 = .ok (.iconst 4, 1) := by decide +kernel
theorem dX4_reach_58 : decode cX4_reach 58 = .ok (.iload_n 3, 1) := by decide +kernel
theorem dX4_reach_59 : decode cX4_reach 59 = .ok (.imul, 1) := by decide +kernel
theorem dX4_reach_60 : decode cX4_reach 60 = .ok (.iload 4, 2) := by decide +kernel
theorem dX4_reach_62 : decode cX4_reach 62 = .ok (.iadd, 1) := by decide +kernel
theorem dX4_reach_63 : decode cX4_reach 63 = .ok (.iaload, 1) := by decide +kernel
theorem dX4_reach_64 : decode cX4_reach 64 = .ok (.istore 5, 2) := by decide +kernel
theorem dX4_reach_66 : decode cX4_reach 66 = .ok (.aload_n 0, 1) := by decide +kernel
theorem dX4_reach_67 : decode cX4_reach 67 = .ok (.getfield 118, 3) := by decide +kernel
theorem dX4_reach_70 : decode cX4_reach 70 = .ok (.iload_n 3, 1) := by decide +kernel
theorem dX4_reach_71 : decode cX4_reach 71 = .ok (.aload_n 0, 1) := by decide +kernel
theorem dX4_reach_72 : decode cX4_reach 72 = .ok (.getfield 118, 3) := by decide +kernel
theorem dX4_reach_75 : decode cX4_reach 75 = .ok (.iload_n 3, 1) := by decide +kernel
theorem dX4_reach_76 : decode cX4_reach 76 = .ok (.baload, 1) := by decide +kernel
theorem dX4_reach_77 : decode cX4_reach 77 = .ok (.ifCond .ne 19, 3) := by decide +kernel
theorem dX4_reach_80 : decode cX4_reach 80 = .ok (.iload 5, 2) := by decide +kernel
theorem dX4_reach_82 : decode cX4_reach 82 = .ok (.iload_n 1, 1) := by decide +kernel
theorem dX4_reach_83 : decode cX4_reach 83 = .ok (.if_icmp .eq 13, 3) := by decide +kernel
theorem dX4_reach_86 : decode cX4_reach 86 = .ok (.aload_n 0, 1) := by decide +kernel
theorem dX4_reach_87 : decode cX4_reach 87 = .ok (.getfield 118, 3) := by decide +kernel
theorem dX4_reach_90 : decode cX4_reach 90 = .ok (.iload 5, 2) := by decide +kernel
theorem dX4_reach_92 : decode cX4_reach 92 = .ok (.baload, 1) := by decide +kernel
theorem dX4_reach_93 : decode cX4_reach 93 = .ok (.ifCond .eq 7, 3) := by decide +kernel
theorem dX4_reach_96 : decode cX4_reach 96 = .ok (.iconst 1, 1) := by decide +kernel
theorem dX4_reach_97 : decode cX4_reach 97 = .ok (.goto 4, 3) := by decide +kernel
theorem dX4_reach_100 : decode cX4_reach 100 = .ok (.iconst 0, 1) := by decide +kernel
theorem dX4_reach_101 : decode cX4_reach 101 = .ok (.bastore, 1) := by decide +kernel
theorem dX4_reach_102 : decode cX4_reach 102 = .ok (.iinc 4 1, 3) := by decide +kernel
theorem dX4_reach_105 : decode cX4_reach 105 = .ok (.goto (-63), 3) := by decide +kernel
theorem dX4_reach_108 : decode cX4_reach 108 = .ok (.iinc 3 1, 3) := by decide +kernel
theorem dX4_reach_111 : decode cX4_reach 111 = .ok (.goto (-80), 3) := by decide +kernel
theorem dX4_reach_114 : decode cX4_reach 114 = .ok (.iinc 2 1, 3) := by decide +kernel
theorem dX4_reach_117 : decode cX4_reach 117 = .ok (.goto (-94), 3) := by decide +kernel
theorem dX4_reach_120 : decode cX4_reach 120 = .ok (.return_, 1) := by decide +kernel
theorem dX4_go_0 : decode cX4_go 0 = .ok (.aload_n 0, 1) := by decide +kernel
theorem dX4_go_1 : decode cX4_go 1 = .ok (.getfield 115, 3) := by decide +kernel
theorem dX4_go_4 : decode cX4_go 4 = .ok (.iconst 0, 1) := by decide +kernel
theorem dX4_go_5 : decode cX4_go 5 = .ok (.iload_n 1, 1) := by decide +kernel
theorem dX4_go_6 : decode cX4_go 6 = .ok (.iastore, 1) := by decide +kernel
theorem dX4_go_7 : decode cX4_go 7 = .ok (.aload_n 0, 1) := by decide +kernel
theorem dX4_go_8 : decode cX4_go 8 = .ok (.getfield 115, 3) := by decide +kernel
theorem dX4_go_11 : decode cX4_go 11 = .ok (.iconst 1, 1) := by decide +kernel
theorem dX4_go_12 : decode cX4_go 12 = .ok (.iload_n 2, 1) := by decide +kernel
theorem dX4_go_13 : decode cX4_go 13 = .ok (.iastore, 1) := by decide +kernel
theorem dX4_go_14 : decode cX4_go 14 = .ok (.aload_n 0, 1) := by decide +kernel
theorem dX4_go_15 : decode cX4_go 15 = .ok (.iconst 2, 1) := by decide +kernel
theorem dX4_go_16 : decode cX4_go 16 = .ok (.putfield 153, 3) := by decide +kernel
theorem dX4_go_19 : decode cX4_go 19 = .ok (.aload_n 0, 1) := by decide +kernel
theorem dX4_go_20 : decode cX4_go 20 = .ok (.aload_n 0, 1) := by decide +kernel
theorem dX4_go_21 : decode cX4_go 21 = .ok (.getfield 115, 3) := by decide +kernel
theorem dX4_go_24 : decode cX4_go 24 = .ok (.aload_n 0, 1) := by decide +kernel
theorem dX4_go_25 : decode cX4_go 25 = .ok (.getfield 153, 3) := by decide +kernel
theorem dX4_go_28 : decode cX4_go 28 = .ok (.iconst 1, 1) := by decide +kernel
theorem dX4_go_29 : decode cX4_go 29 = .ok (.isub, 1) := by decide +kernel
theorem dX4_go_30 : decode cX4_go 30 = .ok (.iaload, 1) := by decide +kernel
theorem dX4_go_31 : decode cX4_go 31 = .ok (.iload_n 1, 1) := by decide +kernel
theorem dX4_go_32 : decode cX4_go 32 = .ok (.invokevirtual 156, 3) := by decide +kernel
theorem dX4_go_35 : decode cX4_go 35 = .ok (.ifCond .ne 105, 3) := by decide +kernel
theorem dX4_go_38 : decode cX4_go 38 = .ok (.bipush 16, 2) := by decide +kernel
theorem dX4_go_40 : decode cX4_go 40 = .ok (.istore_n 3, 1) := by decide +kernel
theorem dX4_go_41 : decode cX4_go 41 = .ok (.iconst 0, 1) := by decide +kernel
theorem dX4_go_42 : decode cX4_go 42 = .ok (.istore 4, 2) := by decide +kernel
theorem dX4_go_44 : decode cX4_go 44 = .ok (.iload 4, 2) := by decide +kernel
theorem dX4_go_46 : decode cX4_go 46 = .ok (.aload_n 0, 1) := by decide +kernel
theorem dX4_go_47 : decode cX4_go 47 = .ok (.getfield 54, 3) := by decide +kernel
theorem dX4_go_50 : decode cX4_go 50 = .ok (.aload_n 0, 1) := by decide +kernel
theorem dX4_go_51 : decode cX4_go 51 = .ok (.getfield 115, 3) := by decide +kernel
theorem dX4_go_54 : decode cX4_go 54 = .ok (.aload_n 0, 1) := by decide +kernel
theorem dX4_go_55 : decode cX4_go 55 = .ok (.getfield 153, 3) := by decide +kernel
theorem dX4_go_58 : decode cX4_go 58 = .ok (.iconst 1, 1) := by decide +kernel
theorem dX4_go_59 : decode cX4_go 59 = .ok (.isub, 1) := by decide +kernel
theorem dX4_go_60 : decode cX4_go 60 = .ok (.iaload, 1) := by decide +kernel
theorem dX4_go_61 : decode cX4_go 61 = .ok (.iaload, 1) := by decide +kernel
theorem dX4_go_62 : decode cX4_go 62 = .ok (.if_icmp .ge 55, 3) := by decide +kernel
theorem dX4_go_65 : decode cX4_go 65 = .ok (.aload_n 0, 1) := by decide +kernel
theorem dX4_go_66 : decode cX4_go 66 = .ok (.getfield 51, 3) := by decide +kernel
theorem dX4_go_69 : decode cX4_go 69 = .ok (.iconst 4, 1) := by decide +kernel
theorem dX4_go_70 : decode cX4_go 70 = .ok (.aload_n 0, 1) := by decide +kernel
theorem dX4_go_71 : decode cX4_go 71 = .ok (.getfield 115, 3) := by decide +kernel
theorem dX4_go_74 : decode cX4_go 74 = .ok (.aload_n 0, 1) := by decide +kernel
theorem dX4_go_75 : decode cX4_go 75 = .ok (.getfield 153, 3) := by decide +kernel
theorem dX4_go_78 : decode cX4_go 78 = .ok (.iconst 1, 1) := by decide +kernel
theorem dX4_go_79 : decode cX4_go 79 = .ok (.isub, 1) := by decide +kernel
theorem dX4_go_80 : decode cX4_go 80 = .ok (.iaload, 1) := by decide +kernel
theorem dX4_go_81 : decode cX4_go 81 = .ok (.imul, 1) := by decide +kernel
theorem dX4_go_82 : decode cX4_go 82 = .ok (.iload 4, 2) := by decide +kernel
theorem dX4_go_84 : decode cX4_go 84 = .ok (.iadd, 1) := by decide +kernel
theorem dX4_go_85 : decode cX4_go 85 = .ok (.iaload, 1) := by decide +kernel
theorem dX4_go_86 : decode cX4_go 86 = .ok (.istore 5, 2) := by decide +kernel
theorem dX4_go_88 : decode cX4_go 88 = .ok (.aload_n 0, 1) := by decide +kernel
theorem dX4_go_89 : decode cX4_go 89 = .ok (.getfield 118, 3) := by decide +kernel
theorem dX4_go_92 : decode cX4_go 92 = .ok (.iload 5, 2) := by decide +kernel
theorem dX4_go_94 : decode cX4_go 94 = .ok (.baload, 1) := by decide +kernel
theorem dX4_go_95 : decode cX4_go 95 = .ok (.ifCond .eq 14, 3) := by decide +kernel
theorem dX4_go_98 : decode cX4_go 98 = .ok (.iload 5, 2) := by decide +kernel
theorem dX4_go_100 : decode cX4_go 100 = .ok (.iload_n 3, 1) := by decide +kernel
theorem dX4_go_101 : decode cX4_go 101 = .ok (.if_icmp .ge 8, 3) := by decide +kernel
theorem dX4_go_104 : decode cX4_go 104 = .ok (.iload 5, 2) := by decide +kernel
theorem dX4_go_106 : decode cX4_go 106 = .ok (.goto 4, 3) := by decide +kernel
theorem dX4_go_109 : decode cX4_go 109 = .ok (.iload_n 3, 1) := by decide +kernel
theorem dX4_go_110 : decode cX4_go 110 = .ok (.istore_n 3, 1) := by decide +kernel
theorem dX4_go_111 : decode cX4_go 111 = .ok (.iinc 4 1, 3) := by decide +kernel
theorem dX4_go_114 : decode cX4_go 114 = .ok (.goto (-70), 3) := by decide +kernel
theorem dX4_go_117 : decode cX4_go 117 = .ok (.aload_n 0, 1) := by decide +kernel
theorem dX4_go_118 : decode cX4_go 118 = .ok (.getfield 115, 3) := by decide +kernel
theorem dX4_go_121 : decode cX4_go 121 = .ok (.aload_n 0, 1) := by decide +kernel
theorem dX4_go_122 : decode cX4_go 122 = .ok (.getfield 153, 3) := by decide +kernel
theorem dX4_go_125 : decode cX4_go 125 = .ok (.iload_n 3, 1) := by decide +kernel
theorem dX4_go_126 : decode cX4_go 126 = .ok (.iastore, 1) := by decide +kernel
theorem dX4_go_127 : decode cX4_go 127 = .ok (.aload_n 0, 1) := by decide +kernel
theorem dX4_go_128 : decode cX4_go 128 = .ok (.dup, 1) := by decide +kernel
theorem dX4_go_129 : decode cX4_go 129 = .ok (.getfield 153, 3) := by decide +kernel
theorem dX4_go_132 : decode cX4_go 132 = .ok (.iconst 1, 1) := by decide +kernel
theorem dX4_go_133 : decode cX4_go 133 = .ok (.iadd, 1) := by decide +kernel
theorem dX4_go_134 : decode cX4_go 134 = .ok (.putfield 153, 3) := by decide +kernel
theorem dX4_go_137 : decode cX4_go 137 = .ok (.goto (-118), 3) := by decide +kernel
theorem dX4_go_140 : decode cX4_go 140 = .ok (.return_, 1) := by decide +kernel
theorem dX4_name_0 : decode cX4_name 0 = .ok (.aload_n 0, 1) := by decide +kernel
theorem dX4_name_1 : decode cX4_name 1 = .ok (.iload_n 1, 1) := by decide +kernel
theorem dX4_name_2 : decode cX4_name 2 = .ok (.invokevirtual 146, 3) := by decide +kernel
theorem dX4_name_5 : decode cX4_name 5 = .ok (.ifCond .eq 11, 3) := by decide +kernel
theorem dX4_name_8 : decode cX4_name 8 = .ok (.aload_n 0, 1) := by decide +kernel
theorem dX4_name_9 : decode cX4_name 9 = .ok (.iload_n 2, 1) := by decide +kernel
theorem dX4_name_10 : decode cX4_name 10 = .ok (.invokevirtual 146, 3) := by decide +kernel
theorem dX4_name_13 : decode cX4_name 13 = .ok (.ifCond .ne 5, 3) := by decide +kernel
theorem dX4_name_16 : decode cX4_name 16 = .ok (.iconst (-1), 1) := by decide +kernel
theorem dX4_name_17 : decode cX4_name 17 = .ok (.ireturn, 1) := by decide +kernel
theorem dX4_name_18 : decode cX4_name 18 = .ok (.aload_n 0, 1) := by decide +kernel
theorem dX4_name_19 : decode cX4_name 19 = .ok (.getfield 135, 3) := by decide +kernel
theorem dX4_name_22 : decode cX4_name 22 = .ok (.ifCond .eq 6, 3) := by decide +kernel
theorem dX4_name_25 : decode cX4_name 25 = .ok (.bipush (-2), 2) := by decide +kernel
theorem dX4_name_27 : decode cX4_name 27 = .ok (.ireturn, 1) := by decide +kernel
theorem dX4_name_28 : decode cX4_name 28 = .ok (.aload_n 0, 1) := by decide +kernel
theorem dX4_name_29 : decode cX4_name 29 = .ok (.getfield 39, 3) := by decide +kernel
theorem dX4_name_32 : decode cX4_name 32 = .ok (.iload_n 1, 1) := by decide +kernel
theorem dX4_name_33 : decode cX4_name 33 = .ok (.iaload, 1) := by decide +kernel
theorem dX4_name_34 : decode cX4_name 34 = .ok (.bipush 6, 2) := by decide +kernel
theorem dX4_name_36 : decode cX4_name 36 = .ok (.if_icmp .eq 14, 3) := by decide +kernel
theorem dX4_name_39 : decode cX4_name 39 = .ok (.aload_n 0, 1) := by decide +kernel
theorem dX4_name_40 : decode cX4_name 40 = .ok (.getfield 39, 3) := by decide +kernel
theorem dX4_name_43 : decode cX4_name 43 = .ok (.iload_n 1, 1) := by decide +kernel
theorem dX4_name_44 : decode cX4_name 44 = .ok (.iaload, 1) := by decide +kernel
theorem dX4_name_45 : decode cX4_name 45 = .ok (.bipush 7, 2) := by decide +kernel
theorem dX4_name_47 : decode cX4_name 47 = .ok (.if_icmp .ne 19, 3) := by decide +kernel
theorem dX4_name_50 : decode cX4_name 50 = .ok (.aload_n 0, 1) := by decide +kernel
theorem dX4_name_51 : decode cX4_name 51 = .ok (.iload_n 2, 1) := by decide +kernel
theorem dX4_name_52 : decode cX4_name 52 = .ok (.aload_n 0, 1) := by decide +kernel
theorem dX4_name_53 : decode cX4_name 53 = .ok (.getfield 42, 3) := by decide +kernel
theorem dX4_name_56 : decode cX4_name 56 = .ok (.iconst 4, 1) := by decide +kernel
theorem dX4_name_57 : decode cX4_name 57 = .ok (.iload_n 1, 1) := by decide +kernel
theorem dX4_name_58 : decode cX4_name 58 = .ok (.imul, 1) := by decide +kernel
theorem dX4_name_59 : decode cX4_name 59 = .ok (.iaload, 1) := by decide +kernel
theorem dX4_name_60 : decode cX4_name 60 = .ok (.invokevirtual 127, 3) := by decide +kernel
theorem dX4_name_63 : decode cX4_name 63 = .ok (.ifCond .ge 6, 3) := by decide +kernel
theorem dX4_name_66 : decode cX4_name 66 = .ok (.bipush (-3), 2) := by decide +kernel
theorem dX4_name_68 : decode cX4_name 68 = .ok (.ireturn, 1) := by decide +kernel
theorem dX4_name_69 : decode cX4_name 69 = .ok (.iload_n 2, 1) := by decide +kernel
theorem dX4_name_70 : decode cX4_name 70 = .ok (.iload_n 1, 1) := by decide +kernel
theorem dX4_name_71 : decode cX4_name 71 = .ok (.if_icmp .eq 12, 3) := by decide +kernel
theorem dX4_name_74 : decode cX4_name 74 = .ok (.aload_n 0, 1) := by decide +kernel
theorem dX4_name_75 : decode cX4_name 75 = .ok (.iload_n 1, 1) := by decide +kernel
theorem dX4_name_76 : decode cX4_name 76 = .ok (.iload_n 2, 1) := by decide +kernel
theorem dX4_name_77 : decode cX4_name 77 = .ok (.invokevirtual 156, 3) := by decide +kernel
theorem dX4_name_80 : decode cX4_name 80 = .ok (.ifCond .eq 6, 3) := by decide +kernel
theorem dX4_name_83 : decode cX4_name 83 = .ok (.bipush (-5), 2) := by decide +kernel
theorem dX4_name_85 : decode cX4_name 85 = .ok (.ireturn, 1) := by decide +kernel
theorem dX4_name_86 : decode cX4_name 86 = .ok (.aload_n 0, 1) := by decide +kernel
theorem dX4_name_87 : decode cX4_name 87 = .ok (.getfield 54, 3) := by decide +kernel
theorem dX4_name_90 : decode cX4_name 90 = .ok (.iload_n 1, 1) := by decide +kernel
theorem dX4_name_91 : decode cX4_name 91 = .ok (.iaload, 1) := by decide +kernel
theorem dX4_name_92 : decode cX4_name 92 = .ok (.iconst 4, 1) := by decide +kernel
theorem dX4_name_93 : decode cX4_name 93 = .ok (.if_icmp .ne 6, 3) := by decide +kernel
theorem dX4_name_96 : decode cX4_name 96 = .ok (.bipush (-4), 2) := by decide +kernel
theorem dX4_name_98 : decode cX4_name 98 = .ok (.ireturn, 1) := by decide +kernel
theorem dX4_name_99 : decode cX4_name 99 = .ok (.aload_n 0, 1) := by decide +kernel
theorem dX4_name_100 : decode cX4_name 100 = .ok (.iload_n 1, 1) := by decide +kernel
theorem dX4_name_101 : decode cX4_name 101 = .ok (.invokevirtual 160, 3) := by decide +kernel
theorem dX4_name_104 : decode cX4_name 104 = .ok (.aload_n 0, 1) := by decide +kernel
theorem dX4_name_105 : decode cX4_name 105 = .ok (.getfield 118, 3) := by decide +kernel
theorem dX4_name_108 : decode cX4_name 108 = .ok (.iload_n 2, 1) := by decide +kernel
theorem dX4_name_109 : decode cX4_name 109 = .ok (.baload, 1) := by decide +kernel
theorem dX4_name_110 : decode cX4_name 110 = .ok (.ifCond .eq 12, 3) := by decide +kernel
theorem dX4_name_113 : decode cX4_name 113 = .ok (.aload_n 0, 1) := by decide +kernel
theorem dX4_name_114 : decode cX4_name 114 = .ok (.iload_n 1, 1) := by decide +kernel
theorem dX4_name_115 : decode cX4_name 115 = .ok (.iload_n 2, 1) := by decide +kernel
theorem dX4_name_116 : decode cX4_name 116 = .ok (.invokevirtual 164, 3) := by decide +kernel
theorem dX4_name_119 : decode cX4_name 119 = .ok (.bipush (-6), 2) := by decide +kernel
theorem dX4_name_121 : decode cX4_name 121 = .ok (.ireturn, 1) := by decide +kernel
theorem dX4_name_122 : decode cX4_name 122 = .ok (.aload_n 0, 1) := by decide +kernel
theorem dX4_name_123 : decode cX4_name 123 = .ok (.getfield 51, 3) := by decide +kernel
theorem dX4_name_126 : decode cX4_name 126 = .ok (.iconst 4, 1) := by decide +kernel
theorem dX4_name_127 : decode cX4_name 127 = .ok (.iload_n 1, 1) := by decide +kernel
theorem dX4_name_128 : decode cX4_name 128 = .ok (.imul, 1) := by decide +kernel
theorem dX4_name_129 : decode cX4_name 129 = .ok (.aload_n 0, 1) := by decide +kernel
theorem dX4_name_130 : decode cX4_name 130 = .ok (.getfield 54, 3) := by decide +kernel
theorem dX4_name_133 : decode cX4_name 133 = .ok (.iload_n 1, 1) := by decide +kernel
theorem dX4_name_134 : decode cX4_name 134 = .ok (.iaload, 1) := by decide +kernel
theorem dX4_name_135 : decode cX4_name 135 = .ok (.iadd, 1) := by decide +kernel
theorem dX4_name_136 : decode cX4_name 136 = .ok (.iload_n 2, 1) := by decide +kernel
theorem dX4_name_137 : decode cX4_name 137 = .ok (.iastore, 1) := by decide +kernel
theorem dX4_name_138 : decode cX4_name 138 = .ok (.aload_n 0, 1) := by decide +kernel
theorem dX4_name_139 : decode cX4_name 139 = .ok (.getfield 54, 3) := by decide +kernel
theorem dX4_name_142 : decode cX4_name 142 = .ok (.iload_n 1, 1) := by decide +kernel
theorem dX4_name_143 : decode cX4_name 143 = .ok (.dup2, 1) := by decide +kernel
theorem dX4_name_144 : decode cX4_name 144 = .ok (.iaload, 1) := by decide +kernel
theorem dX4_name_145 : decode cX4_name 145 = .ok (.iconst 1, 1) := by decide +kernel
theorem dX4_name_146 : decode cX4_name 146 = .ok (.iadd, 1) := by decide +kernel
theorem dX4_name_147 : decode cX4_name 147 = .ok (.iastore, 1) := by decide +kernel
theorem dX4_name_148 : decode cX4_name 148 = .ok (.iconst 1, 1) := by decide +kernel
theorem dX4_name_149 : decode cX4_name 149 = .ok (.ireturn, 1) := by decide +kernel
theorem dX4_circle_0 : decode cX4_circle 0 = .ok (.iload_n 1, 1) := by decide +kernel
theorem dX4_circle_1 : decode cX4_circle 1 = .ok (.ifCond .lt 11, 3) := by decide +kernel
theorem dX4_circle_4 : decode cX4_circle 4 = .ok (.iload_n 1, 1) := by decide +kernel
theorem dX4_circle_5 : decode cX4_circle 5 = .ok (.aload_n 0, 1) := by decide +kernel
theorem dX4_circle_6 : decode cX4_circle 6 = .ok (.getfield 153, 3) := by decide +kernel
theorem dX4_circle_9 : decode cX4_circle 9 = .ok (.if_icmp .lt 7, 3) := by decide +kernel
theorem dX4_circle_12 : decode cX4_circle 12 = .ok (.iconst (-1), 1) := by decide +kernel
theorem dX4_circle_13 : decode cX4_circle 13 = .ok (.goto 9, 3) := by decide +kernel
theorem dX4_circle_16 : decode cX4_circle 16 = .ok (.aload_n 0, 1) := by decide +kernel
theorem dX4_circle_17 : decode cX4_circle 17 = .ok (.getfield 115, 3) := by decide +kernel
theorem dX4_circle_20 : decode cX4_circle 20 = .ok (.iload_n 1, 1) := by decide +kernel
theorem dX4_circle_21 : decode cX4_circle 21 = .ok (.iaload, 1) := by decide +kernel
theorem dX4_circle_22 : decode cX4_circle 22 = .ok (.ireturn, 1) := by decide +kernel
theorem dX4_begin_0 : decode cX4_begin 0 = .ok (.aload_n 0, 1) := by decide +kernel
theorem dX4_begin_1 : decode cX4_begin 1 = .ok (.getfield 135, 3) := by decide +kernel
theorem dX4_begin_4 : decode cX4_begin 4 = .ok (.ifCond .eq 6, 3) := by decide +kernel
theorem dX4_begin_7 : decode cX4_begin 7 = .ok (.bipush (-2), 2) := by decide +kernel
theorem dX4_begin_9 : decode cX4_begin 9 = .ok (.ireturn, 1) := by decide +kernel
theorem dX4_begin_10 : decode cX4_begin 10 = .ok (.aload_n 0, 1) := by decide +kernel
theorem dX4_begin_11 : decode cX4_begin 11 = .ok (.iconst 1, 1) := by decide +kernel
theorem dX4_begin_12 : decode cX4_begin 12 = .ok (.putfield 135, 3) := by decide +kernel
theorem dX4_begin_15 : decode cX4_begin 15 = .ok (.iconst 1, 1) := by decide +kernel
theorem dX4_begin_16 : decode cX4_begin 16 = .ok (.ireturn, 1) := by decide +kernel
theorem dX4_made_0 : decode cX4_made 0 = .ok (.aload_n 0, 1) := by decide +kernel
theorem dX4_made_1 : decode cX4_made 1 = .ok (.getfield 139, 3) := by decide +kernel
theorem dX4_made_4 : decode cX4_made 4 = .ok (.ireturn, 1) := by decide +kernel
theorem dX4_slot_0 : decode cX4_slot 0 = .ok (.bipush 64, 2) := by decide +kernel
theorem dX4_slot_2 : decode cX4_slot 2 = .ok (.iload_n 1, 1) := by decide +kernel
theorem dX4_slot_3 : decode cX4_slot 3 = .ok (.imul, 1) := by decide +kernel
theorem dX4_slot_4 : decode cX4_slot 4 = .ok (.iload_n 2, 1) := by decide +kernel
theorem dX4_slot_5 : decode cX4_slot 5 = .ok (.aload_n 0, 1) := by decide +kernel
theorem dX4_slot_6 : decode cX4_slot 6 = .ok (.getfield 7, 3) := by decide +kernel
theorem dX4_slot_9 : decode cX4_slot 9 = .ok (.iload_n 1, 1) := by decide +kernel
theorem dX4_slot_10 : decode cX4_slot 10 = .ok (.iaload, 1) := by decide +kernel
theorem dX4_slot_11 : decode cX4_slot 11 = .ok (.irem, 1) := by decide +kernel
theorem dX4_slot_12 : decode cX4_slot 12 = .ok (.iadd, 1) := by decide +kernel
theorem dX4_slot_13 : decode cX4_slot 13 = .ok (.ireturn, 1) := by decide +kernel
theorem dX4_isKept_0 : decode cX4_isKept 0 = .ok (.aload_n 0, 1) := by decide +kernel
theorem dX4_isKept_1 : decode cX4_isKept 1 = .ok (.getfield 16, 3) := by decide +kernel
theorem dX4_isKept_4 : decode cX4_isKept 4 = .ok (.iload_n 1, 1) := by decide +kernel
theorem dX4_isKept_5 : decode cX4_isKept 5 = .ok (.iaload, 1) := by decide +kernel
theorem dX4_isKept_6 : decode cX4_isKept 6 = .ok (.iconst 2, 1) := by decide +kernel
theorem dX4_isKept_7 : decode cX4_isKept 7 = .ok (.if_icmp .ge 38, 3) := by decide +kernel
theorem dX4_isKept_10 : decode cX4_isKept 10 = .ok (.iload_n 2, 1) := by decide +kernel
theorem dX4_isKept_11 : decode cX4_isKept 11 = .ok (.ifCond .lt 34, 3) := by decide +kernel
theorem dX4_isKept_14 : decode cX4_isKept 14 = .ok (.iload_n 2, 1) := by decide +kernel
theorem dX4_isKept_15 : decode cX4_isKept 15 = .ok (.aload_n 0, 1) := by decide +kernel
theorem dX4_isKept_16 : decode cX4_isKept 16 = .ok (.getfield 13, 3) := by decide +kernel
theorem dX4_isKept_19 : decode cX4_isKept 19 = .ok (.iload_n 1, 1) := by decide +kernel
theorem dX4_isKept_20 : decode cX4_isKept 20 = .ok (.iaload, 1) := by decide +kernel
theorem dX4_isKept_21 : decode cX4_isKept 21 = .ok (.if_icmp .ge 24, 3) := by decide +kernel
theorem dX4_isKept_24 : decode cX4_isKept 24 = .ok (.iload_n 2, 1) := by decide +kernel
theorem dX4_isKept_25 : decode cX4_isKept 25 = .ok (.aload_n 0, 1) := by decide +kernel
theorem dX4_isKept_26 : decode cX4_isKept 26 = .ok (.getfield 13, 3) := by decide +kernel
theorem dX4_isKept_29 : decode cX4_isKept 29 = .ok (.iload_n 1, 1) := by decide +kernel
theorem dX4_isKept_30 : decode cX4_isKept 30 = .ok (.iaload, 1) := by decide +kernel
theorem dX4_isKept_31 : decode cX4_isKept 31 = .ok (.aload_n 0, 1) := by decide +kernel
theorem dX4_isKept_32 : decode cX4_isKept 32 = .ok (.getfield 7, 3) := by decide +kernel
theorem dX4_isKept_35 : decode cX4_isKept 35 = .ok (.iload_n 1, 1) := by decide +kernel
theorem dX4_isKept_36 : decode cX4_isKept 36 = .ok (.iaload, 1) := by decide +kernel
theorem dX4_isKept_37 : decode cX4_isKept 37 = .ok (.isub, 1) := by decide +kernel
theorem dX4_isKept_38 : decode cX4_isKept 38 = .ok (.if_icmp .lt 7, 3) := by decide +kernel
theorem dX4_isKept_41 : decode cX4_isKept 41 = .ok (.iconst 1, 1) := by decide +kernel
theorem dX4_isKept_42 : decode cX4_isKept 42 = .ok (.goto 4, 3) := by decide +kernel
theorem dX4_isKept_45 : decode cX4_isKept 45 = .ok (.iconst 0, 1) := by decide +kernel
theorem dX4_isKept_46 : decode cX4_isKept 46 = .ok (.ireturn, 1) := by decide +kernel
theorem dX4_isOpen_0 : decode cX4_isOpen 0 = .ok (.aload_n 0, 1) := by decide +kernel
theorem dX4_isOpen_1 : decode cX4_isOpen 1 = .ok (.iload_n 1, 1) := by decide +kernel
theorem dX4_isOpen_2 : decode cX4_isOpen 2 = .ok (.iload_n 2, 1) := by decide +kernel
theorem dX4_isOpen_3 : decode cX4_isOpen 3 = .ok (.invokevirtual 168, 3) := by decide +kernel
theorem dX4_isOpen_6 : decode cX4_isOpen 6 = .ok (.ifCond .eq 21, 3) := by decide +kernel
theorem dX4_isOpen_9 : decode cX4_isOpen 9 = .ok (.aload_n 0, 1) := by decide +kernel
theorem dX4_isOpen_10 : decode cX4_isOpen 10 = .ok (.getfield 23, 3) := by decide +kernel
theorem dX4_isOpen_13 : decode cX4_isOpen 13 = .ok (.aload_n 0, 1) := by decide +kernel
theorem dX4_isOpen_14 : decode cX4_isOpen 14 = .ok (.iload_n 1, 1) := by decide +kernel
theorem dX4_isOpen_15 : decode cX4_isOpen 15 = .ok (.iload_n 2, 1) := by decide +kernel
theorem dX4_isOpen_16 : decode cX4_isOpen 16 = .ok (.invokevirtual 171, 3) := by decide +kernel
theorem dX4_isOpen_19 : decode cX4_isOpen 19 = .ok (.baload, 1) := by decide +kernel
theorem dX4_isOpen_20 : decode cX4_isOpen 20 = .ok (.ifCond .eq 7, 3) := by decide +kernel
theorem dX4_isOpen_23 : decode cX4_isOpen 23 = .ok (.iconst 1, 1) := by decide +kernel
theorem dX4_isOpen_24 : decode cX4_isOpen 24 = .ok (.goto 4, 3) := by decide +kernel
theorem dX4_isOpen_27 : decode cX4_isOpen 27 = .ok (.iconst 0, 1) := by decide +kernel
theorem dX4_isOpen_28 : decode cX4_isOpen 28 = .ok (.ireturn, 1) := by decide +kernel
theorem dX4_isPublished_0 : decode cX4_isPublished 0 = .ok (.aload_n 0, 1) := by decide +kernel
theorem dX4_isPublished_1 : decode cX4_isPublished 1 = .ok (.iload_n 1, 1) := by decide +kernel
theorem dX4_isPublished_2 : decode cX4_isPublished 2 = .ok (.iload_n 2, 1) := by decide +kernel
theorem dX4_isPublished_3 : decode cX4_isPublished 3 = .ok (.invokevirtual 168, 3) := by decide +kernel
theorem dX4_isPublished_6 : decode cX4_isPublished 6 = .ok (.ifCond .eq 21, 3) := by decide +kernel
theorem dX4_isPublished_9 : decode cX4_isPublished 9 = .ok (.aload_n 0, 1) := by decide +kernel
theorem dX4_isPublished_10 : decode cX4_isPublished 10 = .ok (.getfield 23, 3) := by decide +kernel
theorem dX4_isPublished_13 : decode cX4_isPublished 13 = .ok (.aload_n 0, 1) := by decide +kernel
theorem dX4_isPublished_14 : decode cX4_isPublished 14 = .ok (.iload_n 1, 1) := by decide +kernel
theorem dX4_isPublished_15 : decode cX4_isPublished 15 = .ok (.iload_n 2, 1) := by decide +kernel
theorem dX4_isPublished_16 : decode cX4_isPublished 16 = .ok (.invokevirtual 171, 3) := by decide +kernel
theorem dX4_isPublished_19 : decode cX4_isPublished 19 = .ok (.baload, 1) := by decide +kernel
theorem dX4_isPublished_20 : decode cX4_isPublished 20 = .ok (.ifCond .ne 7, 3) := by decide +kernel
theorem dX4_isPublished_23 : decode cX4_isPublished 23 = .ok (.iconst 1, 1) := by decide +kernel
theorem dX4_isPublished_24 : decode cX4_isPublished 24 = .ok (.goto 4, 3) := by decide +kernel
theorem dX4_isPublished_27 : decode cX4_isPublished 27 = .ok (.iconst 0, 1) := by decide +kernel
theorem dX4_isPublished_28 : decode cX4_isPublished 28 = .ok (.ireturn, 1) := by decide +kernel
theorem dX4_isHolder_0 : decode cX4_isHolder 0 = .ok (.aload_n 0, 1) := by decide +kernel
theorem dX4_isHolder_1 : decode cX4_isHolder 1 = .ok (.getfield 39, 3) := by decide +kernel
theorem dX4_isHolder_4 : decode cX4_isHolder 4 = .ok (.iload_n 1, 1) := by decide +kernel
theorem dX4_isHolder_5 : decode cX4_isHolder 5 = .ok (.iaload, 1) := by decide +kernel
theorem dX4_isHolder_6 : decode cX4_isHolder 6 = .ok (.istore_n 3, 1) := by decide +kernel
theorem dX4_isHolder_7 : decode cX4_isHolder 7 = .ok (.iload_n 3, 1) := by decide +kernel
theorem dX4_isHolder_8 : decode cX4_isHolder 8 = .ok (.iconst 2, 1) := by decide +kernel
theorem dX4_isHolder_9 : decode cX4_isHolder 9 = .ok (.if_icmp .eq 20, 3) := by decide +kernel
theorem dX4_isHolder_12 : decode cX4_isHolder 12 = .ok (.iload_n 3, 1) := by decide +kernel
theorem dX4_isHolder_13 : decode cX4_isHolder 13 = .ok (.bipush 6, 2) := by decide +kernel
theorem dX4_isHolder_15 : decode cX4_isHolder 15 = .ok (.if_icmp .eq 14, 3) := by decide +kernel
theorem dX4_isHolder_18 : decode cX4_isHolder 18 = .ok (.iload_n 3, 1) := by decide +kernel
theorem dX4_isHolder_19 : decode cX4_isHolder 19 = .ok (.bipush 7, 2) := by decide +kernel
theorem dX4_isHolder_21 : decode cX4_isHolder 21 = .ok (.if_icmp .eq 8, 3) := by decide +kernel
theorem dX4_isHolder_24 : decode cX4_isHolder 24 = .ok (.iload_n 3, 1) := by decide +kernel
theorem dX4_isHolder_25 : decode cX4_isHolder 25 = .ok (.iconst 5, 1) := by decide +kernel
theorem dX4_isHolder_26 : decode cX4_isHolder 26 = .ok (.if_icmp .ne 16, 3) := by decide +kernel
theorem dX4_isHolder_29 : decode cX4_isHolder 29 = .ok (.aload_n 0, 1) := by decide +kernel
theorem dX4_isHolder_30 : decode cX4_isHolder 30 = .ok (.iload_n 1, 1) := by decide +kernel
theorem dX4_isHolder_31 : decode cX4_isHolder 31 = .ok (.iload_n 2, 1) := by decide +kernel
theorem dX4_isHolder_32 : decode cX4_isHolder 32 = .ok (.invokevirtual 127, 3) := by decide +kernel
theorem dX4_isHolder_35 : decode cX4_isHolder 35 = .ok (.ifCond .lt 7, 3) := by decide +kernel
theorem dX4_isHolder_38 : decode cX4_isHolder 38 = .ok (.iconst 1, 1) := by decide +kernel
theorem dX4_isHolder_39 : decode cX4_isHolder 39 = .ok (.goto 4, 3) := by decide +kernel
theorem dX4_isHolder_42 : decode cX4_isHolder 42 = .ok (.iconst 0, 1) := by decide +kernel
theorem dX4_isHolder_43 : decode cX4_isHolder 43 = .ok (.ireturn, 1) := by decide +kernel
theorem dX4_holderOf_0 : decode cX4_holderOf 0 = .ok (.iconst (-1), 1) := by decide +kernel
theorem dX4_holderOf_1 : decode cX4_holderOf 1 = .ok (.istore_n 3, 1) := by decide +kernel
theorem dX4_holderOf_2 : decode cX4_holderOf 2 = .ok (.aload_n 0, 1) := by decide +kernel
theorem dX4_holderOf_3 : decode cX4_holderOf 3 = .ok (.getfield 124, 3) := by decide +kernel
theorem dX4_holderOf_6 : decode cX4_holderOf 6 = .ok (.iconst 1, 1) := by decide +kernel
theorem dX4_holderOf_7 : decode cX4_holderOf 7 = .ok (.isub, 1) := by decide +kernel
theorem dX4_holderOf_8 : decode cX4_holderOf 8 = .ok (.istore 4, 2) := by decide +kernel
theorem dX4_holderOf_10 : decode cX4_holderOf 10 = .ok (.iload 4, 2) := by decide +kernel
theorem dX4_holderOf_12 : decode cX4_holderOf 12 = .ok (.ifCond .lt 44, 3) := by decide +kernel
theorem dX4_holderOf_15 : decode cX4_holderOf 15 = .ok (.aload_n 0, 1) := by decide +kernel
theorem dX4_holderOf_16 : decode cX4_holderOf 16 = .ok (.iload 4, 2) := by decide +kernel
theorem dX4_holderOf_18 : decode cX4_holderOf 18 = .ok (.iload_n 1, 1) := by decide +kernel
theorem dX4_holderOf_19 : decode cX4_holderOf 19 = .ok (.invokevirtual 174, 3) := by decide +kernel
theorem dX4_holderOf_22 : decode cX4_holderOf 22 = .ok (.ifCond .eq 26, 3) := by decide +kernel
theorem dX4_holderOf_25 : decode cX4_holderOf 25 = .ok (.aload_n 0, 1) := by decide +kernel
theorem dX4_holderOf_26 : decode cX4_holderOf 26 = .ok (.iload 4, 2) := by decide +kernel
theorem dX4_holderOf_28 : decode cX4_holderOf 28 = .ok (.iload_n 1, 1) := by decide +kernel
theorem dX4_holderOf_29 : decode cX4_holderOf 29 = .ok (.invokevirtual 177, 3) := by decide +kernel
theorem dX4_holderOf_32 : decode cX4_holderOf 32 = .ok (.iload_n 2, 1) := by decide +kernel
theorem dX4_holderOf_33 : decode cX4_holderOf 33 = .ok (.aload_n 0, 1) := by decide +kernel
theorem dX4_holderOf_34 : decode cX4_holderOf 34 = .ok (.getfield 7, 3) := by decide +kernel
theorem dX4_holderOf_37 : decode cX4_holderOf 37 = .ok (.iload_n 1, 1) := by decide +kernel
theorem dX4_holderOf_38 : decode cX4_holderOf 38 = .ok (.iaload, 1) := by decide +kernel
theorem dX4_holderOf_39 : decode cX4_holderOf 39 = .ok (.isub, 1) := by decide +kernel
theorem dX4_holderOf_40 : decode cX4_holderOf 40 = .ok (.if_icmp .gt 8, 3) := by decide +kernel
theorem dX4_holderOf_43 : decode cX4_holderOf 43 = .ok (.iload 4, 2) := by decide +kernel
theorem dX4_holderOf_45 : decode cX4_holderOf 45 = .ok (.goto 4, 3) := by decide +kernel
theorem dX4_holderOf_48 : decode cX4_holderOf 48 = .ok (.iload_n 3, 1) := by decide +kernel
theorem dX4_holderOf_49 : decode cX4_holderOf 49 = .ok (.istore_n 3, 1) := by decide +kernel
theorem dX4_holderOf_50 : decode cX4_holderOf 50 = .ok (.iinc 4 (-1), 3) := by decide +kernel
theorem dX4_holderOf_53 : decode cX4_holderOf 53 = .ok (.goto (-43), 3) := by decide +kernel
theorem dX4_holderOf_56 : decode cX4_holderOf 56 = .ok (.iload_n 3, 1) := by decide +kernel
theorem dX4_holderOf_57 : decode cX4_holderOf 57 = .ok (.ireturn, 1) := by decide +kernel
theorem dX4_isHeld_0 : decode cX4_isHeld 0 = .ok (.aload_n 0, 1) := by decide +kernel
theorem dX4_isHeld_1 : decode cX4_isHeld 1 = .ok (.iload_n 1, 1) := by decide +kernel
theorem dX4_isHeld_2 : decode cX4_isHeld 2 = .ok (.iload_n 2, 1) := by decide +kernel
theorem dX4_isHeld_3 : decode cX4_isHeld 3 = .ok (.aload_n 0, 1) := by decide +kernel
theorem dX4_isHeld_4 : decode cX4_isHeld 4 = .ok (.getfield 7, 3) := by decide +kernel
theorem dX4_isHeld_7 : decode cX4_isHeld 7 = .ok (.iload_n 1, 1) := by decide +kernel
theorem dX4_isHeld_8 : decode cX4_isHeld 8 = .ok (.iaload, 1) := by decide +kernel
theorem dX4_isHeld_9 : decode cX4_isHeld 9 = .ok (.isub, 1) := by decide +kernel
theorem dX4_isHeld_10 : decode cX4_isHeld 10 = .ok (.invokevirtual 180, 3) := by decide +kernel
theorem dX4_isHeld_13 : decode cX4_isHeld 13 = .ok (.ifCond .ne 12, 3) := by decide +kernel
theorem dX4_isHeld_16 : decode cX4_isHeld 16 = .ok (.aload_n 0, 1) := by decide +kernel
theorem dX4_isHeld_17 : decode cX4_isHeld 17 = .ok (.iload_n 1, 1) := by decide +kernel
theorem dX4_isHeld_18 : decode cX4_isHeld 18 = .ok (.iload_n 2, 1) := by decide +kernel
theorem dX4_isHeld_19 : decode cX4_isHeld 19 = .ok (.invokevirtual 183, 3) := by decide +kernel
theorem dX4_isHeld_22 : decode cX4_isHeld 22 = .ok (.ifCond .lt 7, 3) := by decide +kernel
theorem dX4_isHeld_25 : decode cX4_isHeld 25 = .ok (.iconst 1, 1) := by decide +kernel
theorem dX4_isHeld_26 : decode cX4_isHeld 26 = .ok (.goto 4, 3) := by decide +kernel
theorem dX4_isHeld_29 : decode cX4_isHeld 29 = .ok (.iconst 0, 1) := by decide +kernel
theorem dX4_isHeld_30 : decode cX4_isHeld 30 = .ok (.ireturn, 1) := by decide +kernel
theorem dX4_isHeldUp_0 : decode cX4_isHeldUp 0 = .ok (.aload_n 0, 1) := by decide +kernel
theorem dX4_isHeldUp_1 : decode cX4_isHeldUp 1 = .ok (.iload_n 1, 1) := by decide +kernel
theorem dX4_isHeldUp_2 : decode cX4_isHeldUp 2 = .ok (.aload_n 0, 1) := by decide +kernel
theorem dX4_isHeldUp_3 : decode cX4_isHeldUp 3 = .ok (.getfield 13, 3) := by decide +kernel
theorem dX4_isHeldUp_6 : decode cX4_isHeldUp 6 = .ok (.iload_n 1, 1) := by decide +kernel
theorem dX4_isHeldUp_7 : decode cX4_isHeldUp 7 = .ok (.iaload, 1) := by decide +kernel
theorem dX4_isHeldUp_8 : decode cX4_isHeldUp 8 = .ok (.invokevirtual 186, 3) := by decide +kernel
theorem dX4_isHeldUp_11 : decode cX4_isHeldUp 11 = .ok (.ireturn, 1) := by decide +kernel
theorem dX4_make_0 : decode cX4_make 0 = .ok (.aload_n 0, 1) := by decide +kernel
theorem dX4_make_1 : decode cX4_make 1 = .ok (.iload_n 1, 1) := by decide +kernel
theorem dX4_make_2 : decode cX4_make 2 = .ok (.aload_n 0, 1) := by decide +kernel
theorem dX4_make_3 : decode cX4_make 3 = .ok (.getfield 13, 3) := by decide +kernel
theorem dX4_make_6 : decode cX4_make 6 = .ok (.iload_n 1, 1) := by decide +kernel
theorem dX4_make_7 : decode cX4_make 7 = .ok (.iaload, 1) := by decide +kernel
theorem dX4_make_8 : decode cX4_make 8 = .ok (.invokevirtual 171, 3) := by decide +kernel
theorem dX4_make_11 : decode cX4_make 11 = .ok (.istore 4, 2) := by decide +kernel
theorem dX4_make_13 : decode cX4_make 13 = .ok (.aload_n 0, 1) := by decide +kernel
theorem dX4_make_14 : decode cX4_make 14 = .ok (.getfield 23, 3) := by decide +kernel
theorem dX4_make_17 : decode cX4_make 17 = .ok (.iload 4, 2) := by decide +kernel
theorem dX4_make_19 : decode cX4_make 19 = .ok (.iconst 1, 1) := by decide +kernel
theorem dX4_make_20 : decode cX4_make 20 = .ok (.bastore, 1) := by decide +kernel
theorem dX4_make_21 : decode cX4_make 21 = .ok (.aload_n 0, 1) := by decide +kernel
theorem dX4_make_22 : decode cX4_make 22 = .ok (.getfield 27, 3) := by decide +kernel
theorem dX4_make_25 : decode cX4_make 25 = .ok (.iload 4, 2) := by decide +kernel
theorem dX4_make_27 : decode cX4_make 27 = .ok (.lload_n 2, 1) := by decide +kernel
theorem dX4_make_28 : decode cX4_make 28 = .ok (.lastore, 1) := by decide +kernel
theorem dX4_make_29 : decode cX4_make 29 = .ok (.aload_n 0, 1) := by decide +kernel
theorem dX4_make_30 : decode cX4_make 30 = .ok (.getfield 30, 3) := by decide +kernel
theorem dX4_make_33 : decode cX4_make 33 = .ok (.iload 4, 2) := by decide +kernel
theorem dX4_make_35 : decode cX4_make 35 = .ok (.iconst 0, 1) := by decide +kernel
theorem dX4_make_36 : decode cX4_make 36 = .ok (.iastore, 1) := by decide +kernel
theorem dX4_make_37 : decode cX4_make 37 = .ok (.aload_n 0, 1) := by decide +kernel
theorem dX4_make_38 : decode cX4_make 38 = .ok (.getfield 33, 3) := by decide +kernel
theorem dX4_make_41 : decode cX4_make 41 = .ok (.iload 4, 2) := by decide +kernel
theorem dX4_make_43 : decode cX4_make 43 = .ok (.iconst 0, 1) := by decide +kernel
theorem dX4_make_44 : decode cX4_make 44 = .ok (.iastore, 1) := by decide +kernel
theorem dX4_make_45 : decode cX4_make 45 = .ok (.iconst 0, 1) := by decide +kernel
theorem dX4_make_46 : decode cX4_make 46 = .ok (.istore 5, 2) := by decide +kernel
theorem dX4_make_48 : decode cX4_make 48 = .ok (.iload 5, 2) := by decide +kernel
theorem dX4_make_50 : decode cX4_make 50 = .ok (.bipush 8, 2) := by decide +kernel
theorem dX4_make_52 : decode cX4_make 52 = .ok (.if_icmp .ge 23, 3) := by decide +kernel
theorem dX4_make_55 : decode cX4_make 55 = .ok (.aload_n 0, 1) := by decide +kernel
theorem dX4_make_56 : decode cX4_make 56 = .ok (.getfield 36, 3) := by decide +kernel
theorem dX4_make_59 : decode cX4_make 59 = .ok (.bipush 8, 2) := by decide +kernel
theorem dX4_make_61 : decode cX4_make 61 = .ok (.iload 4, 2) := by decide +kernel
theorem dX4_make_63 : decode cX4_make 63 = .ok (.imul, 1) := by decide +kernel
theorem dX4_make_64 : decode cX4_make 64 = .ok (.iload 5, 2) := by decide +kernel
theorem dX4_make_66 : decode cX4_make 66 = .ok (.iadd, 1) := by decide +kernel
theorem dX4_make_67 : decode cX4_make 67 = .ok (.lconst 0, 1) := by decide +kernel
theorem dX4_make_68 : decode cX4_make 68 = .ok (.lastore, 1) := by decide +kernel
theorem dX4_make_69 : decode cX4_make 69 = .ok (.iinc 5 1, 3) := by decide +kernel
theorem dX4_make_72 : decode cX4_make 72 = .ok (.goto (-24), 3) := by decide +kernel
theorem dX4_make_75 : decode cX4_make 75 = .ok (.aload_n 0, 1) := by decide +kernel
theorem dX4_make_76 : decode cX4_make 76 = .ok (.getfield 13, 3) := by decide +kernel
theorem dX4_make_79 : decode cX4_make 79 = .ok (.iload_n 1, 1) := by decide +kernel
theorem dX4_make_80 : decode cX4_make 80 = .ok (.dup2, 1) := by decide +kernel
theorem dX4_make_81 : decode cX4_make 81 = .ok (.iaload, 1) := by decide +kernel
theorem dX4_make_82 : decode cX4_make 82 = .ok (.iconst 1, 1) := by decide +kernel
theorem dX4_make_83 : decode cX4_make 83 = .ok (.iadd, 1) := by decide +kernel
theorem dX4_make_84 : decode cX4_make 84 = .ok (.iastore, 1) := by decide +kernel
theorem dX4_make_85 : decode cX4_make 85 = .ok (.aload_n 0, 1) := by decide +kernel
theorem dX4_make_86 : decode cX4_make 86 = .ok (.getfield 19, 3) := by decide +kernel
theorem dX4_make_89 : decode cX4_make 89 = .ok (.iload_n 1, 1) := by decide +kernel
theorem dX4_make_90 : decode cX4_make 90 = .ok (.lload_n 2, 1) := by decide +kernel
theorem dX4_make_91 : decode cX4_make 91 = .ok (.lastore, 1) := by decide +kernel
theorem dX4_make_92 : decode cX4_make 92 = .ok (.return_, 1) := by decide +kernel
theorem dX4_hinders_0 : decode cX4_hinders 0 = .ok (.aload_n 0, 1) := by decide +kernel
theorem dX4_hinders_1 : decode cX4_hinders 1 = .ok (.iload_n 1, 1) := by decide +kernel
theorem dX4_hinders_2 : decode cX4_hinders 2 = .ok (.invokevirtual 142, 3) := by decide +kernel
theorem dX4_hinders_5 : decode cX4_hinders 5 = .ok (.ifCond .eq 20, 3) := by decide +kernel
theorem dX4_hinders_8 : decode cX4_hinders 8 = .ok (.iload 4, 2) := by decide +kernel
theorem dX4_hinders_10 : decode cX4_hinders 10 = .ok (.iconst 1, 1) := by decide +kernel
theorem dX4_hinders_11 : decode cX4_hinders 11 = .ok (.if_icmp .lt 14, 3) := by decide +kernel
theorem dX4_hinders_14 : decode cX4_hinders 14 = .ok (.iload 4, 2) := by decide +kernel
theorem dX4_hinders_16 : decode cX4_hinders 16 = .ok (.aload_n 0, 1) := by decide +kernel
theorem dX4_hinders_17 : decode cX4_hinders 17 = .ok (.getfield 7, 3) := by decide +kernel
theorem dX4_hinders_20 : decode cX4_hinders 20 = .ok (.iload_n 1, 1) := by decide +kernel
theorem dX4_hinders_21 : decode cX4_hinders 21 = .ok (.iaload, 1) := by decide +kernel
theorem dX4_hinders_22 : decode cX4_hinders 22 = .ok (.if_icmp .le 5, 3) := by decide +kernel
theorem dX4_hinders_25 : decode cX4_hinders 25 = .ok (.iconst (-1), 1) := by decide +kernel
theorem dX4_hinders_26 : decode cX4_hinders 26 = .ok (.ireturn, 1) := by decide +kernel
theorem dX4_hinders_27 : decode cX4_hinders 27 = .ok (.aload_n 0, 1) := by decide +kernel
theorem dX4_hinders_28 : decode cX4_hinders 28 = .ok (.getfield 135, 3) := by decide +kernel
theorem dX4_hinders_31 : decode cX4_hinders 31 = .ok (.ifCond .ne 6, 3) := by decide +kernel
theorem dX4_hinders_34 : decode cX4_hinders 34 = .ok (.bipush (-2), 2) := by decide +kernel
theorem dX4_hinders_36 : decode cX4_hinders 36 = .ok (.ireturn, 1) := by decide +kernel
theorem dX4_hinders_37 : decode cX4_hinders 37 = .ok (.aload_n 0, 1) := by decide +kernel
theorem dX4_hinders_38 : decode cX4_hinders 38 = .ok (.getfield 16, 3) := by decide +kernel
theorem dX4_hinders_41 : decode cX4_hinders 41 = .ok (.iload_n 1, 1) := by decide +kernel
theorem dX4_hinders_42 : decode cX4_hinders 42 = .ok (.iaload, 1) := by decide +kernel
theorem dX4_hinders_43 : decode cX4_hinders 43 = .ok (.iconst 2, 1) := by decide +kernel
theorem dX4_hinders_44 : decode cX4_hinders 44 = .ok (.if_icmp .ne 6, 3) := by decide +kernel
theorem dX4_hinders_47 : decode cX4_hinders 47 = .ok (.bipush (-7), 2) := by decide +kernel
theorem dX4_hinders_49 : decode cX4_hinders 49 = .ok (.ireturn, 1) := by decide +kernel
theorem dX4_hinders_50 : decode cX4_hinders 50 = .ok (.aload_n 0, 1) := by decide +kernel
theorem dX4_hinders_51 : decode cX4_hinders 51 = .ok (.getfield 16, 3) := by decide +kernel
theorem dX4_hinders_54 : decode cX4_hinders 54 = .ok (.iload_n 1, 1) := by decide +kernel
theorem dX4_hinders_55 : decode cX4_hinders 55 = .ok (.iaload, 1) := by decide +kernel
theorem dX4_hinders_56 : decode cX4_hinders 56 = .ok (.iconst 1, 1) := by decide +kernel
theorem dX4_hinders_57 : decode cX4_hinders 57 = .ok (.if_icmp .ne 6, 3) := by decide +kernel
theorem dX4_hinders_60 : decode cX4_hinders 60 = .ok (.bipush (-8), 2) := by decide +kernel
theorem dX4_hinders_62 : decode cX4_hinders 62 = .ok (.ireturn, 1) := by decide +kernel
theorem dX4_hinders_63 : decode cX4_hinders 63 = .ok (.aload_n 0, 1) := by decide +kernel
theorem dX4_hinders_64 : decode cX4_hinders 64 = .ok (.getfield 13, 3) := by decide +kernel
theorem dX4_hinders_67 : decode cX4_hinders 67 = .ok (.iload_n 1, 1) := by decide +kernel
theorem dX4_hinders_68 : decode cX4_hinders 68 = .ok (.iaload, 1) := by decide +kernel
theorem dX4_hinders_69 : decode cX4_hinders 69 = .ok (.ifCond .le 17, 3) := by decide +kernel
theorem dX4_hinders_72 : decode cX4_hinders 72 = .ok (.lload_n 2, 1) := by decide +kernel
theorem dX4_hinders_73 : decode cX4_hinders 73 = .ok (.aload_n 0, 1) := by decide +kernel
theorem dX4_hinders_74 : decode cX4_hinders 74 = .ok (.getfield 19, 3) := by decide +kernel
theorem dX4_hinders_77 : decode cX4_hinders 77 = .ok (.iload_n 1, 1) := by decide +kernel
theorem dX4_hinders_78 : decode cX4_hinders 78 = .ok (.laload, 1) := by decide +kernel
theorem dX4_hinders_79 : decode cX4_hinders 79 = .ok (.lcmp, 1) := by decide +kernel
theorem dX4_hinders_80 : decode cX4_hinders 80 = .ok (.ifCond .ge 6, 3) := by decide +kernel
theorem dX4_hinders_83 : decode cX4_hinders 83 = .ok (.bipush (-9), 2) := by decide +kernel
theorem dX4_hinders_85 : decode cX4_hinders 85 = .ok (.ireturn, 1) := by decide +kernel
theorem dX4_hinders_86 : decode cX4_hinders 86 = .ok (.iconst 0, 1) := by decide +kernel
theorem dX4_hinders_87 : decode cX4_hinders 87 = .ok (.istore 5, 2) := by decide +kernel
theorem dX4_hinders_89 : decode cX4_hinders 89 = .ok (.iload 5, 2) := by decide +kernel
theorem dX4_hinders_91 : decode cX4_hinders 91 = .ok (.iload 4, 2) := by decide +kernel
theorem dX4_hinders_93 : decode cX4_hinders 93 = .ok (.if_icmp .ge 44, 3) := by decide +kernel
theorem dX4_hinders_96 : decode cX4_hinders 96 = .ok (.aload_n 0, 1) := by decide +kernel
theorem dX4_hinders_97 : decode cX4_hinders 97 = .ok (.getfield 13, 3) := by decide +kernel
theorem dX4_hinders_100 : decode cX4_hinders 100 = .ok (.iload_n 1, 1) := by decide +kernel
theorem dX4_hinders_101 : decode cX4_hinders 101 = .ok (.iaload, 1) := by decide +kernel
theorem dX4_hinders_102 : decode cX4_hinders 102 = .ok (.iload 5, 2) := by decide +kernel
theorem dX4_hinders_104 : decode cX4_hinders 104 = .ok (.iadd, 1) := by decide +kernel
theorem dX4_hinders_105 : decode cX4_hinders 105 = .ok (.istore 6, 2) := by decide +kernel
theorem dX4_hinders_107 : decode cX4_hinders 107 = .ok (.aload_n 0, 1) := by decide +kernel
theorem dX4_hinders_108 : decode cX4_hinders 108 = .ok (.iload_n 1, 1) := by decide +kernel
theorem dX4_hinders_109 : decode cX4_hinders 109 = .ok (.iload 6, 2) := by decide +kernel
theorem dX4_hinders_111 : decode cX4_hinders 111 = .ok (.invokevirtual 186, 3) := by decide +kernel
theorem dX4_hinders_114 : decode cX4_hinders 114 = .ok (.ifCond .eq 17, 3) := by decide +kernel
theorem dX4_hinders_117 : decode cX4_hinders 117 = .ok (.aload_n 0, 1) := by decide +kernel
theorem dX4_hinders_118 : decode cX4_hinders 118 = .ok (.aload_n 0, 1) := by decide +kernel
theorem dX4_hinders_119 : decode cX4_hinders 119 = .ok (.iload_n 1, 1) := by decide +kernel
theorem dX4_hinders_120 : decode cX4_hinders 120 = .ok (.iload 6, 2) := by decide +kernel
theorem dX4_hinders_122 : decode cX4_hinders 122 = .ok (.invokevirtual 183, 3) := by decide +kernel
theorem dX4_hinders_125 : decode cX4_hinders 125 = .ok (.putfield 108, 3) := by decide +kernel
theorem dX4_hinders_128 : decode cX4_hinders 128 = .ok (.bipush (-10), 2) := by decide +kernel
theorem dX4_hinders_130 : decode cX4_hinders 130 = .ok (.ireturn, 1) := by decide +kernel
theorem dX4_hinders_131 : decode cX4_hinders 131 = .ok (.iinc 5 1, 3) := by decide +kernel
theorem dX4_hinders_134 : decode cX4_hinders 134 = .ok (.goto (-45), 3) := by decide +kernel
theorem dX4_hinders_137 : decode cX4_hinders 137 = .ok (.iconst 0, 1) := by decide +kernel
theorem dX4_hinders_138 : decode cX4_hinders 138 = .ok (.ireturn, 1) := by decide +kernel
theorem dX4_makeAll_0 : decode cX4_makeAll 0 = .ok (.aload_n 0, 1) := by decide +kernel
theorem dX4_makeAll_1 : decode cX4_makeAll 1 = .ok (.iload_n 1, 1) := by decide +kernel
theorem dX4_makeAll_2 : decode cX4_makeAll 2 = .ok (.lload_n 2, 1) := by decide +kernel
theorem dX4_makeAll_3 : decode cX4_makeAll 3 = .ok (.iload 4, 2) := by decide +kernel
theorem dX4_makeAll_5 : decode cX4_makeAll 5 = .ok (.invokevirtual 189, 3) := by decide +kernel
theorem dX4_makeAll_8 : decode cX4_makeAll 8 = .ok (.istore 5, 2) := by decide +kernel
theorem dX4_makeAll_10 : decode cX4_makeAll 10 = .ok (.iload 5, 2) := by decide +kernel
theorem dX4_makeAll_12 : decode cX4_makeAll 12 = .ok (.ifCond .ge 12, 3) := by decide +kernel
theorem dX4_makeAll_15 : decode cX4_makeAll 15 = .ok (.aload_n 0, 1) := by decide +kernel
theorem dX4_makeAll_16 : decode cX4_makeAll 16 = .ok (.iload 5, 2) := by decide +kernel
theorem dX4_makeAll_18 : decode cX4_makeAll 18 = .ok (.putfield 193, 3) := by decide +kernel
theorem dX4_makeAll_21 : decode cX4_makeAll 21 = .ok (.iload 5, 2) := by decide +kernel
theorem dX4_makeAll_23 : decode cX4_makeAll 23 = .ok (.ireturn, 1) := by decide +kernel
theorem dX4_makeAll_24 : decode cX4_makeAll 24 = .ok (.aload_n 0, 1) := by decide +kernel
theorem dX4_makeAll_25 : decode cX4_makeAll 25 = .ok (.getfield 13, 3) := by decide +kernel
theorem dX4_makeAll_28 : decode cX4_makeAll 28 = .ok (.iload_n 1, 1) := by decide +kernel
theorem dX4_makeAll_29 : decode cX4_makeAll 29 = .ok (.iaload, 1) := by decide +kernel
theorem dX4_makeAll_30 : decode cX4_makeAll 30 = .ok (.istore 6, 2) := by decide +kernel
theorem dX4_makeAll_32 : decode cX4_makeAll 32 = .ok (.iconst 0, 1) := by decide +kernel
theorem dX4_makeAll_33 : decode cX4_makeAll 33 = .ok (.istore 7, 2) := by decide +kernel
theorem dX4_makeAll_35 : decode cX4_makeAll 35 = .ok (.iload 7, 2) := by decide +kernel
theorem dX4_makeAll_37 : decode cX4_makeAll 37 = .ok (.iload 4, 2) := by decide +kernel
theorem dX4_makeAll_39 : decode cX4_makeAll 39 = .ok (.if_icmp .ge 15, 3) := by decide +kernel
theorem dX4_makeAll_42 : decode cX4_makeAll 42 = .ok (.aload_n 0, 1) := by decide +kernel
theorem dX4_makeAll_43 : decode cX4_makeAll 43 = .ok (.iload_n 1, 1) := by decide +kernel
theorem dX4_makeAll_44 : decode cX4_makeAll 44 = .ok (.lload_n 2, 1) := by decide +kernel
theorem dX4_makeAll_45 : decode cX4_makeAll 45 = .ok (.invokevirtual 196, 3) := by decide +kernel
theorem dX4_makeAll_48 : decode cX4_makeAll 48 = .ok (.iinc 7 1, 3) := by decide +kernel
theorem dX4_makeAll_51 : decode cX4_makeAll 51 = .ok (.goto (-16), 3) := by decide +kernel
theorem dX4_makeAll_54 : decode cX4_makeAll 54 = .ok (.iload 6, 2) := by decide +kernel
theorem dX4_makeAll_56 : decode cX4_makeAll 56 = .ok (.ireturn, 1) := by decide +kernel
theorem dX4_claim_0 : decode cX4_claim 0 = .ok (.aload_n 0, 1) := by decide +kernel
theorem dX4_claim_1 : decode cX4_claim 1 = .ok (.iload_n 1, 1) := by decide +kernel
theorem dX4_claim_2 : decode cX4_claim 2 = .ok (.lload_n 2, 1) := by decide +kernel
theorem dX4_claim_3 : decode cX4_claim 3 = .ok (.iconst 1, 1) := by decide +kernel
theorem dX4_claim_4 : decode cX4_claim 4 = .ok (.invokevirtual 200, 3) := by decide +kernel
theorem dX4_claim_7 : decode cX4_claim 7 = .ok (.ireturn, 1) := by decide +kernel
theorem dX4_batch_0 : decode cX4_batch 0 = .ok (.aload_n 0, 1) := by decide +kernel
theorem dX4_batch_1 : decode cX4_batch 1 = .ok (.iload_n 1, 1) := by decide +kernel
theorem dX4_batch_2 : decode cX4_batch 2 = .ok (.lload_n 2, 1) := by decide +kernel
theorem dX4_batch_3 : decode cX4_batch 3 = .ok (.iload 4, 2) := by decide +kernel
theorem dX4_batch_5 : decode cX4_batch 5 = .ok (.invokevirtual 200, 3) := by decide +kernel
theorem dX4_batch_8 : decode cX4_batch 8 = .ok (.ireturn, 1) := by decide +kernel
theorem dX4_by_0 : decode cX4_by 0 = .ok (.aload_n 0, 1) := by decide +kernel
theorem dX4_by_1 : decode cX4_by 1 = .ok (.getfield 108, 3) := by decide +kernel
theorem dX4_by_4 : decode cX4_by 4 = .ok (.ireturn, 1) := by decide +kernel
theorem dX4_again_0 : decode cX4_again 0 = .ok (.aload_n 0, 1) := by decide +kernel
theorem dX4_again_1 : decode cX4_again 1 = .ok (.getfield 193, 3) := by decide +kernel
theorem dX4_again_4 : decode cX4_again 4 = .ok (.ifCond .ge 10, 3) := by decide +kernel
theorem dX4_again_7 : decode cX4_again 7 = .ok (.aload_n 0, 1) := by decide +kernel
theorem dX4_again_8 : decode cX4_again 8 = .ok (.getfield 193, 3) := by decide +kernel
theorem dX4_again_11 : decode cX4_again 11 = .ok (.goto 9, 3) := by decide +kernel
theorem dX4_again_14 : decode cX4_again 14 = .ok (.aload_n 0, 1) := by decide +kernel
theorem dX4_again_15 : decode cX4_again 15 = .ok (.bipush 6, 2) := by decide +kernel
theorem dX4_again_17 : decode cX4_again 17 = .ok (.invokevirtual 131, 3) := by decide +kernel
theorem dX4_again_20 : decode cX4_again 20 = .ok (.ireturn, 1) := by decide +kernel
theorem dX4_fill_0 : decode cX4_fill 0 = .ok (.aload_n 0, 1) := by decide +kernel
theorem dX4_fill_1 : decode cX4_fill 1 = .ok (.iload_n 1, 1) := by decide +kernel
theorem dX4_fill_2 : decode cX4_fill 2 = .ok (.invokevirtual 142, 3) := by decide +kernel
theorem dX4_fill_5 : decode cX4_fill 5 = .ok (.ifCond .ne 5, 3) := by decide +kernel
theorem dX4_fill_8 : decode cX4_fill 8 = .ok (.iconst (-1), 1) := by decide +kernel
theorem dX4_fill_9 : decode cX4_fill 9 = .ok (.ireturn, 1) := by decide +kernel
theorem dX4_fill_10 : decode cX4_fill 10 = .ok (.aload_n 0, 1) := by decide +kernel
theorem dX4_fill_11 : decode cX4_fill 11 = .ok (.getfield 135, 3) := by decide +kernel
theorem dX4_fill_14 : decode cX4_fill 14 = .ok (.ifCond .ne 6, 3) := by decide +kernel
theorem dX4_fill_17 : decode cX4_fill 17 = .ok (.bipush (-2), 2) := by decide +kernel
theorem dX4_fill_19 : decode cX4_fill 19 = .ok (.ireturn, 1) := by decide +kernel
theorem dX4_fill_20 : decode cX4_fill 20 = .ok (.aload_n 0, 1) := by decide +kernel
theorem dX4_fill_21 : decode cX4_fill 21 = .ok (.getfield 16, 3) := by decide +kernel
theorem dX4_fill_24 : decode cX4_fill 24 = .ok (.iload_n 1, 1) := by decide +kernel
theorem dX4_fill_25 : decode cX4_fill 25 = .ok (.iaload, 1) := by decide +kernel
theorem dX4_fill_26 : decode cX4_fill 26 = .ok (.iconst 2, 1) := by decide +kernel
theorem dX4_fill_27 : decode cX4_fill 27 = .ok (.if_icmp .ne 9, 3) := by decide +kernel
theorem dX4_fill_30 : decode cX4_fill 30 = .ok (.aload_n 0, 1) := by decide +kernel
theorem dX4_fill_31 : decode cX4_fill 31 = .ok (.iconst 1, 1) := by decide +kernel
theorem dX4_fill_32 : decode cX4_fill 32 = .ok (.invokevirtual 131, 3) := by decide +kernel
theorem dX4_fill_35 : decode cX4_fill 35 = .ok (.ireturn, 1) := by decide +kernel
theorem dX4_fill_36 : decode cX4_fill 36 = .ok (.aload_n 0, 1) := by decide +kernel
theorem dX4_fill_37 : decode cX4_fill 37 = .ok (.iload_n 1, 1) := by decide +kernel
theorem dX4_fill_38 : decode cX4_fill 38 = .ok (.iload_n 2, 1) := by decide +kernel
theorem dX4_fill_39 : decode cX4_fill 39 = .ok (.invokevirtual 180, 3) := by decide +kernel
theorem dX4_fill_42 : decode cX4_fill 42 = .ok (.ifCond .ne 6, 3) := by decide +kernel
theorem dX4_fill_45 : decode cX4_fill 45 = .ok (.bipush (-11), 2) := by decide +kernel
theorem dX4_fill_47 : decode cX4_fill 47 = .ok (.ireturn, 1) := by decide +kernel
theorem dX4_fill_48 : decode cX4_fill 48 = .ok (.iload_n 3, 1) := by decide +kernel
theorem dX4_fill_49 : decode cX4_fill 49 = .ok (.ifCond .lt 9, 3) := by decide +kernel
theorem dX4_fill_52 : decode cX4_fill 52 = .ok (.iload_n 3, 1) := by decide +kernel
theorem dX4_fill_53 : decode cX4_fill 53 = .ok (.bipush 7, 2) := by decide +kernel
theorem dX4_fill_55 : decode cX4_fill 55 = .ok (.if_icmp .le 9, 3) := by decide +kernel
theorem dX4_fill_58 : decode cX4_fill 58 = .ok (.aload_n 0, 1) := by decide +kernel
theorem dX4_fill_59 : decode cX4_fill 59 = .ok (.iconst 2, 1) := by decide +kernel
theorem dX4_fill_60 : decode cX4_fill 60 = .ok (.invokevirtual 131, 3) := by decide +kernel
theorem dX4_fill_63 : decode cX4_fill 63 = .ok (.ireturn, 1) := by decide +kernel
theorem dX4_fill_64 : decode cX4_fill 64 = .ok (.aload_n 0, 1) := by decide +kernel
theorem dX4_fill_65 : decode cX4_fill 65 = .ok (.getfield 36, 3) := by decide +kernel
theorem dX4_fill_68 : decode cX4_fill 68 = .ok (.bipush 8, 2) := by decide +kernel
theorem dX4_fill_70 : decode cX4_fill 70 = .ok (.aload_n 0, 1) := by decide +kernel
theorem dX4_fill_71 : decode cX4_fill 71 = .ok (.iload_n 1, 1) := by decide +kernel
theorem dX4_fill_72 : decode cX4_fill 72 = .ok (.iload_n 2, 1) := by decide +kernel
theorem dX4_fill_73 : decode cX4_fill 73 = .ok (.invokevirtual 171, 3) := by decide +kernel
theorem dX4_fill_76 : decode cX4_fill 76 = .ok (.imul, 1) := by decide +kernel
theorem dX4_fill_77 : decode cX4_fill 77 = .ok (.iload_n 3, 1) := by decide +kernel
theorem dX4_fill_78 : decode cX4_fill 78 = .ok (.iadd, 1) := by decide +kernel
theorem dX4_fill_79 : decode cX4_fill 79 = .ok (.lload 4, 2) := by decide +kernel
theorem dX4_fill_81 : decode cX4_fill 81 = .ok (.lastore, 1) := by decide +kernel
theorem dX4_fill_82 : decode cX4_fill 82 = .ok (.iconst 1, 1) := by decide +kernel
theorem dX4_fill_83 : decode cX4_fill 83 = .ok (.ireturn, 1) := by decide +kernel
theorem dX4_copy_0 : decode cX4_copy 0 = .ok (.aload_n 0, 1) := by decide +kernel
theorem dX4_copy_1 : decode cX4_copy 1 = .ok (.iload_n 1, 1) := by decide +kernel
theorem dX4_copy_2 : decode cX4_copy 2 = .ok (.invokevirtual 142, 3) := by decide +kernel
theorem dX4_copy_5 : decode cX4_copy 5 = .ok (.ifCond .eq 11, 3) := by decide +kernel
theorem dX4_copy_8 : decode cX4_copy 8 = .ok (.aload_n 0, 1) := by decide +kernel
theorem dX4_copy_9 : decode cX4_copy 9 = .ok (.iload_n 3, 1) := by decide +kernel
theorem dX4_copy_10 : decode cX4_copy 10 = .ok (.invokevirtual 146, 3) := by decide +kernel
theorem dX4_copy_13 : decode cX4_copy 13 = .ok (.ifCond .ne 5, 3) := by decide +kernel
theorem dX4_copy_16 : decode cX4_copy 16 = .ok (.iconst (-1), 1) := by decide +kernel
theorem dX4_copy_17 : decode cX4_copy 17 = .ok (.ireturn, 1) := by decide +kernel
theorem dX4_copy_18 : decode cX4_copy 18 = .ok (.aload_n 0, 1) := by decide +kernel
theorem dX4_copy_19 : decode cX4_copy 19 = .ok (.getfield 135, 3) := by decide +kernel
theorem dX4_copy_22 : decode cX4_copy 22 = .ok (.ifCond .ne 6, 3) := by decide +kernel
theorem dX4_copy_25 : decode cX4_copy 25 = .ok (.bipush (-2), 2) := by decide +kernel
theorem dX4_copy_27 : decode cX4_copy 27 = .ok (.ireturn, 1) := by decide +kernel
theorem dX4_copy_28 : decode cX4_copy 28 = .ok (.aload_n 0, 1) := by decide +kernel
theorem dX4_copy_29 : decode cX4_copy 29 = .ok (.getfield 16, 3) := by decide +kernel
theorem dX4_copy_32 : decode cX4_copy 32 = .ok (.iload_n 1, 1) := by decide +kernel
theorem dX4_copy_33 : decode cX4_copy 33 = .ok (.iaload, 1) := by decide +kernel
theorem dX4_copy_34 : decode cX4_copy 34 = .ok (.iconst 2, 1) := by decide +kernel
theorem dX4_copy_35 : decode cX4_copy 35 = .ok (.if_icmp .ne 9, 3) := by decide +kernel
theorem dX4_copy_38 : decode cX4_copy 38 = .ok (.aload_n 0, 1) := by decide +kernel
theorem dX4_copy_39 : decode cX4_copy 39 = .ok (.iconst 1, 1) := by decide +kernel
theorem dX4_copy_40 : decode cX4_copy 40 = .ok (.invokevirtual 131, 3) := by decide +kernel
theorem dX4_copy_43 : decode cX4_copy 43 = .ok (.ireturn, 1) := by decide +kernel
theorem dX4_copy_44 : decode cX4_copy 44 = .ok (.aload_n 0, 1) := by decide +kernel
theorem dX4_copy_45 : decode cX4_copy 45 = .ok (.iload_n 1, 1) := by decide +kernel
theorem dX4_copy_46 : decode cX4_copy 46 = .ok (.iload_n 2, 1) := by decide +kernel
theorem dX4_copy_47 : decode cX4_copy 47 = .ok (.invokevirtual 180, 3) := by decide +kernel
theorem dX4_copy_50 : decode cX4_copy 50 = .ok (.ifCond .ne 6, 3) := by decide +kernel
theorem dX4_copy_53 : decode cX4_copy 53 = .ok (.bipush (-11), 2) := by decide +kernel
theorem dX4_copy_55 : decode cX4_copy 55 = .ok (.ireturn, 1) := by decide +kernel
theorem dX4_copy_56 : decode cX4_copy 56 = .ok (.iload 4, 2) := by decide +kernel
theorem dX4_copy_58 : decode cX4_copy 58 = .ok (.ifCond .lt 25, 3) := by decide +kernel
theorem dX4_copy_61 : decode cX4_copy 61 = .ok (.iload 5, 2) := by decide +kernel
theorem dX4_copy_63 : decode cX4_copy 63 = .ok (.ifCond .lt 20, 3) := by decide +kernel
theorem dX4_copy_66 : decode cX4_copy 66 = .ok (.iload 5, 2) := by decide +kernel
theorem dX4_copy_68 : decode cX4_copy 68 = .ok (.bipush 8, 2) := by decide +kernel
theorem dX4_copy_70 : decode cX4_copy 70 = .ok (.if_icmp .gt 13, 3) := by decide +kernel
theorem dX4_copy_73 : decode cX4_copy 73 = .ok (.iload 4, 2) := by decide +kernel
theorem dX4_copy_75 : decode cX4_copy 75 = .ok (.bipush 8, 2) := by decide +kernel
theorem dX4_copy_77 : decode cX4_copy 77 = .ok (.iload 5, 2) := by decide +kernel
theorem dX4_copy_79 : decode cX4_copy 79 = .ok (.isub, 1) := by decide +kernel
theorem dX4_copy_80 : decode cX4_copy 80 = .ok (.if_icmp .le 9, 3) := by decide +kernel
theorem dX4_copy_83 : decode cX4_copy 83 = .ok (.aload_n 0, 1) := by decide +kernel
theorem dX4_copy_84 : decode cX4_copy 84 = .ok (.iconst 5, 1) := by decide +kernel
theorem dX4_copy_85 : decode cX4_copy 85 = .ok (.invokevirtual 131, 3) := by decide +kernel
theorem dX4_copy_88 : decode cX4_copy 88 = .ok (.ireturn, 1) := by decide +kernel
theorem dX4_copy_89 : decode cX4_copy 89 = .ok (.iconst 0, 1) := by decide +kernel
theorem dX4_copy_90 : decode cX4_copy 90 = .ok (.istore 6, 2) := by decide +kernel
theorem dX4_copy_92 : decode cX4_copy 92 = .ok (.iload 6, 2) := by decide +kernel
theorem dX4_copy_94 : decode cX4_copy 94 = .ok (.iload 5, 2) := by decide +kernel
theorem dX4_copy_96 : decode cX4_copy 96 = .ok (.if_icmp .ge 41, 3) := by decide +kernel
theorem dX4_copy_99 : decode cX4_copy 99 = .ok (.aload_n 0, 1) := by decide +kernel
theorem dX4_copy_100 : decode cX4_copy 100 = .ok (.getfield 36, 3) := by decide +kernel
theorem dX4_copy_103 : decode cX4_copy 103 = .ok (.bipush 8, 2) := by decide +kernel
theorem dX4_copy_105 : decode cX4_copy 105 = .ok (.aload_n 0, 1) := by decide +kernel
theorem dX4_copy_106 : decode cX4_copy 106 = .ok (.iload_n 1, 1) := by decide +kernel
theorem dX4_copy_107 : decode cX4_copy 107 = .ok (.iload_n 2, 1) := by decide +kernel
theorem dX4_copy_108 : decode cX4_copy 108 = .ok (.invokevirtual 171, 3) := by decide +kernel
theorem dX4_copy_111 : decode cX4_copy 111 = .ok (.imul, 1) := by decide +kernel
theorem dX4_copy_112 : decode cX4_copy 112 = .ok (.iload 6, 2) := by decide +kernel
theorem dX4_copy_114 : decode cX4_copy 114 = .ok (.iadd, 1) := by decide +kernel
theorem dX4_copy_115 : decode cX4_copy 115 = .ok (.aload_n 0, 1) := by decide +kernel
theorem dX4_copy_116 : decode cX4_copy 116 = .ok (.getfield 87, 3) := by decide +kernel
theorem dX4_copy_119 : decode cX4_copy 119 = .ok (.bipush 8, 2) := by decide +kernel
theorem dX4_copy_121 : decode cX4_copy 121 = .ok (.iload_n 3, 1) := by decide +kernel
theorem dX4_copy_122 : decode cX4_copy 122 = .ok (.imul, 1) := by decide +kernel
theorem dX4_copy_123 : decode cX4_copy 123 = .ok (.iload 4, 2) := by decide +kernel
theorem dX4_copy_125 : decode cX4_copy 125 = .ok (.iadd, 1) := by decide +kernel
theorem dX4_copy_126 : decode cX4_copy 126 = .ok (.iload 6, 2) := by decide +kernel
theorem dX4_copy_128 : decode cX4_copy 128 = .ok (.iadd, 1) := by decide +kernel
theorem dX4_copy_129 : decode cX4_copy 129 = .ok (.laload, 1) := by decide +kernel
theorem dX4_copy_130 : decode cX4_copy 130 = .ok (.lastore, 1) := by decide +kernel
theorem dX4_copy_131 : decode cX4_copy 131 = .ok (.iinc 6 1, 3) := by decide +kernel
theorem dX4_copy_134 : decode cX4_copy 134 = .ok (.goto (-42), 3) := by decide +kernel
theorem dX4_copy_137 : decode cX4_copy 137 = .ok (.iconst 1, 1) := by decide +kernel
theorem dX4_copy_138 : decode cX4_copy 138 = .ok (.ireturn, 1) := by decide +kernel
theorem dX4_enter_0 : decode cX4_enter 0 = .ok (.bipush 32, 2) := by decide +kernel
theorem dX4_enter_2 : decode cX4_enter 2 = .ok (.iload_n 1, 1) := by decide +kernel
theorem dX4_enter_3 : decode cX4_enter 3 = .ok (.imul, 1) := by decide +kernel
theorem dX4_enter_4 : decode cX4_enter 4 = .ok (.iload_n 2, 1) := by decide +kernel
theorem dX4_enter_5 : decode cX4_enter 5 = .ok (.iadd, 1) := by decide +kernel
theorem dX4_enter_6 : decode cX4_enter 6 = .ok (.istore 5, 2) := by decide +kernel
theorem dX4_enter_8 : decode cX4_enter 8 = .ok (.aload_n 0, 1) := by decide +kernel
theorem dX4_enter_9 : decode cX4_enter 9 = .ok (.iload_n 3, 1) := by decide +kernel
theorem dX4_enter_10 : decode cX4_enter 10 = .ok (.iload 4, 2) := by decide +kernel
theorem dX4_enter_12 : decode cX4_enter 12 = .ok (.invokevirtual 171, 3) := by decide +kernel
theorem dX4_enter_15 : decode cX4_enter 15 = .ok (.istore 6, 2) := by decide +kernel
theorem dX4_enter_17 : decode cX4_enter 17 = .ok (.aload_n 0, 1) := by decide +kernel
theorem dX4_enter_18 : decode cX4_enter 18 = .ok (.getfield 93, 3) := by decide +kernel
theorem dX4_enter_21 : decode cX4_enter 21 = .ok (.iload 5, 2) := by decide +kernel
theorem dX4_enter_23 : decode cX4_enter 23 = .ok (.iload 4, 2) := by decide +kernel
theorem dX4_enter_25 : decode cX4_enter 25 = .ok (.iastore, 1) := by decide +kernel
theorem dX4_enter_26 : decode cX4_enter 26 = .ok (.aload_n 0, 1) := by decide +kernel
theorem dX4_enter_27 : decode cX4_enter 27 = .ok (.getfield 96, 3) := by decide +kernel
theorem dX4_enter_30 : decode cX4_enter 30 = .ok (.iload 5, 2) := by decide +kernel
theorem dX4_enter_32 : decode cX4_enter 32 = .ok (.aload_n 0, 1) := by decide +kernel
theorem dX4_enter_33 : decode cX4_enter 33 = .ok (.getfield 27, 3) := by decide +kernel
theorem dX4_enter_36 : decode cX4_enter 36 = .ok (.iload 6, 2) := by decide +kernel
theorem dX4_enter_38 : decode cX4_enter 38 = .ok (.laload, 1) := by decide +kernel
theorem dX4_enter_39 : decode cX4_enter 39 = .ok (.lastore, 1) := by decide +kernel
theorem dX4_enter_40 : decode cX4_enter 40 = .ok (.aload_n 0, 1) := by decide +kernel
theorem dX4_enter_41 : decode cX4_enter 41 = .ok (.getfield 99, 3) := by decide +kernel
theorem dX4_enter_44 : decode cX4_enter 44 = .ok (.iload 5, 2) := by decide +kernel
theorem dX4_enter_46 : decode cX4_enter 46 = .ok (.aload_n 0, 1) := by decide +kernel
theorem dX4_enter_47 : decode cX4_enter 47 = .ok (.getfield 30, 3) := by decide +kernel
theorem dX4_enter_50 : decode cX4_enter 50 = .ok (.iload 6, 2) := by decide +kernel
theorem dX4_enter_52 : decode cX4_enter 52 = .ok (.iaload, 1) := by decide +kernel
theorem dX4_enter_53 : decode cX4_enter 53 = .ok (.iastore, 1) := by decide +kernel
theorem dX4_enter_54 : decode cX4_enter 54 = .ok (.aload_n 0, 1) := by decide +kernel
theorem dX4_enter_55 : decode cX4_enter 55 = .ok (.getfield 102, 3) := by decide +kernel
theorem dX4_enter_58 : decode cX4_enter 58 = .ok (.iload 5, 2) := by decide +kernel
theorem dX4_enter_60 : decode cX4_enter 60 = .ok (.aload_n 0, 1) := by decide +kernel
theorem dX4_enter_61 : decode cX4_enter 61 = .ok (.getfield 33, 3) := by decide +kernel
theorem dX4_enter_64 : decode cX4_enter 64 = .ok (.iload 6, 2) := by decide +kernel
theorem dX4_enter_66 : decode cX4_enter 66 = .ok (.iaload, 1) := by decide +kernel
theorem dX4_enter_67 : decode cX4_enter 67 = .ok (.iastore, 1) := by decide +kernel
theorem dX4_enter_68 : decode cX4_enter 68 = .ok (.iconst 0, 1) := by decide +kernel
theorem dX4_enter_69 : decode cX4_enter 69 = .ok (.istore 7, 2) := by decide +kernel
theorem dX4_enter_71 : decode cX4_enter 71 = .ok (.iload 7, 2) := by decide +kernel
theorem dX4_enter_73 : decode cX4_enter 73 = .ok (.bipush 8, 2) := by decide +kernel
theorem dX4_enter_75 : decode cX4_enter 75 = .ok (.if_icmp .ge 35, 3) := by decide +kernel
theorem dX4_enter_78 : decode cX4_enter 78 = .ok (.aload_n 0, 1) := by decide +kernel
theorem dX4_enter_79 : decode cX4_enter 79 = .ok (.getfield 105, 3) := by decide +kernel
theorem dX4_enter_82 : decode cX4_enter 82 = .ok (.bipush 8, 2) := by decide +kernel
theorem dX4_enter_84 : decode cX4_enter 84 = .ok (.iload 5, 2) := by decide +kernel
theorem dX4_enter_86 : decode cX4_enter 86 = .ok (.imul, 1) := by decide +kernel
theorem dX4_enter_87 : decode cX4_enter 87 = .ok (.iload 7, 2) := by decide +kernel
theorem dX4_enter_89 : decode cX4_enter 89 = .ok (.iadd, 1) := by decide +kernel
theorem dX4_enter_90 : decode cX4_enter 90 = .ok (.aload_n 0, 1) := by decide +kernel
theorem dX4_enter_91 : decode cX4_enter 91 = .ok (.getfield 36, 3) := by decide +kernel
theorem dX4_enter_94 : decode cX4_enter 94 = .ok (.bipush 8, 2) := by decide +kernel
theorem dX4_enter_96 : decode cX4_enter 96 = .ok (.iload 6, 2) := by decide +kernel
theorem dX4_enter_98 : decode cX4_enter 98 = .ok (.imul, 1) := by decide +kernel
theorem dX4_enter_99 : decode cX4_enter 99 = .ok (.iload 7, 2) := by decide +kernel
theorem dX4_enter_101 : decode cX4_enter 101 = .ok (.iadd, 1) := by decide +kernel
theorem dX4_enter_102 : decode cX4_enter 102 = .ok (.laload, 1) := by decide +kernel
theorem dX4_enter_103 : decode cX4_enter 103 = .ok (.lastore, 1) := by decide +kernel
theorem dX4_enter_104 : decode cX4_enter 104 = .ok (.iinc 7 1, 3) := by decide +kernel
theorem dX4_enter_107 : decode cX4_enter 107 = .ok (.goto (-36), 3) := by decide +kernel
theorem dX4_enter_110 : decode cX4_enter 110 = .ok (.return_, 1) := by decide +kernel
theorem dX4_fold_0 : decode cX4_fold 0 = .ok (.aload_n 0, 1) := by decide +kernel
theorem dX4_fold_1 : decode cX4_fold 1 = .ok (.getfield 30, 3) := by decide +kernel
theorem dX4_fold_4 : decode cX4_fold 4 = .ok (.aload_n 0, 1) := by decide +kernel
theorem dX4_fold_5 : decode cX4_fold 5 = .ok (.iload_n 1, 1) := by decide +kernel
theorem dX4_fold_6 : decode cX4_fold 6 = .ok (.iload_n 2, 1) := by decide +kernel
theorem dX4_fold_7 : decode cX4_fold 7 = .ok (.invokevirtual 171, 3) := by decide +kernel
theorem dX4_fold_10 : decode cX4_fold 10 = .ok (.iaload, 1) := by decide +kernel
theorem dX4_fold_11 : decode cX4_fold 11 = .ok (.istore_n 3, 1) := by decide +kernel
theorem dX4_fold_12 : decode cX4_fold 12 = .ok (.iconst 0, 1) := by decide +kernel
theorem dX4_fold_13 : decode cX4_fold 13 = .ok (.istore 4, 2) := by decide +kernel
theorem dX4_fold_15 : decode cX4_fold 15 = .ok (.iload 4, 2) := by decide +kernel
theorem dX4_fold_17 : decode cX4_fold 17 = .ok (.aload_n 0, 1) := by decide +kernel
theorem dX4_fold_18 : decode cX4_fold 18 = .ok (.getfield 124, 3) := by decide +kernel
theorem dX4_fold_21 : decode cX4_fold 21 = .ok (.if_icmp .ge 134, 3) := by decide +kernel
theorem dX4_fold_24 : decode cX4_fold 24 = .ok (.aload_n 0, 1) := by decide +kernel
theorem dX4_fold_25 : decode cX4_fold 25 = .ok (.getfield 39, 3) := by decide +kernel
theorem dX4_fold_28 : decode cX4_fold 28 = .ok (.iload 4, 2) := by decide +kernel
theorem dX4_fold_30 : decode cX4_fold 30 = .ok (.iaload, 1) := by decide +kernel
theorem dX4_fold_31 : decode cX4_fold 31 = .ok (.iconst 4, 1) := by decide +kernel
theorem dX4_fold_32 : decode cX4_fold 32 = .ok (.if_icmp .ne 117, 3) := by decide +kernel
theorem dX4_fold_35 : decode cX4_fold 35 = .ok (.aload_n 0, 1) := by decide +kernel
theorem dX4_fold_36 : decode cX4_fold 36 = .ok (.getfield 42, 3) := by decide +kernel
theorem dX4_fold_39 : decode cX4_fold 39 = .ok (.iconst 4, 1) := by decide +kernel
theorem dX4_fold_40 : decode cX4_fold 40 = .ok (.iload 4, 2) := by decide +kernel
theorem dX4_fold_42 : decode cX4_fold 42 = .ok (.imul, 1) := by decide +kernel
theorem dX4_fold_43 : decode cX4_fold 43 = .ok (.iaload, 1) := by decide +kernel
theorem dX4_fold_44 : decode cX4_fold 44 = .ok (.iload_n 1, 1) := by decide +kernel
theorem dX4_fold_45 : decode cX4_fold 45 = .ok (.if_icmp .ne 104, 3) := by decide +kernel
theorem dX4_fold_48 : decode cX4_fold 48 = .ok (.iconst 0, 1) := by decide +kernel
theorem dX4_fold_49 : decode cX4_fold 49 = .ok (.istore 5, 2) := by decide +kernel
theorem dX4_fold_51 : decode cX4_fold 51 = .ok (.iload 5, 2) := by decide +kernel
theorem dX4_fold_53 : decode cX4_fold 53 = .ok (.aload_n 0, 1) := by decide +kernel
theorem dX4_fold_54 : decode cX4_fold 54 = .ok (.getfield 90, 3) := by decide +kernel
theorem dX4_fold_57 : decode cX4_fold 57 = .ok (.iload 4, 2) := by decide +kernel
theorem dX4_fold_59 : decode cX4_fold 59 = .ok (.iaload, 1) := by decide +kernel
theorem dX4_fold_60 : decode cX4_fold 60 = .ok (.if_icmp .ge 26, 3) := by decide +kernel
theorem dX4_fold_63 : decode cX4_fold 63 = .ok (.aload_n 0, 1) := by decide +kernel
theorem dX4_fold_64 : decode cX4_fold 64 = .ok (.getfield 99, 3) := by decide +kernel
theorem dX4_fold_67 : decode cX4_fold 67 = .ok (.bipush 32, 2) := by decide +kernel
theorem dX4_fold_69 : decode cX4_fold 69 = .ok (.iload 4, 2) := by decide +kernel
theorem dX4_fold_71 : decode cX4_fold 71 = .ok (.imul, 1) := by decide +kernel
theorem dX4_fold_72 : decode cX4_fold 72 = .ok (.iload 5, 2) := by decide +kernel
theorem dX4_fold_74 : decode cX4_fold 74 = .ok (.iadd, 1) := by decide +kernel
theorem dX4_fold_75 : decode cX4_fold 75 = .ok (.iaload, 1) := by decide +kernel
theorem dX4_fold_76 : decode cX4_fold 76 = .ok (.iload_n 3, 1) := by decide +kernel
theorem dX4_fold_77 : decode cX4_fold 77 = .ok (.if_icmp .eq 9, 3) := by decide +kernel
theorem dX4_fold_80 : decode cX4_fold 80 = .ok (.iinc 5 1, 3) := by decide +kernel
theorem dX4_fold_83 : decode cX4_fold 83 = .ok (.goto (-32), 3) := by decide +kernel
theorem dX4_fold_86 : decode cX4_fold 86 = .ok (.iload 5, 2) := by decide +kernel
theorem dX4_fold_88 : decode cX4_fold 88 = .ok (.aload_n 0, 1) := by decide +kernel
theorem dX4_fold_89 : decode cX4_fold 89 = .ok (.getfield 90, 3) := by decide +kernel
theorem dX4_fold_92 : decode cX4_fold 92 = .ok (.iload 4, 2) := by decide +kernel
theorem dX4_fold_94 : decode cX4_fold 94 = .ok (.iaload, 1) := by decide +kernel
theorem dX4_fold_95 : decode cX4_fold 95 = .ok (.if_icmp .ne 27, 3) := by decide +kernel
theorem dX4_fold_98 : decode cX4_fold 98 = .ok (.aload_n 0, 1) := by decide +kernel
theorem dX4_fold_99 : decode cX4_fold 99 = .ok (.iload 4, 2) := by decide +kernel
theorem dX4_fold_101 : decode cX4_fold 101 = .ok (.iload 5, 2) := by decide +kernel
theorem dX4_fold_103 : decode cX4_fold 103 = .ok (.iload_n 1, 1) := by decide +kernel
theorem dX4_fold_104 : decode cX4_fold 104 = .ok (.iload_n 2, 1) := by decide +kernel
theorem dX4_fold_105 : decode cX4_fold 105 = .ok (.invokevirtual 203, 3) := by decide +kernel
theorem dX4_fold_108 : decode cX4_fold 108 = .ok (.aload_n 0, 1) := by decide +kernel
theorem dX4_fold_109 : decode cX4_fold 109 = .ok (.getfield 90, 3) := by decide +kernel
theorem dX4_fold_112 : decode cX4_fold 112 = .ok (.iload 4, 2) := by decide +kernel
theorem dX4_fold_114 : decode cX4_fold 114 = .ok (.dup2, 1) := by decide +kernel
theorem dX4_fold_115 : decode cX4_fold 115 = .ok (.iaload, 1) := by decide +kernel
theorem dX4_fold_116 : decode cX4_fold 116 = .ok (.iconst 1, 1) := by decide +kernel
theorem dX4_fold_117 : decode cX4_fold 117 = .ok (.iadd, 1) := by decide +kernel
theorem dX4_fold_118 : decode cX4_fold 118 = .ok (.iastore, 1) := by decide +kernel
theorem dX4_fold_119 : decode cX4_fold 119 = .ok (.goto 30, 3) := by decide +kernel
theorem dX4_fold_122 : decode cX4_fold 122 = .ok (.aload_n 0, 1) := by decide +kernel
theorem dX4_fold_123 : decode cX4_fold 123 = .ok (.getfield 93, 3) := by decide +kernel
theorem dX4_fold_126 : decode cX4_fold 126 = .ok (.bipush 32, 2) := by decide +kernel
theorem dX4_fold_128 : decode cX4_fold 128 = .ok (.iload 4, 2) := by decide +kernel
theorem dX4_fold_130 : decode cX4_fold 130 = .ok (.imul, 1) := by decide +kernel
theorem dX4_fold_131 : decode cX4_fold 131 = .ok (.iload 5, 2) := by decide +kernel
theorem dX4_fold_133 : decode cX4_fold 133 = .ok (.iadd, 1) := by decide +kernel
theorem dX4_fold_134 : decode cX4_fold 134 = .ok (.iaload, 1) := by decide +kernel
theorem dX4_fold_135 : decode cX4_fold 135 = .ok (.iload_n 2, 1) := by decide +kernel
theorem dX4_fold_136 : decode cX4_fold 136 = .ok (.if_icmp .ge 13, 3) := by decide +kernel
theorem dX4_fold_139 : decode cX4_fold 139 = .ok (.aload_n 0, 1) := by decide +kernel
theorem dX4_fold_140 : decode cX4_fold 140 = .ok (.iload 4, 2) := by decide +kernel
theorem dX4_fold_142 : decode cX4_fold 142 = .ok (.iload 5, 2) := by decide +kernel
theorem dX4_fold_144 : decode cX4_fold 144 = .ok (.iload_n 1, 1) := by decide +kernel
theorem dX4_fold_145 : decode cX4_fold 145 = .ok (.iload_n 2, 1) := by decide +kernel
theorem dX4_fold_146 : decode cX4_fold 146 = .ok (.invokevirtual 203, 3) := by decide +kernel
theorem dX4_fold_149 : decode cX4_fold 149 = .ok (.iinc 4 1, 3) := by decide +kernel
theorem dX4_fold_152 : decode cX4_fold 152 = .ok (.goto (-137), 3) := by decide +kernel
theorem dX4_fold_155 : decode cX4_fold 155 = .ok (.return_, 1) := by decide +kernel
theorem dX4_publish_0 : decode cX4_publish 0 = .ok (.aload_n 0, 1) := by decide +kernel
theorem dX4_publish_1 : decode cX4_publish 1 = .ok (.iload_n 1, 1) := by decide +kernel
theorem dX4_publish_2 : decode cX4_publish 2 = .ok (.invokevirtual 142, 3) := by decide +kernel
theorem dX4_publish_5 : decode cX4_publish 5 = .ok (.ifCond .eq 25, 3) := by decide +kernel
theorem dX4_publish_8 : decode cX4_publish 8 = .ok (.iload_n 3, 1) := by decide +kernel
theorem dX4_publish_9 : decode cX4_publish 9 = .ok (.ifCond .lt 21, 3) := by decide +kernel
theorem dX4_publish_12 : decode cX4_publish 12 = .ok (.iload_n 3, 1) := by decide +kernel
theorem dX4_publish_13 : decode cX4_publish 13 = .ok (.bipush 31, 2) := by decide +kernel
theorem dX4_publish_15 : decode cX4_publish 15 = .ok (.if_icmp .gt 15, 3) := by decide +kernel
theorem dX4_publish_18 : decode cX4_publish 18 = .ok (.iload 4, 2) := by decide +kernel
theorem dX4_publish_20 : decode cX4_publish 20 = .ok (.ifCond .lt 10, 3) := by decide +kernel
theorem dX4_publish_23 : decode cX4_publish 23 = .ok (.iload 4, 2) := by decide +kernel
theorem dX4_publish_25 : decode cX4_publish 25 = .ok (.bipush 8, 2) := by decide +kernel
theorem dX4_publish_27 : decode cX4_publish 27 = .ok (.if_icmp .le 5, 3) := by decide +kernel
theorem dX4_publish_30 : decode cX4_publish 30 = .ok (.iconst (-1), 1) := by decide +kernel
theorem dX4_publish_31 : decode cX4_publish 31 = .ok (.ireturn, 1) := by decide +kernel
theorem dX4_publish_32 : decode cX4_publish 32 = .ok (.aload_n 0, 1) := by decide +kernel
theorem dX4_publish_33 : decode cX4_publish 33 = .ok (.getfield 135, 3) := by decide +kernel
theorem dX4_publish_36 : decode cX4_publish 36 = .ok (.ifCond .ne 6, 3) := by decide +kernel
theorem dX4_publish_39 : decode cX4_publish 39 = .ok (.bipush (-2), 2) := by decide +kernel
theorem dX4_publish_41 : decode cX4_publish 41 = .ok (.ireturn, 1) := by decide +kernel
theorem dX4_publish_42 : decode cX4_publish 42 = .ok (.aload_n 0, 1) := by decide +kernel
theorem dX4_publish_43 : decode cX4_publish 43 = .ok (.getfield 16, 3) := by decide +kernel
theorem dX4_publish_46 : decode cX4_publish 46 = .ok (.iload_n 1, 1) := by decide +kernel
theorem dX4_publish_47 : decode cX4_publish 47 = .ok (.iaload, 1) := by decide +kernel
theorem dX4_publish_48 : decode cX4_publish 48 = .ok (.iconst 2, 1) := by decide +kernel
theorem dX4_publish_49 : decode cX4_publish 49 = .ok (.if_icmp .ne 6, 3) := by decide +kernel
theorem dX4_publish_52 : decode cX4_publish 52 = .ok (.bipush (-7), 2) := by decide +kernel
theorem dX4_publish_54 : decode cX4_publish 54 = .ok (.ireturn, 1) := by decide +kernel
theorem dX4_publish_55 : decode cX4_publish 55 = .ok (.aload_n 0, 1) := by decide +kernel
theorem dX4_publish_56 : decode cX4_publish 56 = .ok (.iload_n 1, 1) := by decide +kernel
theorem dX4_publish_57 : decode cX4_publish 57 = .ok (.iload_n 2, 1) := by decide +kernel
theorem dX4_publish_58 : decode cX4_publish 58 = .ok (.invokevirtual 180, 3) := by decide +kernel
theorem dX4_publish_61 : decode cX4_publish 61 = .ok (.ifCond .ne 6, 3) := by decide +kernel
theorem dX4_publish_64 : decode cX4_publish 64 = .ok (.bipush (-11), 2) := by decide +kernel
theorem dX4_publish_66 : decode cX4_publish 66 = .ok (.ireturn, 1) := by decide +kernel
theorem dX4_publish_67 : decode cX4_publish 67 = .ok (.aload_n 0, 1) := by decide +kernel
theorem dX4_publish_68 : decode cX4_publish 68 = .ok (.iload_n 1, 1) := by decide +kernel
theorem dX4_publish_69 : decode cX4_publish 69 = .ok (.iload_n 2, 1) := by decide +kernel
theorem dX4_publish_70 : decode cX4_publish 70 = .ok (.invokevirtual 171, 3) := by decide +kernel
theorem dX4_publish_73 : decode cX4_publish 73 = .ok (.istore 5, 2) := by decide +kernel
theorem dX4_publish_75 : decode cX4_publish 75 = .ok (.aload_n 0, 1) := by decide +kernel
theorem dX4_publish_76 : decode cX4_publish 76 = .ok (.getfield 23, 3) := by decide +kernel
theorem dX4_publish_79 : decode cX4_publish 79 = .ok (.iload 5, 2) := by decide +kernel
theorem dX4_publish_81 : decode cX4_publish 81 = .ok (.iconst 0, 1) := by decide +kernel
theorem dX4_publish_82 : decode cX4_publish 82 = .ok (.bastore, 1) := by decide +kernel
theorem dX4_publish_83 : decode cX4_publish 83 = .ok (.aload_n 0, 1) := by decide +kernel
theorem dX4_publish_84 : decode cX4_publish 84 = .ok (.getfield 30, 3) := by decide +kernel
theorem dX4_publish_87 : decode cX4_publish 87 = .ok (.iload 5, 2) := by decide +kernel
theorem dX4_publish_89 : decode cX4_publish 89 = .ok (.iload_n 3, 1) := by decide +kernel
theorem dX4_publish_90 : decode cX4_publish 90 = .ok (.iastore, 1) := by decide +kernel
theorem dX4_publish_91 : decode cX4_publish 91 = .ok (.aload_n 0, 1) := by decide +kernel
theorem dX4_publish_92 : decode cX4_publish 92 = .ok (.getfield 33, 3) := by decide +kernel
theorem dX4_publish_95 : decode cX4_publish 95 = .ok (.iload 5, 2) := by decide +kernel
theorem dX4_publish_97 : decode cX4_publish 97 = .ok (.iload 4, 2) := by decide +kernel
theorem dX4_publish_99 : decode cX4_publish 99 = .ok (.iastore, 1) := by decide +kernel
theorem dX4_publish_100 : decode cX4_publish 100 = .ok (.aload_n 0, 1) := by decide +kernel
theorem dX4_publish_101 : decode cX4_publish 101 = .ok (.iload_n 1, 1) := by decide +kernel
theorem dX4_publish_102 : decode cX4_publish 102 = .ok (.iload_n 2, 1) := by decide +kernel
theorem dX4_publish_103 : decode cX4_publish 103 = .ok (.invokevirtual 207, 3) := by decide +kernel
theorem dX4_publish_106 : decode cX4_publish 106 = .ok (.iconst 1, 1) := by decide +kernel
theorem dX4_publish_107 : decode cX4_publish 107 = .ok (.ireturn, 1) := by decide +kernel
theorem dX4_close_0 : decode cX4_close 0 = .ok (.aload_n 0, 1) := by decide +kernel
theorem dX4_close_1 : decode cX4_close 1 = .ok (.iload_n 1, 1) := by decide +kernel
theorem dX4_close_2 : decode cX4_close 2 = .ok (.invokevirtual 142, 3) := by decide +kernel
theorem dX4_close_5 : decode cX4_close 5 = .ok (.ifCond .ne 5, 3) := by decide +kernel
theorem dX4_close_8 : decode cX4_close 8 = .ok (.iconst (-1), 1) := by decide +kernel
theorem dX4_close_9 : decode cX4_close 9 = .ok (.ireturn, 1) := by decide +kernel
theorem dX4_close_10 : decode cX4_close 10 = .ok (.aload_n 0, 1) := by decide +kernel
theorem dX4_close_11 : decode cX4_close 11 = .ok (.getfield 135, 3) := by decide +kernel
theorem dX4_close_14 : decode cX4_close 14 = .ok (.ifCond .ne 6, 3) := by decide +kernel
theorem dX4_close_17 : decode cX4_close 17 = .ok (.bipush (-2), 2) := by decide +kernel
theorem dX4_close_19 : decode cX4_close 19 = .ok (.ireturn, 1) := by decide +kernel
theorem dX4_close_20 : decode cX4_close 20 = .ok (.aload_n 0, 1) := by decide +kernel
theorem dX4_close_21 : decode cX4_close 21 = .ok (.getfield 16, 3) := by decide +kernel
theorem dX4_close_24 : decode cX4_close 24 = .ok (.iload_n 1, 1) := by decide +kernel
theorem dX4_close_25 : decode cX4_close 25 = .ok (.iaload, 1) := by decide +kernel
theorem dX4_close_26 : decode cX4_close 26 = .ok (.ifCond .le 21, 3) := by decide +kernel
theorem dX4_close_29 : decode cX4_close 29 = .ok (.aload_n 0, 1) := by decide +kernel
theorem dX4_close_30 : decode cX4_close 30 = .ok (.getfield 16, 3) := by decide +kernel
theorem dX4_close_33 : decode cX4_close 33 = .ok (.iload_n 1, 1) := by decide +kernel
theorem dX4_close_34 : decode cX4_close 34 = .ok (.iaload, 1) := by decide +kernel
theorem dX4_close_35 : decode cX4_close 35 = .ok (.iconst 2, 1) := by decide +kernel
theorem dX4_close_36 : decode cX4_close 36 = .ok (.if_icmp .ne 8, 3) := by decide +kernel
theorem dX4_close_39 : decode cX4_close 39 = .ok (.bipush (-7), 2) := by decide +kernel
theorem dX4_close_41 : decode cX4_close 41 = .ok (.goto 5, 3) := by decide +kernel
theorem dX4_close_44 : decode cX4_close 44 = .ok (.bipush (-8), 2) := by decide +kernel
theorem dX4_close_46 : decode cX4_close 46 = .ok (.ireturn, 1) := by decide +kernel
theorem dX4_close_47 : decode cX4_close 47 = .ok (.aload_n 0, 1) := by decide +kernel
theorem dX4_close_48 : decode cX4_close 48 = .ok (.getfield 16, 3) := by decide +kernel
theorem dX4_close_51 : decode cX4_close 51 = .ok (.iload_n 1, 1) := by decide +kernel
theorem dX4_close_52 : decode cX4_close 52 = .ok (.iconst 1, 1) := by decide +kernel
theorem dX4_close_53 : decode cX4_close 53 = .ok (.iastore, 1) := by decide +kernel
theorem dX4_close_54 : decode cX4_close 54 = .ok (.iconst 1, 1) := by decide +kernel
theorem dX4_close_55 : decode cX4_close 55 = .ok (.ireturn, 1) := by decide +kernel
theorem dX4_openMany_0 : decode cX4_openMany 0 = .ok (.iconst 0, 1) := by decide +kernel
theorem dX4_openMany_1 : decode cX4_openMany 1 = .ok (.istore_n 2, 1) := by decide +kernel
theorem dX4_openMany_2 : decode cX4_openMany 2 = .ok (.iconst 0, 1) := by decide +kernel
theorem dX4_openMany_3 : decode cX4_openMany 3 = .ok (.istore_n 3, 1) := by decide +kernel
theorem dX4_openMany_4 : decode cX4_openMany 4 = .ok (.iload_n 3, 1) := by decide +kernel
theorem dX4_openMany_5 : decode cX4_openMany 5 = .ok (.aload_n 0, 1) := by decide +kernel
theorem dX4_openMany_6 : decode cX4_openMany 6 = .ok (.getfield 7, 3) := by decide +kernel
theorem dX4_openMany_9 : decode cX4_openMany 9 = .ok (.iload_n 1, 1) := by decide +kernel
theorem dX4_openMany_10 : decode cX4_openMany 10 = .ok (.iaload, 1) := by decide +kernel
theorem dX4_openMany_11 : decode cX4_openMany 11 = .ok (.if_icmp .ge 35, 3) := by decide +kernel
theorem dX4_openMany_14 : decode cX4_openMany 14 = .ok (.iload_n 2, 1) := by decide +kernel
theorem dX4_openMany_15 : decode cX4_openMany 15 = .ok (.aload_n 0, 1) := by decide +kernel
theorem dX4_openMany_16 : decode cX4_openMany 16 = .ok (.iload_n 1, 1) := by decide +kernel
theorem dX4_openMany_17 : decode cX4_openMany 17 = .ok (.aload_n 0, 1) := by decide +kernel
theorem dX4_openMany_18 : decode cX4_openMany 18 = .ok (.getfield 13, 3) := by decide +kernel
theorem dX4_openMany_21 : decode cX4_openMany 21 = .ok (.iload_n 1, 1) := by decide +kernel
theorem dX4_openMany_22 : decode cX4_openMany 22 = .ok (.iaload, 1) := by decide +kernel
theorem dX4_openMany_23 : decode cX4_openMany 23 = .ok (.iconst 1, 1) := by decide +kernel
theorem dX4_openMany_24 : decode cX4_openMany 24 = .ok (.isub, 1) := by decide +kernel
theorem dX4_openMany_25 : decode cX4_openMany 25 = .ok (.iload_n 3, 1) := by decide +kernel
theorem dX4_openMany_26 : decode cX4_openMany 26 = .ok (.isub, 1) := by decide +kernel
theorem dX4_openMany_27 : decode cX4_openMany 27 = .ok (.invokevirtual 180, 3) := by decide +kernel
theorem dX4_openMany_30 : decode cX4_openMany 30 = .ok (.ifCond .eq 7, 3) := by decide +kernel
theorem dX4_openMany_33 : decode cX4_openMany 33 = .ok (.iconst 1, 1) := by decide +kernel
theorem dX4_openMany_34 : decode cX4_openMany 34 = .ok (.goto 4, 3) := by decide +kernel
theorem dX4_openMany_37 : decode cX4_openMany 37 = .ok (.iconst 0, 1) := by decide +kernel
theorem dX4_openMany_38 : decode cX4_openMany 38 = .ok (.iadd, 1) := by decide +kernel
theorem dX4_openMany_39 : decode cX4_openMany 39 = .ok (.istore_n 2, 1) := by decide +kernel
theorem dX4_openMany_40 : decode cX4_openMany 40 = .ok (.iinc 3 1, 3) := by decide +kernel
theorem dX4_openMany_43 : decode cX4_openMany 43 = .ok (.goto (-39), 3) := by decide +kernel
theorem dX4_openMany_46 : decode cX4_openMany 46 = .ok (.iload_n 2, 1) := by decide +kernel
theorem dX4_openMany_47 : decode cX4_openMany 47 = .ok (.ireturn, 1) := by decide +kernel
theorem dX4_leastPlace_0 : decode cX4_leastPlace 0 = .ok (.iconst (-1), 1) := by decide +kernel
theorem dX4_leastPlace_1 : decode cX4_leastPlace 1 = .ok (.istore_n 2, 1) := by decide +kernel
theorem dX4_leastPlace_2 : decode cX4_leastPlace 2 = .ok (.iconst 0, 1) := by decide +kernel
theorem dX4_leastPlace_3 : decode cX4_leastPlace 3 = .ok (.istore_n 3, 1) := by decide +kernel
theorem dX4_leastPlace_4 : decode cX4_leastPlace 4 = .ok (.iload_n 3, 1) := by decide +kernel
theorem dX4_leastPlace_5 : decode cX4_leastPlace 5 = .ok (.aload_n 0, 1) := by decide +kernel
theorem dX4_leastPlace_6 : decode cX4_leastPlace 6 = .ok (.getfield 124, 3) := by decide +kernel
theorem dX4_leastPlace_9 : decode cX4_leastPlace 9 = .ok (.if_icmp .ge 39, 3) := by decide +kernel
theorem dX4_leastPlace_12 : decode cX4_leastPlace 12 = .ok (.aload_n 0, 1) := by decide +kernel
theorem dX4_leastPlace_13 : decode cX4_leastPlace 13 = .ok (.iload_n 3, 1) := by decide +kernel
theorem dX4_leastPlace_14 : decode cX4_leastPlace 14 = .ok (.iload_n 1, 1) := by decide +kernel
theorem dX4_leastPlace_15 : decode cX4_leastPlace 15 = .ok (.invokevirtual 174, 3) := by decide +kernel
theorem dX4_leastPlace_18 : decode cX4_leastPlace 18 = .ok (.ifCond .eq 24, 3) := by decide +kernel
theorem dX4_leastPlace_21 : decode cX4_leastPlace 21 = .ok (.iload_n 2, 1) := by decide +kernel
theorem dX4_leastPlace_22 : decode cX4_leastPlace 22 = .ok (.ifCond .lt 13, 3) := by decide +kernel
theorem dX4_leastPlace_25 : decode cX4_leastPlace 25 = .ok (.aload_n 0, 1) := by decide +kernel
theorem dX4_leastPlace_26 : decode cX4_leastPlace 26 = .ok (.iload_n 3, 1) := by decide +kernel
theorem dX4_leastPlace_27 : decode cX4_leastPlace 27 = .ok (.iload_n 1, 1) := by decide +kernel
theorem dX4_leastPlace_28 : decode cX4_leastPlace 28 = .ok (.invokevirtual 177, 3) := by decide +kernel
theorem dX4_leastPlace_31 : decode cX4_leastPlace 31 = .ok (.iload_n 2, 1) := by decide +kernel
theorem dX4_leastPlace_32 : decode cX4_leastPlace 32 = .ok (.if_icmp .ge 10, 3) := by decide +kernel
theorem dX4_leastPlace_35 : decode cX4_leastPlace 35 = .ok (.aload_n 0, 1) := by decide +kernel
theorem dX4_leastPlace_36 : decode cX4_leastPlace 36 = .ok (.iload_n 3, 1) := by decide +kernel
theorem dX4_leastPlace_37 : decode cX4_leastPlace 37 = .ok (.iload_n 1, 1) := by decide +kernel
theorem dX4_leastPlace_38 : decode cX4_leastPlace 38 = .ok (.invokevirtual 177, 3) := by decide +kernel
theorem dX4_leastPlace_41 : decode cX4_leastPlace 41 = .ok (.istore_n 2, 1) := by decide +kernel
theorem dX4_leastPlace_42 : decode cX4_leastPlace 42 = .ok (.iinc 3 1, 3) := by decide +kernel
theorem dX4_leastPlace_45 : decode cX4_leastPlace 45 = .ok (.goto (-41), 3) := by decide +kernel
theorem dX4_leastPlace_48 : decode cX4_leastPlace 48 = .ok (.iload_n 2, 1) := by decide +kernel
theorem dX4_leastPlace_49 : decode cX4_leastPlace 49 = .ok (.ireturn, 1) := by decide +kernel
theorem dX4_give_0 : decode cX4_give 0 = .ok (.aload_n 0, 1) := by decide +kernel
theorem dX4_give_1 : decode cX4_give 1 = .ok (.iload_n 1, 1) := by decide +kernel
theorem dX4_give_2 : decode cX4_give 2 = .ok (.invokevirtual 142, 3) := by decide +kernel
theorem dX4_give_5 : decode cX4_give 5 = .ok (.ifCond .ne 5, 3) := by decide +kernel
theorem dX4_give_8 : decode cX4_give 8 = .ok (.iconst (-1), 1) := by decide +kernel
theorem dX4_give_9 : decode cX4_give 9 = .ok (.ireturn, 1) := by decide +kernel
theorem dX4_give_10 : decode cX4_give 10 = .ok (.aload_n 0, 1) := by decide +kernel
theorem dX4_give_11 : decode cX4_give 11 = .ok (.getfield 135, 3) := by decide +kernel
theorem dX4_give_14 : decode cX4_give 14 = .ok (.ifCond .ne 6, 3) := by decide +kernel
theorem dX4_give_17 : decode cX4_give 17 = .ok (.bipush (-2), 2) := by decide +kernel
theorem dX4_give_19 : decode cX4_give 19 = .ok (.ireturn, 1) := by decide +kernel
theorem dX4_give_20 : decode cX4_give 20 = .ok (.aload_n 0, 1) := by decide +kernel
theorem dX4_give_21 : decode cX4_give 21 = .ok (.getfield 16, 3) := by decide +kernel
theorem dX4_give_24 : decode cX4_give 24 = .ok (.iload_n 1, 1) := by decide +kernel
theorem dX4_give_25 : decode cX4_give 25 = .ok (.iaload, 1) := by decide +kernel
theorem dX4_give_26 : decode cX4_give 26 = .ok (.iconst 2, 1) := by decide +kernel
theorem dX4_give_27 : decode cX4_give 27 = .ok (.if_icmp .ne 6, 3) := by decide +kernel
theorem dX4_give_30 : decode cX4_give 30 = .ok (.bipush (-7), 2) := by decide +kernel
theorem dX4_give_32 : decode cX4_give 32 = .ok (.ireturn, 1) := by decide +kernel
theorem dX4_give_33 : decode cX4_give 33 = .ok (.aload_n 0, 1) := by decide +kernel
theorem dX4_give_34 : decode cX4_give 34 = .ok (.iload_n 1, 1) := by decide +kernel
theorem dX4_give_35 : decode cX4_give 35 = .ok (.invokevirtual 210, 3) := by decide +kernel
theorem dX4_give_38 : decode cX4_give 38 = .ok (.istore_n 2, 1) := by decide +kernel
theorem dX4_give_39 : decode cX4_give 39 = .ok (.aload_n 0, 1) := by decide +kernel
theorem dX4_give_40 : decode cX4_give 40 = .ok (.iload_n 1, 1) := by decide +kernel
theorem dX4_give_41 : decode cX4_give 41 = .ok (.invokevirtual 213, 3) := by decide +kernel
theorem dX4_give_44 : decode cX4_give 44 = .ok (.ifCond .gt 17, 3) := by decide +kernel
theorem dX4_give_47 : decode cX4_give 47 = .ok (.iload_n 2, 1) := by decide +kernel
theorem dX4_give_48 : decode cX4_give 48 = .ok (.ifCond .lt 16, 3) := by decide +kernel
theorem dX4_give_51 : decode cX4_give 51 = .ok (.iload_n 2, 1) := by decide +kernel
theorem dX4_give_52 : decode cX4_give 52 = .ok (.aload_n 0, 1) := by decide +kernel
theorem dX4_give_53 : decode cX4_give 53 = .ok (.getfield 13, 3) := by decide +kernel
theorem dX4_give_56 : decode cX4_give 56 = .ok (.iload_n 1, 1) := by decide +kernel
theorem dX4_give_57 : decode cX4_give 57 = .ok (.iaload, 1) := by decide +kernel
theorem dX4_give_58 : decode cX4_give 58 = .ok (.if_icmp .ge 6, 3) := by decide +kernel
theorem dX4_give_61 : decode cX4_give 61 = .ok (.bipush (-10), 2) := by decide +kernel
theorem dX4_give_63 : decode cX4_give 63 = .ok (.ireturn, 1) := by decide +kernel
theorem dX4_give_64 : decode cX4_give 64 = .ok (.aload_n 0, 1) := by decide +kernel
theorem dX4_give_65 : decode cX4_give 65 = .ok (.getfield 16, 3) := by decide +kernel
theorem dX4_give_68 : decode cX4_give 68 = .ok (.iload_n 1, 1) := by decide +kernel
theorem dX4_give_69 : decode cX4_give 69 = .ok (.iconst 2, 1) := by decide +kernel
theorem dX4_give_70 : decode cX4_give 70 = .ok (.iastore, 1) := by decide +kernel
theorem dX4_give_71 : decode cX4_give 71 = .ok (.iconst 1, 1) := by decide +kernel
theorem dX4_give_72 : decode cX4_give 72 = .ok (.ireturn, 1) := by decide +kernel
theorem dX4_holders_0 : decode cX4_holders 0 = .ok (.iconst 0, 1) := by decide +kernel
theorem dX4_holders_1 : decode cX4_holders 1 = .ok (.istore_n 2, 1) := by decide +kernel
theorem dX4_holders_2 : decode cX4_holders 2 = .ok (.iconst 0, 1) := by decide +kernel
theorem dX4_holders_3 : decode cX4_holders 3 = .ok (.istore_n 3, 1) := by decide +kernel
theorem dX4_holders_4 : decode cX4_holders 4 = .ok (.iload_n 3, 1) := by decide +kernel
theorem dX4_holders_5 : decode cX4_holders 5 = .ok (.aload_n 0, 1) := by decide +kernel
theorem dX4_holders_6 : decode cX4_holders 6 = .ok (.getfield 124, 3) := by decide +kernel
theorem dX4_holders_9 : decode cX4_holders 9 = .ok (.if_icmp .ge 26, 3) := by decide +kernel
theorem dX4_holders_12 : decode cX4_holders 12 = .ok (.iload_n 2, 1) := by decide +kernel
theorem dX4_holders_13 : decode cX4_holders 13 = .ok (.aload_n 0, 1) := by decide +kernel
theorem dX4_holders_14 : decode cX4_holders 14 = .ok (.iload_n 3, 1) := by decide +kernel
theorem dX4_holders_15 : decode cX4_holders 15 = .ok (.iload_n 1, 1) := by decide +kernel
theorem dX4_holders_16 : decode cX4_holders 16 = .ok (.invokevirtual 174, 3) := by decide +kernel
theorem dX4_holders_19 : decode cX4_holders 19 = .ok (.ifCond .eq 7, 3) := by decide +kernel
theorem dX4_holders_22 : decode cX4_holders 22 = .ok (.iconst 1, 1) := by decide +kernel
theorem dX4_holders_23 : decode cX4_holders 23 = .ok (.goto 4, 3) := by decide +kernel
theorem dX4_holders_26 : decode cX4_holders 26 = .ok (.iconst 0, 1) := by decide +kernel
theorem dX4_holders_27 : decode cX4_holders 27 = .ok (.iadd, 1) := by decide +kernel
theorem dX4_holders_28 : decode cX4_holders 28 = .ok (.istore_n 2, 1) := by decide +kernel
theorem dX4_holders_29 : decode cX4_holders 29 = .ok (.iinc 3 1, 3) := by decide +kernel
theorem dX4_holders_32 : decode cX4_holders 32 = .ok (.goto (-28), 3) := by decide +kernel
theorem dX4_holders_35 : decode cX4_holders 35 = .ok (.iload_n 2, 1) := by decide +kernel
theorem dX4_holders_36 : decode cX4_holders 36 = .ok (.ireturn, 1) := by decide +kernel
theorem dX4_told_0 : decode cX4_told 0 = .ok (.iload_n 2, 1) := by decide +kernel
theorem dX4_told_1 : decode cX4_told 1 = .ok (.ifCond .lt 9, 3) := by decide +kernel
theorem dX4_told_4 : decode cX4_told 4 = .ok (.iload_n 2, 1) := by decide +kernel
theorem dX4_told_5 : decode cX4_told 5 = .ok (.bipush 6, 2) := by decide +kernel
theorem dX4_told_7 : decode cX4_told 7 = .ok (.if_icmp .le 5, 3) := by decide +kernel
theorem dX4_told_10 : decode cX4_told 10 = .ok (.iconst (-1), 1) := by decide +kernel
theorem dX4_told_11 : decode cX4_told 11 = .ok (.ireturn, 1) := by decide +kernel
theorem dX4_told_12 : decode cX4_told 12 = .ok (.aload_n 0, 1) := by decide +kernel
theorem dX4_told_13 : decode cX4_told 13 = .ok (.iload_n 1, 1) := by decide +kernel
theorem dX4_told_14 : decode cX4_told 14 = .ok (.invokevirtual 142, 3) := by decide +kernel
theorem dX4_told_17 : decode cX4_told 17 = .ok (.ifCond .ne 9, 3) := by decide +kernel
theorem dX4_told_20 : decode cX4_told 20 = .ok (.aload_n 0, 1) := by decide +kernel
theorem dX4_told_21 : decode cX4_told 21 = .ok (.iconst 2, 1) := by decide +kernel
theorem dX4_told_22 : decode cX4_told 22 = .ok (.invokevirtual 131, 3) := by decide +kernel
theorem dX4_told_25 : decode cX4_told 25 = .ok (.ireturn, 1) := by decide +kernel
theorem dX4_told_26 : decode cX4_told 26 = .ok (.iload_n 2, 1) := by decide +kernel
theorem dX4_told_27 : decode cX4_told 27 = .ok (.tableswitch 83 0 5 #[37, 44, 51, 57, 63, 69], 37) := by decide +kernel
theorem dX4_told_64 : decode cX4_told 64 = .ok (.aload_n 0, 1) := by decide +kernel
theorem dX4_told_65 : decode cX4_told 65 = .ok (.getfield 7, 3) := by decide +kernel
theorem dX4_told_68 : decode cX4_told 68 = .ok (.iload_n 1, 1) := by decide +kernel
theorem dX4_told_69 : decode cX4_told 69 = .ok (.iaload, 1) := by decide +kernel
theorem dX4_told_70 : decode cX4_told 70 = .ok (.ireturn, 1) := by decide +kernel
theorem dX4_told_71 : decode cX4_told 71 = .ok (.aload_n 0, 1) := by decide +kernel
theorem dX4_told_72 : decode cX4_told 72 = .ok (.getfield 13, 3) := by decide +kernel
theorem dX4_told_75 : decode cX4_told 75 = .ok (.iload_n 1, 1) := by decide +kernel
theorem dX4_told_76 : decode cX4_told 76 = .ok (.iaload, 1) := by decide +kernel
theorem dX4_told_77 : decode cX4_told 77 = .ok (.ireturn, 1) := by decide +kernel
theorem dX4_told_78 : decode cX4_told 78 = .ok (.aload_n 0, 1) := by decide +kernel
theorem dX4_told_79 : decode cX4_told 79 = .ok (.iload_n 1, 1) := by decide +kernel
theorem dX4_told_80 : decode cX4_told 80 = .ok (.invokevirtual 213, 3) := by decide +kernel
theorem dX4_told_83 : decode cX4_told 83 = .ok (.ireturn, 1) := by decide +kernel
theorem dX4_told_84 : decode cX4_told 84 = .ok (.aload_n 0, 1) := by decide +kernel
theorem dX4_told_85 : decode cX4_told 85 = .ok (.iload_n 1, 1) := by decide +kernel
theorem dX4_told_86 : decode cX4_told 86 = .ok (.invokevirtual 210, 3) := by decide +kernel
theorem dX4_told_89 : decode cX4_told 89 = .ok (.ireturn, 1) := by decide +kernel
theorem dX4_told_90 : decode cX4_told 90 = .ok (.aload_n 0, 1) := by decide +kernel
theorem dX4_told_91 : decode cX4_told 91 = .ok (.iload_n 1, 1) := by decide +kernel
theorem dX4_told_92 : decode cX4_told 92 = .ok (.invokevirtual 216, 3) := by decide +kernel
theorem dX4_told_95 : decode cX4_told 95 = .ok (.ireturn, 1) := by decide +kernel
theorem dX4_told_96 : decode cX4_told 96 = .ok (.aload_n 0, 1) := by decide +kernel
theorem dX4_told_97 : decode cX4_told 97 = .ok (.iload_n 1, 1) := by decide +kernel
theorem dX4_told_98 : decode cX4_told 98 = .ok (.invokevirtual 219, 3) := by decide +kernel
theorem dX4_told_101 : decode cX4_told 101 = .ok (.ifCond .eq 7, 3) := by decide +kernel
theorem dX4_told_104 : decode cX4_told 104 = .ok (.iconst 1, 1) := by decide +kernel
theorem dX4_told_105 : decode cX4_told 105 = .ok (.goto 4, 3) := by decide +kernel
theorem dX4_told_108 : decode cX4_told 108 = .ok (.iconst 0, 1) := by decide +kernel
theorem dX4_told_109 : decode cX4_told 109 = .ok (.ireturn, 1) := by decide +kernel
theorem dX4_told_110 : decode cX4_told 110 = .ok (.aload_n 0, 1) := by decide +kernel
theorem dX4_told_111 : decode cX4_told 111 = .ok (.getfield 16, 3) := by decide +kernel
theorem dX4_told_114 : decode cX4_told 114 = .ok (.iload_n 1, 1) := by decide +kernel
theorem dX4_told_115 : decode cX4_told 115 = .ok (.iaload, 1) := by decide +kernel
theorem dX4_told_116 : decode cX4_told 116 = .ok (.ireturn, 1) := by decide +kernel
theorem dX4_last_0 : decode cX4_last 0 = .ok (.aload_n 0, 1) := by decide +kernel
theorem dX4_last_1 : decode cX4_last 1 = .ok (.iload_n 1, 1) := by decide +kernel
theorem dX4_last_2 : decode cX4_last 2 = .ok (.invokevirtual 142, 3) := by decide +kernel
theorem dX4_last_5 : decode cX4_last 5 = .ok (.ifCond .eq 12, 3) := by decide +kernel
theorem dX4_last_8 : decode cX4_last 8 = .ok (.aload_n 0, 1) := by decide +kernel
theorem dX4_last_9 : decode cX4_last 9 = .ok (.getfield 19, 3) := by decide +kernel
theorem dX4_last_12 : decode cX4_last 12 = .ok (.iload_n 1, 1) := by decide +kernel
theorem dX4_last_13 : decode cX4_last 13 = .ok (.laload, 1) := by decide +kernel
theorem dX4_last_14 : decode cX4_last 14 = .ok (.goto 4, 3) := by decide +kernel
theorem dX4_last_17 : decode cX4_last 17 = .ok (.lconst 0, 1) := by decide +kernel
theorem dX4_last_18 : decode cX4_last 18 = .ok (.lreturn, 1) := by decide +kernel
theorem dX4_seen_0 : decode cX4_seen 0 = .ok (.aload_n 0, 1) := by decide +kernel
theorem dX4_seen_1 : decode cX4_seen 1 = .ok (.getfield 13, 3) := by decide +kernel
theorem dX4_seen_4 : decode cX4_seen 4 = .ok (.iload_n 1, 1) := by decide +kernel
theorem dX4_seen_5 : decode cX4_seen 5 = .ok (.iaload, 1) := by decide +kernel
theorem dX4_seen_6 : decode cX4_seen 6 = .ok (.iconst 1, 1) := by decide +kernel
theorem dX4_seen_7 : decode cX4_seen 7 = .ok (.isub, 1) := by decide +kernel
theorem dX4_seen_8 : decode cX4_seen 8 = .ok (.istore_n 2, 1) := by decide +kernel
theorem dX4_seen_9 : decode cX4_seen 9 = .ok (.iload_n 2, 1) := by decide +kernel
theorem dX4_seen_10 : decode cX4_seen 10 = .ok (.ifCond .lt 35, 3) := by decide +kernel
theorem dX4_seen_13 : decode cX4_seen 13 = .ok (.iload_n 2, 1) := by decide +kernel
theorem dX4_seen_14 : decode cX4_seen 14 = .ok (.aload_n 0, 1) := by decide +kernel
theorem dX4_seen_15 : decode cX4_seen 15 = .ok (.getfield 13, 3) := by decide +kernel
theorem dX4_seen_18 : decode cX4_seen 18 = .ok (.iload_n 1, 1) := by decide +kernel
theorem dX4_seen_19 : decode cX4_seen 19 = .ok (.iaload, 1) := by decide +kernel
theorem dX4_seen_20 : decode cX4_seen 20 = .ok (.aload_n 0, 1) := by decide +kernel
theorem dX4_seen_21 : decode cX4_seen 21 = .ok (.getfield 7, 3) := by decide +kernel
theorem dX4_seen_24 : decode cX4_seen 24 = .ok (.iload_n 1, 1) := by decide +kernel
theorem dX4_seen_25 : decode cX4_seen 25 = .ok (.iaload, 1) := by decide +kernel
theorem dX4_seen_26 : decode cX4_seen 26 = .ok (.isub, 1) := by decide +kernel
theorem dX4_seen_27 : decode cX4_seen 27 = .ok (.if_icmp .lt 18, 3) := by decide +kernel
theorem dX4_seen_30 : decode cX4_seen 30 = .ok (.aload_n 0, 1) := by decide +kernel
theorem dX4_seen_31 : decode cX4_seen 31 = .ok (.iload_n 1, 1) := by decide +kernel
theorem dX4_seen_32 : decode cX4_seen 32 = .ok (.iload_n 2, 1) := by decide +kernel
theorem dX4_seen_33 : decode cX4_seen 33 = .ok (.invokevirtual 222, 3) := by decide +kernel
theorem dX4_seen_36 : decode cX4_seen 36 = .ok (.ifCond .ne 9, 3) := by decide +kernel
theorem dX4_seen_39 : decode cX4_seen 39 = .ok (.iinc 2 (-1), 3) := by decide +kernel
theorem dX4_seen_42 : decode cX4_seen 42 = .ok (.goto (-33), 3) := by decide +kernel
theorem dX4_seen_45 : decode cX4_seen 45 = .ok (.aload_n 0, 1) := by decide +kernel
theorem dX4_seen_46 : decode cX4_seen 46 = .ok (.iload_n 1, 1) := by decide +kernel
theorem dX4_seen_47 : decode cX4_seen 47 = .ok (.iload_n 2, 1) := by decide +kernel
theorem dX4_seen_48 : decode cX4_seen 48 = .ok (.invokevirtual 222, 3) := by decide +kernel
theorem dX4_seen_51 : decode cX4_seen 51 = .ok (.ifCond .eq 7, 3) := by decide +kernel
theorem dX4_seen_54 : decode cX4_seen 54 = .ok (.iload_n 2, 1) := by decide +kernel
theorem dX4_seen_55 : decode cX4_seen 55 = .ok (.goto 4, 3) := by decide +kernel
theorem dX4_seen_58 : decode cX4_seen 58 = .ok (.iconst (-1), 1) := by decide +kernel
theorem dX4_seen_59 : decode cX4_seen 59 = .ok (.ireturn, 1) := by decide +kernel
theorem dX4_from_0 : decode cX4_from 0 = .ok (.aload_n 0, 1) := by decide +kernel
theorem dX4_from_1 : decode cX4_from 1 = .ok (.getfield 42, 3) := by decide +kernel
theorem dX4_from_4 : decode cX4_from 4 = .ok (.iconst 4, 1) := by decide +kernel
theorem dX4_from_5 : decode cX4_from 5 = .ok (.iload_n 1, 1) := by decide +kernel
theorem dX4_from_6 : decode cX4_from 6 = .ok (.imul, 1) := by decide +kernel
theorem dX4_from_7 : decode cX4_from 7 = .ok (.iaload, 1) := by decide +kernel
theorem dX4_from_8 : decode cX4_from 8 = .ok (.istore_n 2, 1) := by decide +kernel
theorem dX4_from_9 : decode cX4_from 9 = .ok (.aload_n 0, 1) := by decide +kernel
theorem dX4_from_10 : decode cX4_from 10 = .ok (.getfield 45, 3) := by decide +kernel
theorem dX4_from_13 : decode cX4_from 13 = .ok (.iconst 4, 1) := by decide +kernel
theorem dX4_from_14 : decode cX4_from 14 = .ok (.iload_n 1, 1) := by decide +kernel
theorem dX4_from_15 : decode cX4_from 15 = .ok (.imul, 1) := by decide +kernel
theorem dX4_from_16 : decode cX4_from 16 = .ok (.iaload, 1) := by decide +kernel
theorem dX4_from_17 : decode cX4_from 17 = .ok (.istore_n 3, 1) := by decide +kernel
theorem dX4_from_18 : decode cX4_from 18 = .ok (.aload_n 0, 1) := by decide +kernel
theorem dX4_from_19 : decode cX4_from 19 = .ok (.getfield 13, 3) := by decide +kernel
theorem dX4_from_22 : decode cX4_from 22 = .ok (.iload_n 2, 1) := by decide +kernel
theorem dX4_from_23 : decode cX4_from 23 = .ok (.iaload, 1) := by decide +kernel
theorem dX4_from_24 : decode cX4_from 24 = .ok (.aload_n 0, 1) := by decide +kernel
theorem dX4_from_25 : decode cX4_from 25 = .ok (.getfield 7, 3) := by decide +kernel
theorem dX4_from_28 : decode cX4_from 28 = .ok (.iload_n 2, 1) := by decide +kernel
theorem dX4_from_29 : decode cX4_from 29 = .ok (.iaload, 1) := by decide +kernel
theorem dX4_from_30 : decode cX4_from 30 = .ok (.isub, 1) := by decide +kernel
theorem dX4_from_31 : decode cX4_from 31 = .ok (.istore 4, 2) := by decide +kernel
theorem dX4_from_33 : decode cX4_from 33 = .ok (.aload_n 0, 1) := by decide +kernel
theorem dX4_from_34 : decode cX4_from 34 = .ok (.getfield 39, 3) := by decide +kernel
theorem dX4_from_37 : decode cX4_from 37 = .ok (.iload_n 1, 1) := by decide +kernel
theorem dX4_from_38 : decode cX4_from 38 = .ok (.iaload, 1) := by decide +kernel
theorem dX4_from_39 : decode cX4_from 39 = .ok (.iconst 3, 1) := by decide +kernel
theorem dX4_from_40 : decode cX4_from 40 = .ok (.if_icmp .ne 14, 3) := by decide +kernel
theorem dX4_from_43 : decode cX4_from 43 = .ok (.iload 4, 2) := by decide +kernel
theorem dX4_from_45 : decode cX4_from 45 = .ok (.iload_n 3, 1) := by decide +kernel
theorem dX4_from_46 : decode cX4_from 46 = .ok (.if_icmp .le 8, 3) := by decide +kernel
theorem dX4_from_49 : decode cX4_from 49 = .ok (.iload 4, 2) := by decide +kernel
theorem dX4_from_51 : decode cX4_from 51 = .ok (.goto 4, 3) := by decide +kernel
theorem dX4_from_54 : decode cX4_from 54 = .ok (.iload_n 3, 1) := by decide +kernel
theorem dX4_from_55 : decode cX4_from 55 = .ok (.ireturn, 1) := by decide +kernel
theorem dX4_behind_0 : decode cX4_behind 0 = .ok (.aload_n 0, 1) := by decide +kernel
theorem dX4_behind_1 : decode cX4_behind 1 = .ok (.getfield 42, 3) := by decide +kernel
theorem dX4_behind_4 : decode cX4_behind 4 = .ok (.iconst 4, 1) := by decide +kernel
theorem dX4_behind_5 : decode cX4_behind 5 = .ok (.iload_n 1, 1) := by decide +kernel
theorem dX4_behind_6 : decode cX4_behind 6 = .ok (.imul, 1) := by decide +kernel
theorem dX4_behind_7 : decode cX4_behind 7 = .ok (.iaload, 1) := by decide +kernel
theorem dX4_behind_8 : decode cX4_behind 8 = .ok (.istore_n 2, 1) := by decide +kernel
theorem dX4_behind_9 : decode cX4_behind 9 = .ok (.iconst (-1), 1) := by decide +kernel
theorem dX4_behind_10 : decode cX4_behind 10 = .ok (.istore_n 3, 1) := by decide +kernel
theorem dX4_behind_11 : decode cX4_behind 11 = .ok (.iconst 0, 1) := by decide +kernel
theorem dX4_behind_12 : decode cX4_behind 12 = .ok (.istore 4, 2) := by decide +kernel
theorem dX4_behind_14 : decode cX4_behind 14 = .ok (.iload 4, 2) := by decide +kernel
theorem dX4_behind_16 : decode cX4_behind 16 = .ok (.aload_n 0, 1) := by decide +kernel
theorem dX4_behind_17 : decode cX4_behind 17 = .ok (.getfield 54, 3) := by decide +kernel
theorem dX4_behind_20 : decode cX4_behind 20 = .ok (.iload_n 1, 1) := by decide +kernel
theorem dX4_behind_21 : decode cX4_behind 21 = .ok (.iaload, 1) := by decide +kernel
theorem dX4_behind_22 : decode cX4_behind 22 = .ok (.if_icmp .ge 69, 3) := by decide +kernel
theorem dX4_behind_25 : decode cX4_behind 25 = .ok (.aload_n 0, 1) := by decide +kernel
theorem dX4_behind_26 : decode cX4_behind 26 = .ok (.getfield 51, 3) := by decide +kernel
theorem dX4_behind_29 : decode cX4_behind 29 = .ok (.iconst 4, 1) := by decide +kernel
theorem dX4_behind_30 : decode cX4_behind 30 = .ok (.iload_n 1, 1) := by decide +kernel
theorem dX4_behind_31 : decode cX4_behind 31 = .ok (.imul, 1) := by decide +kernel
theorem dX4_behind_32 : decode cX4_behind 32 = .ok (.iload 4, 2) := by decide +kernel
theorem dX4_behind_34 : decode cX4_behind 34 = .ok (.iadd, 1) := by decide +kernel
theorem dX4_behind_35 : decode cX4_behind 35 = .ok (.iaload, 1) := by decide +kernel
theorem dX4_behind_36 : decode cX4_behind 36 = .ok (.istore 5, 2) := by decide +kernel
theorem dX4_behind_38 : decode cX4_behind 38 = .ok (.aload_n 0, 1) := by decide +kernel
theorem dX4_behind_39 : decode cX4_behind 39 = .ok (.iload 5, 2) := by decide +kernel
theorem dX4_behind_41 : decode cX4_behind 41 = .ok (.iload_n 2, 1) := by decide +kernel
theorem dX4_behind_42 : decode cX4_behind 42 = .ok (.invokevirtual 177, 3) := by decide +kernel
theorem dX4_behind_45 : decode cX4_behind 45 = .ok (.aload_n 0, 1) := by decide +kernel
theorem dX4_behind_46 : decode cX4_behind 46 = .ok (.getfield 45, 3) := by decide +kernel
theorem dX4_behind_49 : decode cX4_behind 49 = .ok (.iconst 4, 1) := by decide +kernel
theorem dX4_behind_50 : decode cX4_behind 50 = .ok (.iload_n 1, 1) := by decide +kernel
theorem dX4_behind_51 : decode cX4_behind 51 = .ok (.imul, 1) := by decide +kernel
theorem dX4_behind_52 : decode cX4_behind 52 = .ok (.iaload, 1) := by decide +kernel
theorem dX4_behind_53 : decode cX4_behind 53 = .ok (.if_icmp .gt 7, 3) := by decide +kernel
theorem dX4_behind_56 : decode cX4_behind 56 = .ok (.iconst 1, 1) := by decide +kernel
theorem dX4_behind_57 : decode cX4_behind 57 = .ok (.goto 4, 3) := by decide +kernel
theorem dX4_behind_60 : decode cX4_behind 60 = .ok (.iconst 0, 1) := by decide +kernel
theorem dX4_behind_61 : decode cX4_behind 61 = .ok (.istore 6, 2) := by decide +kernel
theorem dX4_behind_63 : decode cX4_behind 63 = .ok (.iload 6, 2) := by decide +kernel
theorem dX4_behind_65 : decode cX4_behind 65 = .ok (.ifCond .eq 18, 3) := by decide +kernel
theorem dX4_behind_68 : decode cX4_behind 68 = .ok (.iload_n 3, 1) := by decide +kernel
theorem dX4_behind_69 : decode cX4_behind 69 = .ok (.ifCond .lt 9, 3) := by decide +kernel
theorem dX4_behind_72 : decode cX4_behind 72 = .ok (.iload 5, 2) := by decide +kernel
theorem dX4_behind_74 : decode cX4_behind 74 = .ok (.iload_n 3, 1) := by decide +kernel
theorem dX4_behind_75 : decode cX4_behind 75 = .ok (.if_icmp .ge 8, 3) := by decide +kernel
theorem dX4_behind_78 : decode cX4_behind 78 = .ok (.iload 5, 2) := by decide +kernel
theorem dX4_behind_80 : decode cX4_behind 80 = .ok (.goto 4, 3) := by decide +kernel
theorem dX4_behind_83 : decode cX4_behind 83 = .ok (.iload_n 3, 1) := by decide +kernel
theorem dX4_behind_84 : decode cX4_behind 84 = .ok (.istore_n 3, 1) := by decide +kernel
theorem dX4_behind_85 : decode cX4_behind 85 = .ok (.iinc 4 1, 3) := by decide +kernel
theorem dX4_behind_88 : decode cX4_behind 88 = .ok (.goto (-74), 3) := by decide +kernel
theorem dX4_behind_91 : decode cX4_behind 91 = .ok (.iload_n 3, 1) := by decide +kernel
theorem dX4_behind_92 : decode cX4_behind 92 = .ok (.ireturn, 1) := by decide +kernel
theorem dX4_isPassed_0 : decode cX4_isPassed 0 = .ok (.aload_n 0, 1) := by decide +kernel
theorem dX4_isPassed_1 : decode cX4_isPassed 1 = .ok (.getfield 42, 3) := by decide +kernel
theorem dX4_isPassed_4 : decode cX4_isPassed 4 = .ok (.iconst 4, 1) := by decide +kernel
theorem dX4_isPassed_5 : decode cX4_isPassed 5 = .ok (.iload_n 1, 1) := by decide +kernel
theorem dX4_isPassed_6 : decode cX4_isPassed 6 = .ok (.imul, 1) := by decide +kernel
theorem dX4_isPassed_7 : decode cX4_isPassed 7 = .ok (.iload_n 2, 1) := by decide +kernel
theorem dX4_isPassed_8 : decode cX4_isPassed 8 = .ok (.iadd, 1) := by decide +kernel
theorem dX4_isPassed_9 : decode cX4_isPassed 9 = .ok (.iaload, 1) := by decide +kernel
theorem dX4_isPassed_10 : decode cX4_isPassed 10 = .ok (.istore_n 3, 1) := by decide +kernel
theorem dX4_isPassed_11 : decode cX4_isPassed 11 = .ok (.aload_n 0, 1) := by decide +kernel
theorem dX4_isPassed_12 : decode cX4_isPassed 12 = .ok (.getfield 16, 3) := by decide +kernel
theorem dX4_isPassed_15 : decode cX4_isPassed 15 = .ok (.iload_n 3, 1) := by decide +kernel
theorem dX4_isPassed_16 : decode cX4_isPassed 16 = .ok (.iaload, 1) := by decide +kernel
theorem dX4_isPassed_17 : decode cX4_isPassed 17 = .ok (.iconst 2, 1) := by decide +kernel
theorem dX4_isPassed_18 : decode cX4_isPassed 18 = .ok (.if_icmp .eq 32, 3) := by decide +kernel
theorem dX4_isPassed_21 : decode cX4_isPassed 21 = .ok (.aload_n 0, 1) := by decide +kernel
theorem dX4_isPassed_22 : decode cX4_isPassed 22 = .ok (.getfield 16, 3) := by decide +kernel
theorem dX4_isPassed_25 : decode cX4_isPassed 25 = .ok (.iload_n 3, 1) := by decide +kernel
theorem dX4_isPassed_26 : decode cX4_isPassed 26 = .ok (.iaload, 1) := by decide +kernel
theorem dX4_isPassed_27 : decode cX4_isPassed 27 = .ok (.iconst 1, 1) := by decide +kernel
theorem dX4_isPassed_28 : decode cX4_isPassed 28 = .ok (.if_icmp .ne 26, 3) := by decide +kernel
theorem dX4_isPassed_31 : decode cX4_isPassed 31 = .ok (.aload_n 0, 1) := by decide +kernel
theorem dX4_isPassed_32 : decode cX4_isPassed 32 = .ok (.getfield 45, 3) := by decide +kernel
theorem dX4_isPassed_35 : decode cX4_isPassed 35 = .ok (.iconst 4, 1) := by decide +kernel
theorem dX4_isPassed_36 : decode cX4_isPassed 36 = .ok (.iload_n 1, 1) := by decide +kernel
theorem dX4_isPassed_37 : decode cX4_isPassed 37 = .ok (.imul, 1) := by decide +kernel
theorem dX4_isPassed_38 : decode cX4_isPassed 38 = .ok (.iload_n 2, 1) := by decide +kernel
theorem dX4_isPassed_39 : decode cX4_isPassed 39 = .ok (.iadd, 1) := by decide +kernel
theorem dX4_isPassed_40 : decode cX4_isPassed 40 = .ok (.iaload, 1) := by decide +kernel
theorem dX4_isPassed_41 : decode cX4_isPassed 41 = .ok (.aload_n 0, 1) := by decide +kernel
theorem dX4_isPassed_42 : decode cX4_isPassed 42 = .ok (.getfield 13, 3) := by decide +kernel
theorem dX4_isPassed_45 : decode cX4_isPassed 45 = .ok (.iload_n 3, 1) := by decide +kernel
theorem dX4_isPassed_46 : decode cX4_isPassed 46 = .ok (.iaload, 1) := by decide +kernel
theorem dX4_isPassed_47 : decode cX4_isPassed 47 = .ok (.if_icmp .ne 7, 3) := by decide +kernel
theorem dX4_isPassed_50 : decode cX4_isPassed 50 = .ok (.iconst 1, 1) := by decide +kernel
theorem dX4_isPassed_51 : decode cX4_isPassed 51 = .ok (.goto 4, 3) := by decide +kernel
theorem dX4_isPassed_54 : decode cX4_isPassed 54 = .ok (.iconst 0, 1) := by decide +kernel
theorem dX4_isPassed_55 : decode cX4_isPassed 55 = .ok (.ireturn, 1) := by decide +kernel
theorem dX4_lacking_0 : decode cX4_lacking 0 = .ok (.bipush (-2), 2) := by decide +kernel
theorem dX4_lacking_2 : decode cX4_lacking 2 = .ok (.istore_n 2, 1) := by decide +kernel
theorem dX4_lacking_3 : decode cX4_lacking 3 = .ok (.bipush 8, 2) := by decide +kernel
theorem dX4_lacking_5 : decode cX4_lacking 5 = .ok (.istore_n 3, 1) := by decide +kernel
theorem dX4_lacking_6 : decode cX4_lacking 6 = .ok (.iconst 0, 1) := by decide +kernel
theorem dX4_lacking_7 : decode cX4_lacking 7 = .ok (.istore 4, 2) := by decide +kernel
theorem dX4_lacking_9 : decode cX4_lacking 9 = .ok (.iload 4, 2) := by decide +kernel
theorem dX4_lacking_11 : decode cX4_lacking 11 = .ok (.aload_n 0, 1) := by decide +kernel
theorem dX4_lacking_12 : decode cX4_lacking 12 = .ok (.getfield 48, 3) := by decide +kernel
theorem dX4_lacking_15 : decode cX4_lacking 15 = .ok (.iload_n 1, 1) := by decide +kernel
theorem dX4_lacking_16 : decode cX4_lacking 16 = .ok (.iaload, 1) := by decide +kernel
theorem dX4_lacking_17 : decode cX4_lacking 17 = .ok (.if_icmp .ge 67, 3) := by decide +kernel
theorem dX4_lacking_20 : decode cX4_lacking 20 = .ok (.aload_n 0, 1) := by decide +kernel
theorem dX4_lacking_21 : decode cX4_lacking 21 = .ok (.getfield 42, 3) := by decide +kernel
theorem dX4_lacking_24 : decode cX4_lacking 24 = .ok (.iconst 4, 1) := by decide +kernel
theorem dX4_lacking_25 : decode cX4_lacking 25 = .ok (.iload_n 1, 1) := by decide +kernel
theorem dX4_lacking_26 : decode cX4_lacking 26 = .ok (.imul, 1) := by decide +kernel
theorem dX4_lacking_27 : decode cX4_lacking 27 = .ok (.iload 4, 2) := by decide +kernel
theorem dX4_lacking_29 : decode cX4_lacking 29 = .ok (.iadd, 1) := by decide +kernel
theorem dX4_lacking_30 : decode cX4_lacking 30 = .ok (.iaload, 1) := by decide +kernel
theorem dX4_lacking_31 : decode cX4_lacking 31 = .ok (.istore 5, 2) := by decide +kernel
theorem dX4_lacking_33 : decode cX4_lacking 33 = .ok (.aload_n 0, 1) := by decide +kernel
theorem dX4_lacking_34 : decode cX4_lacking 34 = .ok (.iload_n 1, 1) := by decide +kernel
theorem dX4_lacking_35 : decode cX4_lacking 35 = .ok (.iload 4, 2) := by decide +kernel
theorem dX4_lacking_37 : decode cX4_lacking 37 = .ok (.invokevirtual 225, 3) := by decide +kernel
theorem dX4_lacking_40 : decode cX4_lacking 40 = .ok (.ifCond .ne 38, 3) := by decide +kernel
theorem dX4_lacking_43 : decode cX4_lacking 43 = .ok (.iconst (-1), 1) := by decide +kernel
theorem dX4_lacking_44 : decode cX4_lacking 44 = .ok (.istore_n 2, 1) := by decide +kernel
theorem dX4_lacking_45 : decode cX4_lacking 45 = .ok (.aload_n 0, 1) := by decide +kernel
theorem dX4_lacking_46 : decode cX4_lacking 46 = .ok (.iload 5, 2) := by decide +kernel
theorem dX4_lacking_48 : decode cX4_lacking 48 = .ok (.aload_n 0, 1) := by decide +kernel
theorem dX4_lacking_49 : decode cX4_lacking 49 = .ok (.getfield 45, 3) := by decide +kernel
theorem dX4_lacking_52 : decode cX4_lacking 52 = .ok (.iconst 4, 1) := by decide +kernel
theorem dX4_lacking_53 : decode cX4_lacking 53 = .ok (.iload_n 1, 1) := by decide +kernel
theorem dX4_lacking_54 : decode cX4_lacking 54 = .ok (.imul, 1) := by decide +kernel
theorem dX4_lacking_55 : decode cX4_lacking 55 = .ok (.iload 4, 2) := by decide +kernel
theorem dX4_lacking_57 : decode cX4_lacking 57 = .ok (.iadd, 1) := by decide +kernel
theorem dX4_lacking_58 : decode cX4_lacking 58 = .ok (.iaload, 1) := by decide +kernel
theorem dX4_lacking_59 : decode cX4_lacking 59 = .ok (.invokevirtual 222, 3) := by decide +kernel
theorem dX4_lacking_62 : decode cX4_lacking 62 = .ok (.ifCond .ne 14, 3) := by decide +kernel
theorem dX4_lacking_65 : decode cX4_lacking 65 = .ok (.iload 5, 2) := by decide +kernel
theorem dX4_lacking_67 : decode cX4_lacking 67 = .ok (.iload_n 3, 1) := by decide +kernel
theorem dX4_lacking_68 : decode cX4_lacking 68 = .ok (.if_icmp .ge 8, 3) := by decide +kernel
theorem dX4_lacking_71 : decode cX4_lacking 71 = .ok (.iload 5, 2) := by decide +kernel
theorem dX4_lacking_73 : decode cX4_lacking 73 = .ok (.goto 4, 3) := by decide +kernel
theorem dX4_lacking_76 : decode cX4_lacking 76 = .ok (.iload_n 3, 1) := by decide +kernel
theorem dX4_lacking_77 : decode cX4_lacking 77 = .ok (.istore_n 3, 1) := by decide +kernel
theorem dX4_lacking_78 : decode cX4_lacking 78 = .ok (.iinc 4 1, 3) := by decide +kernel
theorem dX4_lacking_81 : decode cX4_lacking 81 = .ok (.goto (-72), 3) := by decide +kernel
theorem dX4_lacking_84 : decode cX4_lacking 84 = .ok (.iload_n 3, 1) := by decide +kernel
theorem dX4_lacking_85 : decode cX4_lacking 85 = .ok (.bipush 8, 2) := by decide +kernel
theorem dX4_lacking_87 : decode cX4_lacking 87 = .ok (.if_icmp .ge 7, 3) := by decide +kernel
theorem dX4_lacking_90 : decode cX4_lacking 90 = .ok (.iload_n 3, 1) := by decide +kernel
theorem dX4_lacking_91 : decode cX4_lacking 91 = .ok (.goto 4, 3) := by decide +kernel
theorem dX4_lacking_94 : decode cX4_lacking 94 = .ok (.iload_n 2, 1) := by decide +kernel
theorem dX4_lacking_95 : decode cX4_lacking 95 = .ok (.ireturn, 1) := by decide +kernel
theorem dX4_whyOne_0 : decode cX4_whyOne 0 = .ok (.aload_n 0, 1) := by decide +kernel
theorem dX4_whyOne_1 : decode cX4_whyOne 1 = .ok (.getfield 39, 3) := by decide +kernel
theorem dX4_whyOne_4 : decode cX4_whyOne 4 = .ok (.iload_n 1, 1) := by decide +kernel
theorem dX4_whyOne_5 : decode cX4_whyOne 5 = .ok (.iaload, 1) := by decide +kernel
theorem dX4_whyOne_6 : decode cX4_whyOne 6 = .ok (.istore_n 2, 1) := by decide +kernel
theorem dX4_whyOne_7 : decode cX4_whyOne 7 = .ok (.aload_n 0, 1) := by decide +kernel
theorem dX4_whyOne_8 : decode cX4_whyOne 8 = .ok (.getfield 42, 3) := by decide +kernel
theorem dX4_whyOne_11 : decode cX4_whyOne 11 = .ok (.iconst 4, 1) := by decide +kernel
theorem dX4_whyOne_12 : decode cX4_whyOne 12 = .ok (.iload_n 1, 1) := by decide +kernel
theorem dX4_whyOne_13 : decode cX4_whyOne 13 = .ok (.imul, 1) := by decide +kernel
theorem dX4_whyOne_14 : decode cX4_whyOne 14 = .ok (.iaload, 1) := by decide +kernel
theorem dX4_whyOne_15 : decode cX4_whyOne 15 = .ok (.istore_n 3, 1) := by decide +kernel
theorem dX4_whyOne_16 : decode cX4_whyOne 16 = .ok (.iload_n 2, 1) := by decide +kernel
theorem dX4_whyOne_17 : decode cX4_whyOne 17 = .ok (.iconst 4, 1) := by decide +kernel
theorem dX4_whyOne_18 : decode cX4_whyOne 18 = .ok (.if_icmp .ne 18, 3) := by decide +kernel
theorem dX4_whyOne_21 : decode cX4_whyOne 21 = .ok (.aload_n 0, 1) := by decide +kernel
theorem dX4_whyOne_22 : decode cX4_whyOne 22 = .ok (.getfield 90, 3) := by decide +kernel
theorem dX4_whyOne_25 : decode cX4_whyOne 25 = .ok (.iload_n 1, 1) := by decide +kernel
theorem dX4_whyOne_26 : decode cX4_whyOne 26 = .ok (.iaload, 1) := by decide +kernel
theorem dX4_whyOne_27 : decode cX4_whyOne 27 = .ok (.ifCond .le 7, 3) := by decide +kernel
theorem dX4_whyOne_30 : decode cX4_whyOne 30 = .ok (.iconst 0, 1) := by decide +kernel
theorem dX4_whyOne_31 : decode cX4_whyOne 31 = .ok (.goto 4, 3) := by decide +kernel
theorem dX4_whyOne_34 : decode cX4_whyOne 34 = .ok (.iconst 2, 1) := by decide +kernel
theorem dX4_whyOne_35 : decode cX4_whyOne 35 = .ok (.ireturn, 1) := by decide +kernel
theorem dX4_whyOne_36 : decode cX4_whyOne 36 = .ok (.iload_n 2, 1) := by decide +kernel
theorem dX4_whyOne_37 : decode cX4_whyOne 37 = .ok (.iconst 5, 1) := by decide +kernel
theorem dX4_whyOne_38 : decode cX4_whyOne 38 = .ok (.if_icmp .ne 35, 3) := by decide +kernel
theorem dX4_whyOne_41 : decode cX4_whyOne 41 = .ok (.aload_n 0, 1) := by decide +kernel
theorem dX4_whyOne_42 : decode cX4_whyOne 42 = .ok (.iload_n 1, 1) := by decide +kernel
theorem dX4_whyOne_43 : decode cX4_whyOne 43 = .ok (.invokevirtual 228, 3) := by decide +kernel
theorem dX4_whyOne_46 : decode cX4_whyOne 46 = .ok (.istore 4, 2) := by decide +kernel
theorem dX4_whyOne_48 : decode cX4_whyOne 48 = .ok (.iload 4, 2) := by decide +kernel
theorem dX4_whyOne_50 : decode cX4_whyOne 50 = .ok (.bipush (-2), 2) := by decide +kernel
theorem dX4_whyOne_52 : decode cX4_whyOne 52 = .ok (.if_icmp .ne 8, 3) := by decide +kernel
theorem dX4_whyOne_55 : decode cX4_whyOne 55 = .ok (.bipush 6, 2) := by decide +kernel
theorem dX4_whyOne_57 : decode cX4_whyOne 57 = .ok (.goto 15, 3) := by decide +kernel
theorem dX4_whyOne_60 : decode cX4_whyOne 60 = .ok (.iload 4, 2) := by decide +kernel
theorem dX4_whyOne_62 : decode cX4_whyOne 62 = .ok (.iconst (-1), 1) := by decide +kernel
theorem dX4_whyOne_63 : decode cX4_whyOne 63 = .ok (.if_icmp .ne 7, 3) := by decide +kernel
theorem dX4_whyOne_66 : decode cX4_whyOne 66 = .ok (.iconst 0, 1) := by decide +kernel
theorem dX4_whyOne_67 : decode cX4_whyOne 67 = .ok (.goto 5, 3) := by decide +kernel
theorem dX4_whyOne_70 : decode cX4_whyOne 70 = .ok (.bipush 7, 2) := by decide +kernel
theorem dX4_whyOne_72 : decode cX4_whyOne 72 = .ok (.ireturn, 1) := by decide +kernel
theorem dX4_whyOne_73 : decode cX4_whyOne 73 = .ok (.aload_n 0, 1) := by decide +kernel
theorem dX4_whyOne_74 : decode cX4_whyOne 74 = .ok (.getfield 16, 3) := by decide +kernel
theorem dX4_whyOne_77 : decode cX4_whyOne 77 = .ok (.iload_n 3, 1) := by decide +kernel
theorem dX4_whyOne_78 : decode cX4_whyOne 78 = .ok (.iaload, 1) := by decide +kernel
theorem dX4_whyOne_79 : decode cX4_whyOne 79 = .ok (.iconst 2, 1) := by decide +kernel
theorem dX4_whyOne_80 : decode cX4_whyOne 80 = .ok (.if_icmp .ne 5, 3) := by decide +kernel
theorem dX4_whyOne_83 : decode cX4_whyOne 83 = .ok (.iconst 1, 1) := by decide +kernel
theorem dX4_whyOne_84 : decode cX4_whyOne 84 = .ok (.ireturn, 1) := by decide +kernel
theorem dX4_whyOne_85 : decode cX4_whyOne 85 = .ok (.iload_n 2, 1) := by decide +kernel
theorem dX4_whyOne_86 : decode cX4_whyOne 86 = .ok (.iconst 1, 1) := by decide +kernel
theorem dX4_whyOne_87 : decode cX4_whyOne 87 = .ok (.if_icmp .ne 41, 3) := by decide +kernel
theorem dX4_whyOne_90 : decode cX4_whyOne 90 = .ok (.aload_n 0, 1) := by decide +kernel
theorem dX4_whyOne_91 : decode cX4_whyOne 91 = .ok (.iload_n 3, 1) := by decide +kernel
theorem dX4_whyOne_92 : decode cX4_whyOne 92 = .ok (.invokevirtual 231, 3) := by decide +kernel
theorem dX4_whyOne_95 : decode cX4_whyOne 95 = .ok (.istore 4, 2) := by decide +kernel
theorem dX4_whyOne_97 : decode cX4_whyOne 97 = .ok (.iload 4, 2) := by decide +kernel
theorem dX4_whyOne_99 : decode cX4_whyOne 99 = .ok (.ifCond .lt 27, 3) := by decide +kernel
theorem dX4_whyOne_102 : decode cX4_whyOne 102 = .ok (.aload_n 0, 1) := by decide +kernel
theorem dX4_whyOne_103 : decode cX4_whyOne 103 = .ok (.getfield 69, 3) := by decide +kernel
theorem dX4_whyOne_106 : decode cX4_whyOne 106 = .ok (.iload_n 1, 1) := by decide +kernel
theorem dX4_whyOne_107 : decode cX4_whyOne 107 = .ok (.iaload, 1) := by decide +kernel
theorem dX4_whyOne_108 : decode cX4_whyOne 108 = .ok (.ifCond .eq 14, 3) := by decide +kernel
theorem dX4_whyOne_111 : decode cX4_whyOne 111 = .ok (.iload 4, 2) := by decide +kernel
theorem dX4_whyOne_113 : decode cX4_whyOne 113 = .ok (.aload_n 0, 1) := by decide +kernel
theorem dX4_whyOne_114 : decode cX4_whyOne 114 = .ok (.getfield 75, 3) := by decide +kernel
theorem dX4_whyOne_117 : decode cX4_whyOne 117 = .ok (.iload_n 1, 1) := by decide +kernel
theorem dX4_whyOne_118 : decode cX4_whyOne 118 = .ok (.iaload, 1) := by decide +kernel
theorem dX4_whyOne_119 : decode cX4_whyOne 119 = .ok (.if_icmp .le 7, 3) := by decide +kernel
theorem dX4_whyOne_122 : decode cX4_whyOne 122 = .ok (.iconst 0, 1) := by decide +kernel
theorem dX4_whyOne_123 : decode cX4_whyOne 123 = .ok (.goto 4, 3) := by decide +kernel
theorem dX4_whyOne_126 : decode cX4_whyOne 126 = .ok (.iconst 2, 1) := by decide +kernel
theorem dX4_whyOne_127 : decode cX4_whyOne 127 = .ok (.ireturn, 1) := by decide +kernel
theorem dX4_whyOne_128 : decode cX4_whyOne 128 = .ok (.aload_n 0, 1) := by decide +kernel
theorem dX4_whyOne_129 : decode cX4_whyOne 129 = .ok (.iload_n 1, 1) := by decide +kernel
theorem dX4_whyOne_130 : decode cX4_whyOne 130 = .ok (.invokevirtual 234, 3) := by decide +kernel
theorem dX4_whyOne_133 : decode cX4_whyOne 133 = .ok (.istore 4, 2) := by decide +kernel
theorem dX4_whyOne_135 : decode cX4_whyOne 135 = .ok (.iload 4, 2) := by decide +kernel
theorem dX4_whyOne_137 : decode cX4_whyOne 137 = .ok (.aload_n 0, 1) := by decide +kernel
theorem dX4_whyOne_138 : decode cX4_whyOne 138 = .ok (.getfield 13, 3) := by decide +kernel
theorem dX4_whyOne_141 : decode cX4_whyOne 141 = .ok (.iload_n 3, 1) := by decide +kernel
theorem dX4_whyOne_142 : decode cX4_whyOne 142 = .ok (.iaload, 1) := by decide +kernel
theorem dX4_whyOne_143 : decode cX4_whyOne 143 = .ok (.if_icmp .lt 5, 3) := by decide +kernel
theorem dX4_whyOne_146 : decode cX4_whyOne 146 = .ok (.iconst 2, 1) := by decide +kernel
theorem dX4_whyOne_147 : decode cX4_whyOne 147 = .ok (.ireturn, 1) := by decide +kernel
theorem dX4_whyOne_148 : decode cX4_whyOne 148 = .ok (.aload_n 0, 1) := by decide +kernel
theorem dX4_whyOne_149 : decode cX4_whyOne 149 = .ok (.iload_n 3, 1) := by decide +kernel
theorem dX4_whyOne_150 : decode cX4_whyOne 150 = .ok (.iload 4, 2) := by decide +kernel
theorem dX4_whyOne_152 : decode cX4_whyOne 152 = .ok (.invokevirtual 180, 3) := by decide +kernel
theorem dX4_whyOne_155 : decode cX4_whyOne 155 = .ok (.ifCond .eq 5, 3) := by decide +kernel
theorem dX4_whyOne_158 : decode cX4_whyOne 158 = .ok (.iconst 3, 1) := by decide +kernel
theorem dX4_whyOne_159 : decode cX4_whyOne 159 = .ok (.ireturn, 1) := by decide +kernel
theorem dX4_whyOne_160 : decode cX4_whyOne 160 = .ok (.aload_n 0, 1) := by decide +kernel
theorem dX4_whyOne_161 : decode cX4_whyOne 161 = .ok (.iload_n 1, 1) := by decide +kernel
theorem dX4_whyOne_162 : decode cX4_whyOne 162 = .ok (.invokevirtual 237, 3) := by decide +kernel
theorem dX4_whyOne_165 : decode cX4_whyOne 165 = .ok (.ifCond .lt 5, 3) := by decide +kernel
theorem dX4_whyOne_168 : decode cX4_whyOne 168 = .ok (.iconst 4, 1) := by decide +kernel
theorem dX4_whyOne_169 : decode cX4_whyOne 169 = .ok (.ireturn, 1) := by decide +kernel
theorem dX4_whyOne_170 : decode cX4_whyOne 170 = .ok (.aload_n 0, 1) := by decide +kernel
theorem dX4_whyOne_171 : decode cX4_whyOne 171 = .ok (.getfield 57, 3) := by decide +kernel
theorem dX4_whyOne_174 : decode cX4_whyOne 174 = .ok (.iload_n 1, 1) := by decide +kernel
theorem dX4_whyOne_175 : decode cX4_whyOne 175 = .ok (.iaload, 1) := by decide +kernel
theorem dX4_whyOne_176 : decode cX4_whyOne 176 = .ok (.istore 5, 2) := by decide +kernel
theorem dX4_whyOne_178 : decode cX4_whyOne 178 = .ok (.iload_n 2, 1) := by decide +kernel
theorem dX4_whyOne_179 : decode cX4_whyOne 179 = .ok (.bipush 7, 2) := by decide +kernel
theorem dX4_whyOne_181 : decode cX4_whyOne 181 = .ok (.if_icmp .ne 26, 3) := by decide +kernel
theorem dX4_whyOne_184 : decode cX4_whyOne 184 = .ok (.aload_n 0, 1) := by decide +kernel
theorem dX4_whyOne_185 : decode cX4_whyOne 185 = .ok (.getfield 16, 3) := by decide +kernel
theorem dX4_whyOne_188 : decode cX4_whyOne 188 = .ok (.iload 5, 2) := by decide +kernel
theorem dX4_whyOne_190 : decode cX4_whyOne 190 = .ok (.iaload, 1) := by decide +kernel
theorem dX4_whyOne_191 : decode cX4_whyOne 191 = .ok (.ifCond .gt 12, 3) := by decide +kernel
theorem dX4_whyOne_194 : decode cX4_whyOne 194 = .ok (.aload_n 0, 1) := by decide +kernel
theorem dX4_whyOne_195 : decode cX4_whyOne 195 = .ok (.iload 5, 2) := by decide +kernel
theorem dX4_whyOne_197 : decode cX4_whyOne 197 = .ok (.invokevirtual 219, 3) := by decide +kernel
theorem dX4_whyOne_200 : decode cX4_whyOne 200 = .ok (.ifCond .eq 7, 3) := by decide +kernel
theorem dX4_whyOne_203 : decode cX4_whyOne 203 = .ok (.iconst 5, 1) := by decide +kernel
theorem dX4_whyOne_204 : decode cX4_whyOne 204 = .ok (.goto 4, 3) := by decide +kernel
theorem dX4_whyOne_207 : decode cX4_whyOne 207 = .ok (.iconst 0, 1) := by decide +kernel
theorem dX4_whyOne_208 : decode cX4_whyOne 208 = .ok (.ireturn, 1) := by decide +kernel
theorem dX4_why_0 : decode cX4_why 0 = .ok (.aload_n 0, 1) := by decide +kernel
theorem dX4_why_1 : decode cX4_why 1 = .ok (.getfield 135, 3) := by decide +kernel
theorem dX4_why_4 : decode cX4_why 4 = .ok (.ifCond .ne 6, 3) := by decide +kernel
theorem dX4_why_7 : decode cX4_why 7 = .ok (.bipush (-2), 2) := by decide +kernel
theorem dX4_why_9 : decode cX4_why 9 = .ok (.ireturn, 1) := by decide +kernel
theorem dX4_why_10 : decode cX4_why 10 = .ok (.aload_n 0, 1) := by decide +kernel
theorem dX4_why_11 : decode cX4_why 11 = .ok (.iload_n 1, 1) := by decide +kernel
theorem dX4_why_12 : decode cX4_why 12 = .ok (.invokevirtual 146, 3) := by decide +kernel
theorem dX4_why_15 : decode cX4_why 15 = .ok (.ifCond .eq 11, 3) := by decide +kernel
theorem dX4_why_18 : decode cX4_why 18 = .ok (.aload_n 0, 1) := by decide +kernel
theorem dX4_why_19 : decode cX4_why 19 = .ok (.iload_n 1, 1) := by decide +kernel
theorem dX4_why_20 : decode cX4_why 20 = .ok (.invokevirtual 240, 3) := by decide +kernel
theorem dX4_why_23 : decode cX4_why 23 = .ok (.goto 4, 3) := by decide +kernel
theorem dX4_why_26 : decode cX4_why 26 = .ok (.iconst (-1), 1) := by decide +kernel
theorem dX4_why_27 : decode cX4_why 27 = .ok (.ireturn, 1) := by decide +kernel
theorem dX4_on_0 : decode cX4_on 0 = .ok (.aload_n 0, 1) := by decide +kernel
theorem dX4_on_1 : decode cX4_on 1 = .ok (.iload_n 1, 1) := by decide +kernel
theorem dX4_on_2 : decode cX4_on 2 = .ok (.invokevirtual 243, 3) := by decide +kernel
theorem dX4_on_5 : decode cX4_on 5 = .ok (.tableswitch 60 3 7 #[35, 41, 47, 60, 54], 35) := by decide +kernel
theorem dX4_on_40 : decode cX4_on 40 = .ok (.aload_n 0, 1) := by decide +kernel
theorem dX4_on_41 : decode cX4_on 41 = .ok (.iload_n 1, 1) := by decide +kernel
theorem dX4_on_42 : decode cX4_on 42 = .ok (.invokevirtual 234, 3) := by decide +kernel
theorem dX4_on_45 : decode cX4_on 45 = .ok (.ireturn, 1) := by decide +kernel
theorem dX4_on_46 : decode cX4_on 46 = .ok (.aload_n 0, 1) := by decide +kernel
theorem dX4_on_47 : decode cX4_on 47 = .ok (.iload_n 1, 1) := by decide +kernel
theorem dX4_on_48 : decode cX4_on 48 = .ok (.invokevirtual 237, 3) := by decide +kernel
theorem dX4_on_51 : decode cX4_on 51 = .ok (.ireturn, 1) := by decide +kernel
theorem dX4_on_52 : decode cX4_on 52 = .ok (.aload_n 0, 1) := by decide +kernel
theorem dX4_on_53 : decode cX4_on 53 = .ok (.getfield 57, 3) := by decide +kernel
theorem dX4_on_56 : decode cX4_on 56 = .ok (.iload_n 1, 1) := by decide +kernel
theorem dX4_on_57 : decode cX4_on 57 = .ok (.iaload, 1) := by decide +kernel
theorem dX4_on_58 : decode cX4_on 58 = .ok (.ireturn, 1) := by decide +kernel
theorem dX4_on_59 : decode cX4_on 59 = .ok (.aload_n 0, 1) := by decide +kernel
theorem dX4_on_60 : decode cX4_on 60 = .ok (.iload_n 1, 1) := by decide +kernel
theorem dX4_on_61 : decode cX4_on 61 = .ok (.invokevirtual 228, 3) := by decide +kernel
theorem dX4_on_64 : decode cX4_on 64 = .ok (.ireturn, 1) := by decide +kernel
theorem dX4_on_65 : decode cX4_on 65 = .ok (.iconst (-1), 1) := by decide +kernel
theorem dX4_on_66 : decode cX4_on 66 = .ok (.ireturn, 1) := by decide +kernel
theorem dX4_stuck_0 : decode cX4_stuck 0 = .ok (.aload_n 0, 1) := by decide +kernel
theorem dX4_stuck_1 : decode cX4_stuck 1 = .ok (.getfield 135, 3) := by decide +kernel
theorem dX4_stuck_4 : decode cX4_stuck 4 = .ok (.istore_n 1, 1) := by decide +kernel
theorem dX4_stuck_5 : decode cX4_stuck 5 = .ok (.iconst 0, 1) := by decide +kernel
theorem dX4_stuck_6 : decode cX4_stuck 6 = .ok (.istore_n 2, 1) := by decide +kernel
theorem dX4_stuck_7 : decode cX4_stuck 7 = .ok (.iload_n 2, 1) := by decide +kernel
theorem dX4_stuck_8 : decode cX4_stuck 8 = .ok (.aload_n 0, 1) := by decide +kernel
theorem dX4_stuck_9 : decode cX4_stuck 9 = .ok (.getfield 124, 3) := by decide +kernel
theorem dX4_stuck_12 : decode cX4_stuck 12 = .ok (.if_icmp .ge 27, 3) := by decide +kernel
theorem dX4_stuck_15 : decode cX4_stuck 15 = .ok (.iload_n 1, 1) := by decide +kernel
theorem dX4_stuck_16 : decode cX4_stuck 16 = .ok (.ifCond .eq 15, 3) := by decide +kernel
theorem dX4_stuck_19 : decode cX4_stuck 19 = .ok (.aload_n 0, 1) := by decide +kernel
theorem dX4_stuck_20 : decode cX4_stuck 20 = .ok (.iload_n 2, 1) := by decide +kernel
theorem dX4_stuck_21 : decode cX4_stuck 21 = .ok (.invokevirtual 240, 3) := by decide +kernel
theorem dX4_stuck_24 : decode cX4_stuck 24 = .ok (.ifCond .eq 7, 3) := by decide +kernel
theorem dX4_stuck_27 : decode cX4_stuck 27 = .ok (.iconst 1, 1) := by decide +kernel
theorem dX4_stuck_28 : decode cX4_stuck 28 = .ok (.goto 4, 3) := by decide +kernel
theorem dX4_stuck_31 : decode cX4_stuck 31 = .ok (.iconst 0, 1) := by decide +kernel
theorem dX4_stuck_32 : decode cX4_stuck 32 = .ok (.istore_n 1, 1) := by decide +kernel
theorem dX4_stuck_33 : decode cX4_stuck 33 = .ok (.iinc 2 1, 3) := by decide +kernel
theorem dX4_stuck_36 : decode cX4_stuck 36 = .ok (.goto (-29), 3) := by decide +kernel
theorem dX4_stuck_39 : decode cX4_stuck 39 = .ok (.iconst 0, 1) := by decide +kernel
theorem dX4_stuck_40 : decode cX4_stuck 40 = .ok (.istore_n 2, 1) := by decide +kernel
theorem dX4_stuck_41 : decode cX4_stuck 41 = .ok (.iconst 0, 1) := by decide +kernel
theorem dX4_stuck_42 : decode cX4_stuck 42 = .ok (.istore_n 3, 1) := by decide +kernel
theorem dX4_stuck_43 : decode cX4_stuck 43 = .ok (.iload_n 3, 1) := by decide +kernel
theorem dX4_stuck_44 : decode cX4_stuck 44 = .ok (.aload_n 0, 1) := by decide +kernel
theorem dX4_stuck_45 : decode cX4_stuck 45 = .ok (.getfield 121, 3) := by decide +kernel
theorem dX4_stuck_48 : decode cX4_stuck 48 = .ok (.if_icmp .ge 38, 3) := by decide +kernel
theorem dX4_stuck_51 : decode cX4_stuck 51 = .ok (.aload_n 0, 1) := by decide +kernel
theorem dX4_stuck_52 : decode cX4_stuck 52 = .ok (.getfield 16, 3) := by decide +kernel
theorem dX4_stuck_55 : decode cX4_stuck 55 = .ok (.iload_n 3, 1) := by decide +kernel
theorem dX4_stuck_56 : decode cX4_stuck 56 = .ok (.iaload, 1) := by decide +kernel
theorem dX4_stuck_57 : decode cX4_stuck 57 = .ok (.ifCond .ne 23, 3) := by decide +kernel
theorem dX4_stuck_60 : decode cX4_stuck 60 = .ok (.iconst 1, 1) := by decide +kernel
theorem dX4_stuck_61 : decode cX4_stuck 61 = .ok (.istore_n 2, 1) := by decide +kernel
theorem dX4_stuck_62 : decode cX4_stuck 62 = .ok (.iload_n 1, 1) := by decide +kernel
theorem dX4_stuck_63 : decode cX4_stuck 63 = .ok (.ifCond .eq 15, 3) := by decide +kernel
theorem dX4_stuck_66 : decode cX4_stuck 66 = .ok (.aload_n 0, 1) := by decide +kernel
theorem dX4_stuck_67 : decode cX4_stuck 67 = .ok (.iload_n 3, 1) := by decide +kernel
theorem dX4_stuck_68 : decode cX4_stuck 68 = .ok (.invokevirtual 219, 3) := by decide +kernel
theorem dX4_stuck_71 : decode cX4_stuck 71 = .ok (.ifCond .eq 7, 3) := by decide +kernel
theorem dX4_stuck_74 : decode cX4_stuck 74 = .ok (.iconst 1, 1) := by decide +kernel
theorem dX4_stuck_75 : decode cX4_stuck 75 = .ok (.goto 4, 3) := by decide +kernel
theorem dX4_stuck_78 : decode cX4_stuck 78 = .ok (.iconst 0, 1) := by decide +kernel
theorem dX4_stuck_79 : decode cX4_stuck 79 = .ok (.istore_n 1, 1) := by decide +kernel
theorem dX4_stuck_80 : decode cX4_stuck 80 = .ok (.iinc 3 1, 3) := by decide +kernel
theorem dX4_stuck_83 : decode cX4_stuck 83 = .ok (.goto (-40), 3) := by decide +kernel
theorem dX4_stuck_86 : decode cX4_stuck 86 = .ok (.iload_n 1, 1) := by decide +kernel
theorem dX4_stuck_87 : decode cX4_stuck 87 = .ok (.ifCond .eq 11, 3) := by decide +kernel
theorem dX4_stuck_90 : decode cX4_stuck 90 = .ok (.iload_n 2, 1) := by decide +kernel
theorem dX4_stuck_91 : decode cX4_stuck 91 = .ok (.ifCond .eq 7, 3) := by decide +kernel
theorem dX4_stuck_94 : decode cX4_stuck 94 = .ok (.iconst 1, 1) := by decide +kernel
theorem dX4_stuck_95 : decode cX4_stuck 95 = .ok (.goto 4, 3) := by decide +kernel
theorem dX4_stuck_98 : decode cX4_stuck 98 = .ok (.iconst 0, 1) := by decide +kernel
theorem dX4_stuck_99 : decode cX4_stuck 99 = .ok (.ireturn, 1) := by decide +kernel
theorem dX4_take_0 : decode cX4_take 0 = .ok (.aload_n 0, 1) := by decide +kernel
theorem dX4_take_1 : decode cX4_take 1 = .ok (.iload_n 2, 1) := by decide +kernel
theorem dX4_take_2 : decode cX4_take 2 = .ok (.iload_n 3, 1) := by decide +kernel
theorem dX4_take_3 : decode cX4_take 3 = .ok (.invokevirtual 171, 3) := by decide +kernel
theorem dX4_take_6 : decode cX4_take 6 = .ok (.istore 4, 2) := by decide +kernel
theorem dX4_take_8 : decode cX4_take 8 = .ok (.aload_n 0, 1) := by decide +kernel
theorem dX4_take_9 : decode cX4_take 9 = .ok (.getfield 69, 3) := by decide +kernel
theorem dX4_take_12 : decode cX4_take 12 = .ok (.iload_n 1, 1) := by decide +kernel
theorem dX4_take_13 : decode cX4_take 13 = .ok (.dup2, 1) := by decide +kernel
theorem dX4_take_14 : decode cX4_take 14 = .ok (.iaload, 1) := by decide +kernel
theorem dX4_take_15 : decode cX4_take 15 = .ok (.iconst 1, 1) := by decide +kernel
theorem dX4_take_16 : decode cX4_take 16 = .ok (.iadd, 1) := by decide +kernel
theorem dX4_take_17 : decode cX4_take 17 = .ok (.iastore, 1) := by decide +kernel
theorem dX4_take_18 : decode cX4_take 18 = .ok (.aload_n 0, 1) := by decide +kernel
theorem dX4_take_19 : decode cX4_take 19 = .ok (.getfield 72, 3) := by decide +kernel
theorem dX4_take_22 : decode cX4_take 22 = .ok (.iload_n 1, 1) := by decide +kernel
theorem dX4_take_23 : decode cX4_take 23 = .ok (.iload_n 2, 1) := by decide +kernel
theorem dX4_take_24 : decode cX4_take 24 = .ok (.iastore, 1) := by decide +kernel
theorem dX4_take_25 : decode cX4_take 25 = .ok (.aload_n 0, 1) := by decide +kernel
theorem dX4_take_26 : decode cX4_take 26 = .ok (.getfield 75, 3) := by decide +kernel
theorem dX4_take_29 : decode cX4_take 29 = .ok (.iload_n 1, 1) := by decide +kernel
theorem dX4_take_30 : decode cX4_take 30 = .ok (.iload_n 3, 1) := by decide +kernel
theorem dX4_take_31 : decode cX4_take 31 = .ok (.iastore, 1) := by decide +kernel
theorem dX4_take_32 : decode cX4_take 32 = .ok (.aload_n 0, 1) := by decide +kernel
theorem dX4_take_33 : decode cX4_take 33 = .ok (.getfield 78, 3) := by decide +kernel
theorem dX4_take_36 : decode cX4_take 36 = .ok (.iload_n 1, 1) := by decide +kernel
theorem dX4_take_37 : decode cX4_take 37 = .ok (.aload_n 0, 1) := by decide +kernel
theorem dX4_take_38 : decode cX4_take 38 = .ok (.getfield 27, 3) := by decide +kernel
theorem dX4_take_41 : decode cX4_take 41 = .ok (.iload 4, 2) := by decide +kernel
theorem dX4_take_43 : decode cX4_take 43 = .ok (.laload, 1) := by decide +kernel
theorem dX4_take_44 : decode cX4_take 44 = .ok (.lastore, 1) := by decide +kernel
theorem dX4_take_45 : decode cX4_take 45 = .ok (.aload_n 0, 1) := by decide +kernel
theorem dX4_take_46 : decode cX4_take 46 = .ok (.getfield 81, 3) := by decide +kernel
theorem dX4_take_49 : decode cX4_take 49 = .ok (.iload_n 1, 1) := by decide +kernel
theorem dX4_take_50 : decode cX4_take 50 = .ok (.aload_n 0, 1) := by decide +kernel
theorem dX4_take_51 : decode cX4_take 51 = .ok (.getfield 30, 3) := by decide +kernel
theorem dX4_take_54 : decode cX4_take 54 = .ok (.iload 4, 2) := by decide +kernel
theorem dX4_take_56 : decode cX4_take 56 = .ok (.iaload, 1) := by decide +kernel
theorem dX4_take_57 : decode cX4_take 57 = .ok (.iastore, 1) := by decide +kernel
theorem dX4_take_58 : decode cX4_take 58 = .ok (.aload_n 0, 1) := by decide +kernel
theorem dX4_take_59 : decode cX4_take 59 = .ok (.getfield 84, 3) := by decide +kernel
theorem dX4_take_62 : decode cX4_take 62 = .ok (.iload_n 1, 1) := by decide +kernel
theorem dX4_take_63 : decode cX4_take 63 = .ok (.aload_n 0, 1) := by decide +kernel
theorem dX4_take_64 : decode cX4_take 64 = .ok (.getfield 33, 3) := by decide +kernel
theorem dX4_take_67 : decode cX4_take 67 = .ok (.iload 4, 2) := by decide +kernel
theorem dX4_take_69 : decode cX4_take 69 = .ok (.iaload, 1) := by decide +kernel
theorem dX4_take_70 : decode cX4_take 70 = .ok (.iastore, 1) := by decide +kernel
theorem dX4_take_71 : decode cX4_take 71 = .ok (.iconst 0, 1) := by decide +kernel
theorem dX4_take_72 : decode cX4_take 72 = .ok (.istore 5, 2) := by decide +kernel
theorem dX4_take_74 : decode cX4_take 74 = .ok (.iload 5, 2) := by decide +kernel
theorem dX4_take_76 : decode cX4_take 76 = .ok (.bipush 8, 2) := by decide +kernel
theorem dX4_take_78 : decode cX4_take 78 = .ok (.if_icmp .ge 34, 3) := by decide +kernel
theorem dX4_take_81 : decode cX4_take 81 = .ok (.aload_n 0, 1) := by decide +kernel
theorem dX4_take_82 : decode cX4_take 82 = .ok (.getfield 87, 3) := by decide +kernel
theorem dX4_take_85 : decode cX4_take 85 = .ok (.bipush 8, 2) := by decide +kernel
theorem dX4_take_87 : decode cX4_take 87 = .ok (.iload_n 1, 1) := by decide +kernel
theorem dX4_take_88 : decode cX4_take 88 = .ok (.imul, 1) := by decide +kernel
theorem dX4_take_89 : decode cX4_take 89 = .ok (.iload 5, 2) := by decide +kernel
theorem dX4_take_91 : decode cX4_take 91 = .ok (.iadd, 1) := by decide +kernel
theorem dX4_take_92 : decode cX4_take 92 = .ok (.aload_n 0, 1) := by decide +kernel
theorem dX4_take_93 : decode cX4_take 93 = .ok (.getfield 36, 3) := by decide +kernel
theorem dX4_take_96 : decode cX4_take 96 = .ok (.bipush 8, 2) := by decide +kernel
theorem dX4_take_98 : decode cX4_take 98 = .ok (.iload 4, 2) := by decide +kernel
theorem dX4_take_100 : decode cX4_take 100 = .ok (.imul, 1) := by decide +kernel
theorem dX4_take_101 : decode cX4_take 101 = .ok (.iload 5, 2) := by decide +kernel
theorem dX4_take_103 : decode cX4_take 103 = .ok (.iadd, 1) := by decide +kernel
theorem dX4_take_104 : decode cX4_take 104 = .ok (.laload, 1) := by decide +kernel
theorem dX4_take_105 : decode cX4_take 105 = .ok (.lastore, 1) := by decide +kernel
theorem dX4_take_106 : decode cX4_take 106 = .ok (.iinc 5 1, 3) := by decide +kernel
theorem dX4_take_109 : decode cX4_take 109 = .ok (.goto (-35), 3) := by decide +kernel
theorem dX4_take_112 : decode cX4_take 112 = .ok (.return_, 1) := by decide +kernel
theorem dX4_takeEntry_0 : decode cX4_takeEntry 0 = .ok (.bipush 32, 2) := by decide +kernel
theorem dX4_takeEntry_2 : decode cX4_takeEntry 2 = .ok (.iload_n 1, 1) := by decide +kernel
theorem dX4_takeEntry_3 : decode cX4_takeEntry 3 = .ok (.imul, 1) := by decide +kernel
theorem dX4_takeEntry_4 : decode cX4_takeEntry 4 = .ok (.istore_n 2, 1) := by decide +kernel
theorem dX4_takeEntry_5 : decode cX4_takeEntry 5 = .ok (.aload_n 0, 1) := by decide +kernel
theorem dX4_takeEntry_6 : decode cX4_takeEntry 6 = .ok (.getfield 69, 3) := by decide +kernel
theorem dX4_takeEntry_9 : decode cX4_takeEntry 9 = .ok (.iload_n 1, 1) := by decide +kernel
theorem dX4_takeEntry_10 : decode cX4_takeEntry 10 = .ok (.dup2, 1) := by decide +kernel
theorem dX4_takeEntry_11 : decode cX4_takeEntry 11 = .ok (.iaload, 1) := by decide +kernel
theorem dX4_takeEntry_12 : decode cX4_takeEntry 12 = .ok (.iconst 1, 1) := by decide +kernel
theorem dX4_takeEntry_13 : decode cX4_takeEntry 13 = .ok (.iadd, 1) := by decide +kernel
theorem dX4_takeEntry_14 : decode cX4_takeEntry 14 = .ok (.iastore, 1) := by decide +kernel
theorem dX4_takeEntry_15 : decode cX4_takeEntry 15 = .ok (.aload_n 0, 1) := by decide +kernel
theorem dX4_takeEntry_16 : decode cX4_takeEntry 16 = .ok (.getfield 72, 3) := by decide +kernel
theorem dX4_takeEntry_19 : decode cX4_takeEntry 19 = .ok (.iload_n 1, 1) := by decide +kernel
theorem dX4_takeEntry_20 : decode cX4_takeEntry 20 = .ok (.aload_n 0, 1) := by decide +kernel
theorem dX4_takeEntry_21 : decode cX4_takeEntry 21 = .ok (.getfield 42, 3) := by decide +kernel
theorem dX4_takeEntry_24 : decode cX4_takeEntry 24 = .ok (.iconst 4, 1) := by decide +kernel
theorem dX4_takeEntry_25 : decode cX4_takeEntry 25 = .ok (.iload_n 1, 1) := by decide +kernel
theorem dX4_takeEntry_26 : decode cX4_takeEntry 26 = .ok (.imul, 1) := by decide +kernel
theorem dX4_takeEntry_27 : decode cX4_takeEntry 27 = .ok (.iaload, 1) := by decide +kernel
theorem dX4_takeEntry_28 : decode cX4_takeEntry 28 = .ok (.iastore, 1) := by decide +kernel
theorem dX4_takeEntry_29 : decode cX4_takeEntry 29 = .ok (.aload_n 0, 1) := by decide +kernel
theorem dX4_takeEntry_30 : decode cX4_takeEntry 30 = .ok (.getfield 75, 3) := by decide +kernel
theorem dX4_takeEntry_33 : decode cX4_takeEntry 33 = .ok (.iload_n 1, 1) := by decide +kernel
theorem dX4_takeEntry_34 : decode cX4_takeEntry 34 = .ok (.aload_n 0, 1) := by decide +kernel
theorem dX4_takeEntry_35 : decode cX4_takeEntry 35 = .ok (.getfield 93, 3) := by decide +kernel
theorem dX4_takeEntry_38 : decode cX4_takeEntry 38 = .ok (.iload_n 2, 1) := by decide +kernel
theorem dX4_takeEntry_39 : decode cX4_takeEntry 39 = .ok (.iaload, 1) := by decide +kernel
theorem dX4_takeEntry_40 : decode cX4_takeEntry 40 = .ok (.iastore, 1) := by decide +kernel
theorem dX4_takeEntry_41 : decode cX4_takeEntry 41 = .ok (.aload_n 0, 1) := by decide +kernel
theorem dX4_takeEntry_42 : decode cX4_takeEntry 42 = .ok (.getfield 78, 3) := by decide +kernel
theorem dX4_takeEntry_45 : decode cX4_takeEntry 45 = .ok (.iload_n 1, 1) := by decide +kernel
theorem dX4_takeEntry_46 : decode cX4_takeEntry 46 = .ok (.aload_n 0, 1) := by decide +kernel
theorem dX4_takeEntry_47 : decode cX4_takeEntry 47 = .ok (.getfield 96, 3) := by decide +kernel
theorem dX4_takeEntry_50 : decode cX4_takeEntry 50 = .ok (.iload_n 2, 1) := by decide +kernel
theorem dX4_takeEntry_51 : decode cX4_takeEntry 51 = .ok (.laload, 1) := by decide +kernel
theorem dX4_takeEntry_52 : decode cX4_takeEntry 52 = .ok (.lastore, 1) := by decide +kernel
theorem dX4_takeEntry_53 : decode cX4_takeEntry 53 = .ok (.aload_n 0, 1) := by decide +kernel
theorem dX4_takeEntry_54 : decode cX4_takeEntry 54 = .ok (.getfield 81, 3) := by decide +kernel
theorem dX4_takeEntry_57 : decode cX4_takeEntry 57 = .ok (.iload_n 1, 1) := by decide +kernel
theorem dX4_takeEntry_58 : decode cX4_takeEntry 58 = .ok (.aload_n 0, 1) := by decide +kernel
theorem dX4_takeEntry_59 : decode cX4_takeEntry 59 = .ok (.getfield 99, 3) := by decide +kernel
theorem dX4_takeEntry_62 : decode cX4_takeEntry 62 = .ok (.iload_n 2, 1) := by decide +kernel
theorem dX4_takeEntry_63 : decode cX4_takeEntry 63 = .ok (.iaload, 1) := by decide +kernel
theorem dX4_takeEntry_64 : decode cX4_takeEntry 64 = .ok (.iastore, 1) := by decide +kernel
theorem dX4_takeEntry_65 : decode cX4_takeEntry 65 = .ok (.aload_n 0, 1) := by decide +kernel
theorem dX4_takeEntry_66 : decode cX4_takeEntry 66 = .ok (.getfield 84, 3) := by decide +kernel
theorem dX4_takeEntry_69 : decode cX4_takeEntry 69 = .ok (.iload_n 1, 1) := by decide +kernel
theorem dX4_takeEntry_70 : decode cX4_takeEntry 70 = .ok (.aload_n 0, 1) := by decide +kernel
theorem dX4_takeEntry_71 : decode cX4_takeEntry 71 = .ok (.getfield 102, 3) := by decide +kernel
theorem dX4_takeEntry_74 : decode cX4_takeEntry 74 = .ok (.iload_n 2, 1) := by decide +kernel
theorem dX4_takeEntry_75 : decode cX4_takeEntry 75 = .ok (.iaload, 1) := by decide +kernel
theorem dX4_takeEntry_76 : decode cX4_takeEntry 76 = .ok (.iastore, 1) := by decide +kernel
theorem dX4_takeEntry_77 : decode cX4_takeEntry 77 = .ok (.iconst 0, 1) := by decide +kernel
theorem dX4_takeEntry_78 : decode cX4_takeEntry 78 = .ok (.istore_n 3, 1) := by decide +kernel
theorem dX4_takeEntry_79 : decode cX4_takeEntry 79 = .ok (.iload_n 3, 1) := by decide +kernel
theorem dX4_takeEntry_80 : decode cX4_takeEntry 80 = .ok (.bipush 8, 2) := by decide +kernel
theorem dX4_takeEntry_82 : decode cX4_takeEntry 82 = .ok (.if_icmp .ge 31, 3) := by decide +kernel
theorem dX4_takeEntry_85 : decode cX4_takeEntry 85 = .ok (.aload_n 0, 1) := by decide +kernel
theorem dX4_takeEntry_86 : decode cX4_takeEntry 86 = .ok (.getfield 87, 3) := by decide +kernel
theorem dX4_takeEntry_89 : decode cX4_takeEntry 89 = .ok (.bipush 8, 2) := by decide +kernel
theorem dX4_takeEntry_91 : decode cX4_takeEntry 91 = .ok (.iload_n 1, 1) := by decide +kernel
theorem dX4_takeEntry_92 : decode cX4_takeEntry 92 = .ok (.imul, 1) := by decide +kernel
theorem dX4_takeEntry_93 : decode cX4_takeEntry 93 = .ok (.iload_n 3, 1) := by decide +kernel
theorem dX4_takeEntry_94 : decode cX4_takeEntry 94 = .ok (.iadd, 1) := by decide +kernel
theorem dX4_takeEntry_95 : decode cX4_takeEntry 95 = .ok (.aload_n 0, 1) := by decide +kernel
theorem dX4_takeEntry_96 : decode cX4_takeEntry 96 = .ok (.getfield 105, 3) := by decide +kernel
theorem dX4_takeEntry_99 : decode cX4_takeEntry 99 = .ok (.bipush 8, 2) := by decide +kernel
theorem dX4_takeEntry_101 : decode cX4_takeEntry 101 = .ok (.iload_n 2, 1) := by decide +kernel
theorem dX4_takeEntry_102 : decode cX4_takeEntry 102 = .ok (.imul, 1) := by decide +kernel
theorem dX4_takeEntry_103 : decode cX4_takeEntry 103 = .ok (.iload_n 3, 1) := by decide +kernel
theorem dX4_takeEntry_104 : decode cX4_takeEntry 104 = .ok (.iadd, 1) := by decide +kernel
theorem dX4_takeEntry_105 : decode cX4_takeEntry 105 = .ok (.laload, 1) := by decide +kernel
theorem dX4_takeEntry_106 : decode cX4_takeEntry 106 = .ok (.lastore, 1) := by decide +kernel
theorem dX4_takeEntry_107 : decode cX4_takeEntry 107 = .ok (.iinc 3 1, 3) := by decide +kernel
theorem dX4_takeEntry_110 : decode cX4_takeEntry 110 = .ok (.goto (-31), 3) := by decide +kernel
theorem dX4_takeEntry_113 : decode cX4_takeEntry 113 = .ok (.aload_n 0, 1) := by decide +kernel
theorem dX4_takeEntry_114 : decode cX4_takeEntry 114 = .ok (.getfield 90, 3) := by decide +kernel
theorem dX4_takeEntry_117 : decode cX4_takeEntry 117 = .ok (.iload_n 1, 1) := by decide +kernel
theorem dX4_takeEntry_118 : decode cX4_takeEntry 118 = .ok (.dup2, 1) := by decide +kernel
theorem dX4_takeEntry_119 : decode cX4_takeEntry 119 = .ok (.iaload, 1) := by decide +kernel
theorem dX4_takeEntry_120 : decode cX4_takeEntry 120 = .ok (.iconst 1, 1) := by decide +kernel
theorem dX4_takeEntry_121 : decode cX4_takeEntry 121 = .ok (.isub, 1) := by decide +kernel
theorem dX4_takeEntry_122 : decode cX4_takeEntry 122 = .ok (.iastore, 1) := by decide +kernel
theorem dX4_takeEntry_123 : decode cX4_takeEntry 123 = .ok (.iload_n 2, 1) := by decide +kernel
theorem dX4_takeEntry_124 : decode cX4_takeEntry 124 = .ok (.istore_n 3, 1) := by decide +kernel
theorem dX4_takeEntry_125 : decode cX4_takeEntry 125 = .ok (.iload_n 3, 1) := by decide +kernel
theorem dX4_takeEntry_126 : decode cX4_takeEntry 126 = .ok (.iload_n 2, 1) := by decide +kernel
theorem dX4_takeEntry_127 : decode cX4_takeEntry 127 = .ok (.aload_n 0, 1) := by decide +kernel
theorem dX4_takeEntry_128 : decode cX4_takeEntry 128 = .ok (.getfield 90, 3) := by decide +kernel
theorem dX4_takeEntry_131 : decode cX4_takeEntry 131 = .ok (.iload_n 1, 1) := by decide +kernel
theorem dX4_takeEntry_132 : decode cX4_takeEntry 132 = .ok (.iaload, 1) := by decide +kernel
theorem dX4_takeEntry_133 : decode cX4_takeEntry 133 = .ok (.iadd, 1) := by decide +kernel
theorem dX4_takeEntry_134 : decode cX4_takeEntry 134 = .ok (.if_icmp .ge 108, 3) := by decide +kernel
theorem dX4_takeEntry_137 : decode cX4_takeEntry 137 = .ok (.aload_n 0, 1) := by decide +kernel
theorem dX4_takeEntry_138 : decode cX4_takeEntry 138 = .ok (.getfield 93, 3) := by decide +kernel
theorem dX4_takeEntry_141 : decode cX4_takeEntry 141 = .ok (.iload_n 3, 1) := by decide +kernel
theorem dX4_takeEntry_142 : decode cX4_takeEntry 142 = .ok (.aload_n 0, 1) := by decide +kernel
theorem dX4_takeEntry_143 : decode cX4_takeEntry 143 = .ok (.getfield 93, 3) := by decide +kernel
theorem dX4_takeEntry_146 : decode cX4_takeEntry 146 = .ok (.iload_n 3, 1) := by decide +kernel
theorem dX4_takeEntry_147 : decode cX4_takeEntry 147 = .ok (.iconst 1, 1) := by decide +kernel
theorem dX4_takeEntry_148 : decode cX4_takeEntry 148 = .ok (.iadd, 1) := by decide +kernel
theorem dX4_takeEntry_149 : decode cX4_takeEntry 149 = .ok (.iaload, 1) := by decide +kernel
theorem dX4_takeEntry_150 : decode cX4_takeEntry 150 = .ok (.iastore, 1) := by decide +kernel
theorem dX4_takeEntry_151 : decode cX4_takeEntry 151 = .ok (.aload_n 0, 1) := by decide +kernel
theorem dX4_takeEntry_152 : decode cX4_takeEntry 152 = .ok (.getfield 96, 3) := by decide +kernel
theorem dX4_takeEntry_155 : decode cX4_takeEntry 155 = .ok (.iload_n 3, 1) := by decide +kernel
theorem dX4_takeEntry_156 : decode cX4_takeEntry 156 = .ok (.aload_n 0, 1) := by decide +kernel
theorem dX4_takeEntry_157 : decode cX4_takeEntry 157 = .ok (.getfield 96, 3) := by decide +kernel
theorem dX4_takeEntry_160 : decode cX4_takeEntry 160 = .ok (.iload_n 3, 1) := by decide +kernel
theorem dX4_takeEntry_161 : decode cX4_takeEntry 161 = .ok (.iconst 1, 1) := by decide +kernel
theorem dX4_takeEntry_162 : decode cX4_takeEntry 162 = .ok (.iadd, 1) := by decide +kernel
theorem dX4_takeEntry_163 : decode cX4_takeEntry 163 = .ok (.laload, 1) := by decide +kernel
theorem dX4_takeEntry_164 : decode cX4_takeEntry 164 = .ok (.lastore, 1) := by decide +kernel
theorem dX4_takeEntry_165 : decode cX4_takeEntry 165 = .ok (.aload_n 0, 1) := by decide +kernel
theorem dX4_takeEntry_166 : decode cX4_takeEntry 166 = .ok (.getfield 99, 3) := by decide +kernel
theorem dX4_takeEntry_169 : decode cX4_takeEntry 169 = .ok (.iload_n 3, 1) := by decide +kernel
theorem dX4_takeEntry_170 : decode cX4_takeEntry 170 = .ok (.aload_n 0, 1) := by decide +kernel
theorem dX4_takeEntry_171 : decode cX4_takeEntry 171 = .ok (.getfield 99, 3) := by decide +kernel
theorem dX4_takeEntry_174 : decode cX4_takeEntry 174 = .ok (.iload_n 3, 1) := by decide +kernel
theorem dX4_takeEntry_175 : decode cX4_takeEntry 175 = .ok (.iconst 1, 1) := by decide +kernel
theorem dX4_takeEntry_176 : decode cX4_takeEntry 176 = .ok (.iadd, 1) := by decide +kernel
theorem dX4_takeEntry_177 : decode cX4_takeEntry 177 = .ok (.iaload, 1) := by decide +kernel
theorem dX4_takeEntry_178 : decode cX4_takeEntry 178 = .ok (.iastore, 1) := by decide +kernel
theorem dX4_takeEntry_179 : decode cX4_takeEntry 179 = .ok (.aload_n 0, 1) := by decide +kernel
theorem dX4_takeEntry_180 : decode cX4_takeEntry 180 = .ok (.getfield 102, 3) := by decide +kernel
theorem dX4_takeEntry_183 : decode cX4_takeEntry 183 = .ok (.iload_n 3, 1) := by decide +kernel
theorem dX4_takeEntry_184 : decode cX4_takeEntry 184 = .ok (.aload_n 0, 1) := by decide +kernel
theorem dX4_takeEntry_185 : decode cX4_takeEntry 185 = .ok (.getfield 102, 3) := by decide +kernel
theorem dX4_takeEntry_188 : decode cX4_takeEntry 188 = .ok (.iload_n 3, 1) := by decide +kernel
theorem dX4_takeEntry_189 : decode cX4_takeEntry 189 = .ok (.iconst 1, 1) := by decide +kernel
theorem dX4_takeEntry_190 : decode cX4_takeEntry 190 = .ok (.iadd, 1) := by decide +kernel
theorem dX4_takeEntry_191 : decode cX4_takeEntry 191 = .ok (.iaload, 1) := by decide +kernel
theorem dX4_takeEntry_192 : decode cX4_takeEntry 192 = .ok (.iastore, 1) := by decide +kernel
theorem dX4_takeEntry_193 : decode cX4_takeEntry 193 = .ok (.iconst 0, 1) := by decide +kernel
theorem dX4_takeEntry_194 : decode cX4_takeEntry 194 = .ok (.istore 4, 2) := by decide +kernel
theorem dX4_takeEntry_196 : decode cX4_takeEntry 196 = .ok (.iload 4, 2) := by decide +kernel
theorem dX4_takeEntry_198 : decode cX4_takeEntry 198 = .ok (.bipush 8, 2) := by decide +kernel
theorem dX4_takeEntry_200 : decode cX4_takeEntry 200 = .ok (.if_icmp .ge 36, 3) := by decide +kernel
theorem dX4_takeEntry_203 : decode cX4_takeEntry 203 = .ok (.aload_n 0, 1) := by decide +kernel
theorem dX4_takeEntry_204 : decode cX4_takeEntry 204 = .ok (.getfield 105, 3) := by decide +kernel
theorem dX4_takeEntry_207 : decode cX4_takeEntry 207 = .ok (.bipush 8, 2) := by decide +kernel
theorem dX4_takeEntry_209 : decode cX4_takeEntry 209 = .ok (.iload_n 3, 1) := by decide +kernel
theorem dX4_takeEntry_210 : decode cX4_takeEntry 210 = .ok (.imul, 1) := by decide +kernel
theorem dX4_takeEntry_211 : decode cX4_takeEntry 211 = .ok (.iload 4, 2) := by decide +kernel
theorem dX4_takeEntry_213 : decode cX4_takeEntry 213 = .ok (.iadd, 1) := by decide +kernel
theorem dX4_takeEntry_214 : decode cX4_takeEntry 214 = .ok (.aload_n 0, 1) := by decide +kernel
theorem dX4_takeEntry_215 : decode cX4_takeEntry 215 = .ok (.getfield 105, 3) := by decide +kernel
theorem dX4_takeEntry_218 : decode cX4_takeEntry 218 = .ok (.bipush 8, 2) := by decide +kernel
theorem dX4_takeEntry_220 : decode cX4_takeEntry 220 = .ok (.iload_n 3, 1) := by decide +kernel
theorem dX4_takeEntry_221 : decode cX4_takeEntry 221 = .ok (.imul, 1) := by decide +kernel
theorem dX4_takeEntry_222 : decode cX4_takeEntry 222 = .ok (.bipush 8, 2) := by decide +kernel
theorem dX4_takeEntry_224 : decode cX4_takeEntry 224 = .ok (.iadd, 1) := by decide +kernel
theorem dX4_takeEntry_225 : decode cX4_takeEntry 225 = .ok (.iload 4, 2) := by decide +kernel
theorem dX4_takeEntry_227 : decode cX4_takeEntry 227 = .ok (.iadd, 1) := by decide +kernel
theorem dX4_takeEntry_228 : decode cX4_takeEntry 228 = .ok (.laload, 1) := by decide +kernel
theorem dX4_takeEntry_229 : decode cX4_takeEntry 229 = .ok (.lastore, 1) := by decide +kernel
theorem dX4_takeEntry_230 : decode cX4_takeEntry 230 = .ok (.iinc 4 1, 3) := by decide +kernel
theorem dX4_takeEntry_233 : decode cX4_takeEntry 233 = .ok (.goto (-37), 3) := by decide +kernel
theorem dX4_takeEntry_236 : decode cX4_takeEntry 236 = .ok (.iinc 3 1, 3) := by decide +kernel
theorem dX4_takeEntry_239 : decode cX4_takeEntry 239 = .ok (.goto (-114), 3) := by decide +kernel
theorem dX4_takeEntry_242 : decode cX4_takeEntry 242 = .ok (.return_, 1) := by decide +kernel
theorem dX4_echo_0 : decode cX4_echo 0 = .ok (.aload_n 0, 1) := by decide +kernel
theorem dX4_echo_1 : decode cX4_echo 1 = .ok (.getfield 57, 3) := by decide +kernel
theorem dX4_echo_4 : decode cX4_echo 4 = .ok (.iload_n 1, 1) := by decide +kernel
theorem dX4_echo_5 : decode cX4_echo 5 = .ok (.iaload, 1) := by decide +kernel
theorem dX4_echo_6 : decode cX4_echo 6 = .ok (.istore_n 2, 1) := by decide +kernel
theorem dX4_echo_7 : decode cX4_echo 7 = .ok (.aload_n 0, 1) := by decide +kernel
theorem dX4_echo_8 : decode cX4_echo 8 = .ok (.getfield 78, 3) := by decide +kernel
theorem dX4_echo_11 : decode cX4_echo 11 = .ok (.iload_n 1, 1) := by decide +kernel
theorem dX4_echo_12 : decode cX4_echo 12 = .ok (.laload, 1) := by decide +kernel
theorem dX4_echo_13 : decode cX4_echo 13 = .ok (.lstore_n 3, 1) := by decide +kernel
theorem dX4_echo_14 : decode cX4_echo 14 = .ok (.aload_n 0, 1) := by decide +kernel
theorem dX4_echo_15 : decode cX4_echo 15 = .ok (.iload_n 2, 1) := by decide +kernel
theorem dX4_echo_16 : decode cX4_echo 16 = .ok (.aload_n 0, 1) := by decide +kernel
theorem dX4_echo_17 : decode cX4_echo 17 = .ok (.getfield 13, 3) := by decide +kernel
theorem dX4_echo_20 : decode cX4_echo 20 = .ok (.iload_n 2, 1) := by decide +kernel
theorem dX4_echo_21 : decode cX4_echo 21 = .ok (.iaload, 1) := by decide +kernel
theorem dX4_echo_22 : decode cX4_echo 22 = .ok (.ifCond .le 23, 3) := by decide +kernel
theorem dX4_echo_25 : decode cX4_echo 25 = .ok (.lload_n 3, 1) := by decide +kernel
theorem dX4_echo_26 : decode cX4_echo 26 = .ok (.aload_n 0, 1) := by decide +kernel
theorem dX4_echo_27 : decode cX4_echo 27 = .ok (.getfield 19, 3) := by decide +kernel
theorem dX4_echo_30 : decode cX4_echo 30 = .ok (.iload_n 2, 1) := by decide +kernel
theorem dX4_echo_31 : decode cX4_echo 31 = .ok (.laload, 1) := by decide +kernel
theorem dX4_echo_32 : decode cX4_echo 32 = .ok (.lcmp, 1) := by decide +kernel
theorem dX4_echo_33 : decode cX4_echo 33 = .ok (.ifCond .ge 12, 3) := by decide +kernel
theorem dX4_echo_36 : decode cX4_echo 36 = .ok (.aload_n 0, 1) := by decide +kernel
theorem dX4_echo_37 : decode cX4_echo 37 = .ok (.getfield 19, 3) := by decide +kernel
theorem dX4_echo_40 : decode cX4_echo 40 = .ok (.iload_n 2, 1) := by decide +kernel
theorem dX4_echo_41 : decode cX4_echo 41 = .ok (.laload, 1) := by decide +kernel
theorem dX4_echo_42 : decode cX4_echo 42 = .ok (.goto 4, 3) := by decide +kernel
theorem dX4_echo_45 : decode cX4_echo 45 = .ok (.lload_n 3, 1) := by decide +kernel
theorem dX4_echo_46 : decode cX4_echo 46 = .ok (.invokevirtual 196, 3) := by decide +kernel
theorem dX4_echo_49 : decode cX4_echo 49 = .ok (.aload_n 0, 1) := by decide +kernel
theorem dX4_echo_50 : decode cX4_echo 50 = .ok (.getfield 13, 3) := by decide +kernel
theorem dX4_echo_53 : decode cX4_echo 53 = .ok (.iload_n 2, 1) := by decide +kernel
theorem dX4_echo_54 : decode cX4_echo 54 = .ok (.iaload, 1) := by decide +kernel
theorem dX4_echo_55 : decode cX4_echo 55 = .ok (.iconst 1, 1) := by decide +kernel
theorem dX4_echo_56 : decode cX4_echo 56 = .ok (.isub, 1) := by decide +kernel
theorem dX4_echo_57 : decode cX4_echo 57 = .ok (.istore 5, 2) := by decide +kernel
theorem dX4_echo_59 : decode cX4_echo 59 = .ok (.aload_n 0, 1) := by decide +kernel
theorem dX4_echo_60 : decode cX4_echo 60 = .ok (.iload_n 2, 1) := by decide +kernel
theorem dX4_echo_61 : decode cX4_echo 61 = .ok (.iload 5, 2) := by decide +kernel
theorem dX4_echo_63 : decode cX4_echo 63 = .ok (.invokevirtual 171, 3) := by decide +kernel
theorem dX4_echo_66 : decode cX4_echo 66 = .ok (.istore 6, 2) := by decide +kernel
theorem dX4_echo_68 : decode cX4_echo 68 = .ok (.aload_n 0, 1) := by decide +kernel
theorem dX4_echo_69 : decode cX4_echo 69 = .ok (.getfield 23, 3) := by decide +kernel
theorem dX4_echo_72 : decode cX4_echo 72 = .ok (.iload 6, 2) := by decide +kernel
theorem dX4_echo_74 : decode cX4_echo 74 = .ok (.iconst 0, 1) := by decide +kernel
theorem dX4_echo_75 : decode cX4_echo 75 = .ok (.bastore, 1) := by decide +kernel
theorem dX4_echo_76 : decode cX4_echo 76 = .ok (.aload_n 0, 1) := by decide +kernel
theorem dX4_echo_77 : decode cX4_echo 77 = .ok (.getfield 30, 3) := by decide +kernel
theorem dX4_echo_80 : decode cX4_echo 80 = .ok (.iload 6, 2) := by decide +kernel
theorem dX4_echo_82 : decode cX4_echo 82 = .ok (.aload_n 0, 1) := by decide +kernel
theorem dX4_echo_83 : decode cX4_echo 83 = .ok (.getfield 81, 3) := by decide +kernel
theorem dX4_echo_86 : decode cX4_echo 86 = .ok (.iload_n 1, 1) := by decide +kernel
theorem dX4_echo_87 : decode cX4_echo 87 = .ok (.iaload, 1) := by decide +kernel
theorem dX4_echo_88 : decode cX4_echo 88 = .ok (.iastore, 1) := by decide +kernel
theorem dX4_echo_89 : decode cX4_echo 89 = .ok (.aload_n 0, 1) := by decide +kernel
theorem dX4_echo_90 : decode cX4_echo 90 = .ok (.getfield 33, 3) := by decide +kernel
theorem dX4_echo_93 : decode cX4_echo 93 = .ok (.iload 6, 2) := by decide +kernel
theorem dX4_echo_95 : decode cX4_echo 95 = .ok (.aload_n 0, 1) := by decide +kernel
theorem dX4_echo_96 : decode cX4_echo 96 = .ok (.getfield 84, 3) := by decide +kernel
theorem dX4_echo_99 : decode cX4_echo 99 = .ok (.iload_n 1, 1) := by decide +kernel
theorem dX4_echo_100 : decode cX4_echo 100 = .ok (.iaload, 1) := by decide +kernel
theorem dX4_echo_101 : decode cX4_echo 101 = .ok (.iastore, 1) := by decide +kernel
theorem dX4_echo_102 : decode cX4_echo 102 = .ok (.iconst 0, 1) := by decide +kernel
theorem dX4_echo_103 : decode cX4_echo 103 = .ok (.istore 7, 2) := by decide +kernel
theorem dX4_echo_105 : decode cX4_echo 105 = .ok (.iload 7, 2) := by decide +kernel
theorem dX4_echo_107 : decode cX4_echo 107 = .ok (.bipush 8, 2) := by decide +kernel
theorem dX4_echo_109 : decode cX4_echo 109 = .ok (.if_icmp .ge 34, 3) := by decide +kernel
theorem dX4_echo_112 : decode cX4_echo 112 = .ok (.aload_n 0, 1) := by decide +kernel
theorem dX4_echo_113 : decode cX4_echo 113 = .ok (.getfield 36, 3) := by decide +kernel
theorem dX4_echo_116 : decode cX4_echo 116 = .ok (.bipush 8, 2) := by decide +kernel
theorem dX4_echo_118 : decode cX4_echo 118 = .ok (.iload 6, 2) := by decide +kernel
theorem dX4_echo_120 : decode cX4_echo 120 = .ok (.imul, 1) := by decide +kernel
theorem dX4_echo_121 : decode cX4_echo 121 = .ok (.iload 7, 2) := by decide +kernel
theorem dX4_echo_123 : decode cX4_echo 123 = .ok (.iadd, 1) := by decide +kernel
theorem dX4_echo_124 : decode cX4_echo 124 = .ok (.aload_n 0, 1) := by decide +kernel
theorem dX4_echo_125 : decode cX4_echo 125 = .ok (.getfield 87, 3) := by decide +kernel
theorem dX4_echo_128 : decode cX4_echo 128 = .ok (.bipush 8, 2) := by decide +kernel
theorem dX4_echo_130 : decode cX4_echo 130 = .ok (.iload_n 1, 1) := by decide +kernel
theorem dX4_echo_131 : decode cX4_echo 131 = .ok (.imul, 1) := by decide +kernel
theorem dX4_echo_132 : decode cX4_echo 132 = .ok (.iload 7, 2) := by decide +kernel
theorem dX4_echo_134 : decode cX4_echo 134 = .ok (.iadd, 1) := by decide +kernel
theorem dX4_echo_135 : decode cX4_echo 135 = .ok (.laload, 1) := by decide +kernel
theorem dX4_echo_136 : decode cX4_echo 136 = .ok (.lastore, 1) := by decide +kernel
theorem dX4_echo_137 : decode cX4_echo 137 = .ok (.iinc 7 1, 3) := by decide +kernel
theorem dX4_echo_140 : decode cX4_echo 140 = .ok (.goto (-35), 3) := by decide +kernel
theorem dX4_echo_143 : decode cX4_echo 143 = .ok (.aload_n 0, 1) := by decide +kernel
theorem dX4_echo_144 : decode cX4_echo 144 = .ok (.iload_n 2, 1) := by decide +kernel
theorem dX4_echo_145 : decode cX4_echo 145 = .ok (.iload 5, 2) := by decide +kernel
theorem dX4_echo_147 : decode cX4_echo 147 = .ok (.invokevirtual 207, 3) := by decide +kernel
theorem dX4_echo_150 : decode cX4_echo 150 = .ok (.return_, 1) := by decide +kernel
theorem dX4_miss_0 : decode cX4_miss 0 = .ok (.aload_n 0, 1) := by decide +kernel
theorem dX4_miss_1 : decode cX4_miss 1 = .ok (.getfield 45, 3) := by decide +kernel
theorem dX4_miss_4 : decode cX4_miss 4 = .ok (.iconst 4, 1) := by decide +kernel
theorem dX4_miss_5 : decode cX4_miss 5 = .ok (.iload_n 1, 1) := by decide +kernel
theorem dX4_miss_6 : decode cX4_miss 6 = .ok (.imul, 1) := by decide +kernel
theorem dX4_miss_7 : decode cX4_miss 7 = .ok (.iaload, 1) := by decide +kernel
theorem dX4_miss_8 : decode cX4_miss 8 = .ok (.istore_n 3, 1) := by decide +kernel
theorem dX4_miss_9 : decode cX4_miss 9 = .ok (.iload_n 2, 1) := by decide +kernel
theorem dX4_miss_10 : decode cX4_miss 10 = .ok (.iload_n 3, 1) := by decide +kernel
theorem dX4_miss_11 : decode cX4_miss 11 = .ok (.if_icmp .le 40, 3) := by decide +kernel
theorem dX4_miss_14 : decode cX4_miss 14 = .ok (.aload_n 0, 1) := by decide +kernel
theorem dX4_miss_15 : decode cX4_miss 15 = .ok (.getfield 60, 3) := by decide +kernel
theorem dX4_miss_18 : decode cX4_miss 18 = .ok (.iload_n 1, 1) := by decide +kernel
theorem dX4_miss_19 : decode cX4_miss 19 = .ok (.dup2, 1) := by decide +kernel
theorem dX4_miss_20 : decode cX4_miss 20 = .ok (.iaload, 1) := by decide +kernel
theorem dX4_miss_21 : decode cX4_miss 21 = .ok (.iload_n 2, 1) := by decide +kernel
theorem dX4_miss_22 : decode cX4_miss 22 = .ok (.iload_n 3, 1) := by decide +kernel
theorem dX4_miss_23 : decode cX4_miss 23 = .ok (.isub, 1) := by decide +kernel
theorem dX4_miss_24 : decode cX4_miss 24 = .ok (.iadd, 1) := by decide +kernel
theorem dX4_miss_25 : decode cX4_miss 25 = .ok (.iastore, 1) := by decide +kernel
theorem dX4_miss_26 : decode cX4_miss 26 = .ok (.aload_n 0, 1) := by decide +kernel
theorem dX4_miss_27 : decode cX4_miss 27 = .ok (.getfield 63, 3) := by decide +kernel
theorem dX4_miss_30 : decode cX4_miss 30 = .ok (.iload_n 1, 1) := by decide +kernel
theorem dX4_miss_31 : decode cX4_miss 31 = .ok (.iload_n 3, 1) := by decide +kernel
theorem dX4_miss_32 : decode cX4_miss 32 = .ok (.iastore, 1) := by decide +kernel
theorem dX4_miss_33 : decode cX4_miss 33 = .ok (.aload_n 0, 1) := by decide +kernel
theorem dX4_miss_34 : decode cX4_miss 34 = .ok (.getfield 66, 3) := by decide +kernel
theorem dX4_miss_37 : decode cX4_miss 37 = .ok (.iload_n 1, 1) := by decide +kernel
theorem dX4_miss_38 : decode cX4_miss 38 = .ok (.iload_n 2, 1) := by decide +kernel
theorem dX4_miss_39 : decode cX4_miss 39 = .ok (.iconst 1, 1) := by decide +kernel
theorem dX4_miss_40 : decode cX4_miss 40 = .ok (.isub, 1) := by decide +kernel
theorem dX4_miss_41 : decode cX4_miss 41 = .ok (.iastore, 1) := by decide +kernel
theorem dX4_miss_42 : decode cX4_miss 42 = .ok (.aload_n 0, 1) := by decide +kernel
theorem dX4_miss_43 : decode cX4_miss 43 = .ok (.getfield 45, 3) := by decide +kernel
theorem dX4_miss_46 : decode cX4_miss 46 = .ok (.iconst 4, 1) := by decide +kernel
theorem dX4_miss_47 : decode cX4_miss 47 = .ok (.iload_n 1, 1) := by decide +kernel
theorem dX4_miss_48 : decode cX4_miss 48 = .ok (.imul, 1) := by decide +kernel
theorem dX4_miss_49 : decode cX4_miss 49 = .ok (.iload_n 2, 1) := by decide +kernel
theorem dX4_miss_50 : decode cX4_miss 50 = .ok (.iastore, 1) := by decide +kernel
theorem dX4_miss_51 : decode cX4_miss 51 = .ok (.return_, 1) := by decide +kernel
theorem dX4_takeLeast_0 : decode cX4_takeLeast 0 = .ok (.iconst (-1), 1) := by decide +kernel
theorem dX4_takeLeast_1 : decode cX4_takeLeast 1 = .ok (.istore_n 2, 1) := by decide +kernel
theorem dX4_takeLeast_2 : decode cX4_takeLeast 2 = .ok (.iconst 0, 1) := by decide +kernel
theorem dX4_takeLeast_3 : decode cX4_takeLeast 3 = .ok (.istore_n 3, 1) := by decide +kernel
theorem dX4_takeLeast_4 : decode cX4_takeLeast 4 = .ok (.iload_n 3, 1) := by decide +kernel
theorem dX4_takeLeast_5 : decode cX4_takeLeast 5 = .ok (.aload_n 0, 1) := by decide +kernel
theorem dX4_takeLeast_6 : decode cX4_takeLeast 6 = .ok (.getfield 48, 3) := by decide +kernel
theorem dX4_takeLeast_9 : decode cX4_takeLeast 9 = .ok (.iload_n 1, 1) := by decide +kernel
theorem dX4_takeLeast_10 : decode cX4_takeLeast 10 = .ok (.iaload, 1) := by decide +kernel
theorem dX4_takeLeast_11 : decode cX4_takeLeast 11 = .ok (.if_icmp .ge 137, 3) := by decide +kernel
theorem dX4_takeLeast_14 : decode cX4_takeLeast 14 = .ok (.aload_n 0, 1) := by decide +kernel
theorem dX4_takeLeast_15 : decode cX4_takeLeast 15 = .ok (.iload_n 1, 1) := by decide +kernel
theorem dX4_takeLeast_16 : decode cX4_takeLeast 16 = .ok (.iload_n 3, 1) := by decide +kernel
theorem dX4_takeLeast_17 : decode cX4_takeLeast 17 = .ok (.invokevirtual 225, 3) := by decide +kernel
theorem dX4_takeLeast_20 : decode cX4_takeLeast 20 = .ok (.ifCond .ne 122, 3) := by decide +kernel
theorem dX4_takeLeast_23 : decode cX4_takeLeast 23 = .ok (.aload_n 0, 1) := by decide +kernel
theorem dX4_takeLeast_24 : decode cX4_takeLeast 24 = .ok (.getfield 42, 3) := by decide +kernel
theorem dX4_takeLeast_27 : decode cX4_takeLeast 27 = .ok (.iconst 4, 1) := by decide +kernel
theorem dX4_takeLeast_28 : decode cX4_takeLeast 28 = .ok (.iload_n 1, 1) := by decide +kernel
theorem dX4_takeLeast_29 : decode cX4_takeLeast 29 = .ok (.imul, 1) := by decide +kernel
theorem dX4_takeLeast_30 : decode cX4_takeLeast 30 = .ok (.iload_n 3, 1) := by decide +kernel
theorem dX4_takeLeast_31 : decode cX4_takeLeast 31 = .ok (.iadd, 1) := by decide +kernel
theorem dX4_takeLeast_32 : decode cX4_takeLeast 32 = .ok (.iaload, 1) := by decide +kernel
theorem dX4_takeLeast_33 : decode cX4_takeLeast 33 = .ok (.istore 4, 2) := by decide +kernel
theorem dX4_takeLeast_35 : decode cX4_takeLeast 35 = .ok (.aload_n 0, 1) := by decide +kernel
theorem dX4_takeLeast_36 : decode cX4_takeLeast 36 = .ok (.getfield 27, 3) := by decide +kernel
theorem dX4_takeLeast_39 : decode cX4_takeLeast 39 = .ok (.aload_n 0, 1) := by decide +kernel
theorem dX4_takeLeast_40 : decode cX4_takeLeast 40 = .ok (.iload 4, 2) := by decide +kernel
theorem dX4_takeLeast_42 : decode cX4_takeLeast 42 = .ok (.aload_n 0, 1) := by decide +kernel
theorem dX4_takeLeast_43 : decode cX4_takeLeast 43 = .ok (.getfield 45, 3) := by decide +kernel
theorem dX4_takeLeast_46 : decode cX4_takeLeast 46 = .ok (.iconst 4, 1) := by decide +kernel
theorem dX4_takeLeast_47 : decode cX4_takeLeast 47 = .ok (.iload_n 1, 1) := by decide +kernel
theorem dX4_takeLeast_48 : decode cX4_takeLeast 48 = .ok (.imul, 1) := by decide +kernel
theorem dX4_takeLeast_49 : decode cX4_takeLeast 49 = .ok (.iload_n 3, 1) := by decide +kernel
theorem dX4_takeLeast_50 : decode cX4_takeLeast 50 = .ok (.iadd, 1) := by decide +kernel
theorem dX4_takeLeast_51 : decode cX4_takeLeast 51 = .ok (.iaload, 1) := by decide +kernel
theorem dX4_takeLeast_52 : decode cX4_takeLeast 52 = .ok (.invokevirtual 171, 3) := by decide +kernel
theorem dX4_takeLeast_55 : decode cX4_takeLeast 55 = .ok (.laload, 1) := by decide +kernel
theorem dX4_takeLeast_56 : decode cX4_takeLeast 56 = .ok (.lstore 5, 2) := by decide +kernel
theorem dX4_takeLeast_58 : decode cX4_takeLeast 58 = .ok (.iload_n 2, 1) := by decide +kernel
theorem dX4_takeLeast_59 : decode cX4_takeLeast 59 = .ok (.ifCond .ge 7, 3) := by decide +kernel
theorem dX4_takeLeast_62 : decode cX4_takeLeast 62 = .ok (.iconst 0, 1) := by decide +kernel
theorem dX4_takeLeast_63 : decode cX4_takeLeast 63 = .ok (.goto 13, 3) := by decide +kernel
theorem dX4_takeLeast_66 : decode cX4_takeLeast 66 = .ok (.aload_n 0, 1) := by decide +kernel
theorem dX4_takeLeast_67 : decode cX4_takeLeast 67 = .ok (.getfield 42, 3) := by decide +kernel
theorem dX4_takeLeast_70 : decode cX4_takeLeast 70 = .ok (.iconst 4, 1) := by decide +kernel
theorem dX4_takeLeast_71 : decode cX4_takeLeast 71 = .ok (.iload_n 1, 1) := by decide +kernel
theorem dX4_takeLeast_72 : decode cX4_takeLeast 72 = .ok (.imul, 1) := by decide +kernel
theorem dX4_takeLeast_73 : decode cX4_takeLeast 73 = .ok (.iload_n 2, 1) := by decide +kernel
theorem dX4_takeLeast_74 : decode cX4_takeLeast 74 = .ok (.iadd, 1) := by decide +kernel
theorem dX4_takeLeast_75 : decode cX4_takeLeast 75 = .ok (.iaload, 1) := by decide +kernel
theorem dX4_takeLeast_76 : decode cX4_takeLeast 76 = .ok (.istore 7, 2) := by decide +kernel
theorem dX4_takeLeast_78 : decode cX4_takeLeast 78 = .ok (.iload_n 2, 1) := by decide +kernel
theorem dX4_takeLeast_79 : decode cX4_takeLeast 79 = .ok (.ifCond .ge 7, 3) := by decide +kernel
theorem dX4_takeLeast_82 : decode cX4_takeLeast 82 = .ok (.lconst 0, 1) := by decide +kernel
theorem dX4_takeLeast_83 : decode cX4_takeLeast 83 = .ok (.goto 24, 3) := by decide +kernel
theorem dX4_takeLeast_86 : decode cX4_takeLeast 86 = .ok (.aload_n 0, 1) := by decide +kernel
theorem dX4_takeLeast_87 : decode cX4_takeLeast 87 = .ok (.getfield 27, 3) := by decide +kernel
theorem dX4_takeLeast_90 : decode cX4_takeLeast 90 = .ok (.aload_n 0, 1) := by decide +kernel
theorem dX4_takeLeast_91 : decode cX4_takeLeast 91 = .ok (.iload 7, 2) := by decide +kernel
theorem dX4_takeLeast_93 : decode cX4_takeLeast 93 = .ok (.aload_n 0, 1) := by decide +kernel
theorem dX4_takeLeast_94 : decode cX4_takeLeast 94 = .ok (.getfield 45, 3) := by decide +kernel
theorem dX4_takeLeast_97 : decode cX4_takeLeast 97 = .ok (.iconst 4, 1) := by decide +kernel
theorem dX4_takeLeast_98 : decode cX4_takeLeast 98 = .ok (.iload_n 1, 1) := by decide +kernel
theorem dX4_takeLeast_99 : decode cX4_takeLeast 99 = .ok (.imul, 1) := by decide +kernel
theorem dX4_takeLeast_100 : decode cX4_takeLeast 100 = .ok (.iload_n 2, 1) := by decide +kernel
theorem dX4_takeLeast_101 : decode cX4_takeLeast 101 = .ok (.iadd, 1) := by decide +kernel
theorem dX4_takeLeast_102 : decode cX4_takeLeast 102 = .ok (.iaload, 1) := by decide +kernel
theorem dX4_takeLeast_103 : decode cX4_takeLeast 103 = .ok (.invokevirtual 171, 3) := by decide +kernel
theorem dX4_takeLeast_106 : decode cX4_takeLeast 106 = .ok (.laload, 1) := by decide +kernel
theorem dX4_takeLeast_107 : decode cX4_takeLeast 107 = .ok (.lstore 8, 2) := by decide +kernel
theorem dX4_takeLeast_109 : decode cX4_takeLeast 109 = .ok (.iload_n 2, 1) := by decide +kernel
theorem dX4_takeLeast_110 : decode cX4_takeLeast 110 = .ok (.ifCond .lt 26, 3) := by decide +kernel
theorem dX4_takeLeast_113 : decode cX4_takeLeast 113 = .ok (.lload 5, 2) := by decide +kernel
theorem dX4_takeLeast_115 : decode cX4_takeLeast 115 = .ok (.lload 8, 2) := by decide +kernel
theorem dX4_takeLeast_117 : decode cX4_takeLeast 117 = .ok (.lcmp, 1) := by decide +kernel
theorem dX4_takeLeast_118 : decode cX4_takeLeast 118 = .ok (.ifCond .lt 18, 3) := by decide +kernel
theorem dX4_takeLeast_121 : decode cX4_takeLeast 121 = .ok (.lload 5, 2) := by decide +kernel
theorem dX4_takeLeast_123 : decode cX4_takeLeast 123 = .ok (.lload 8, 2) := by decide +kernel
theorem dX4_takeLeast_125 : decode cX4_takeLeast 125 = .ok (.lcmp, 1) := by decide +kernel
theorem dX4_takeLeast_126 : decode cX4_takeLeast 126 = .ok (.ifCond .ne 14, 3) := by decide +kernel
theorem dX4_takeLeast_129 : decode cX4_takeLeast 129 = .ok (.iload 4, 2) := by decide +kernel
theorem dX4_takeLeast_131 : decode cX4_takeLeast 131 = .ok (.iload 7, 2) := by decide +kernel
theorem dX4_takeLeast_133 : decode cX4_takeLeast 133 = .ok (.if_icmp .ge 7, 3) := by decide +kernel
theorem dX4_takeLeast_136 : decode cX4_takeLeast 136 = .ok (.iload_n 3, 1) := by decide +kernel
theorem dX4_takeLeast_137 : decode cX4_takeLeast 137 = .ok (.goto 4, 3) := by decide +kernel
theorem dX4_takeLeast_140 : decode cX4_takeLeast 140 = .ok (.iload_n 2, 1) := by decide +kernel
theorem dX4_takeLeast_141 : decode cX4_takeLeast 141 = .ok (.istore_n 2, 1) := by decide +kernel
theorem dX4_takeLeast_142 : decode cX4_takeLeast 142 = .ok (.iinc 3 1, 3) := by decide +kernel
theorem dX4_takeLeast_145 : decode cX4_takeLeast 145 = .ok (.goto (-141), 3) := by decide +kernel
theorem dX4_takeLeast_148 : decode cX4_takeLeast 148 = .ok (.aload_n 0, 1) := by decide +kernel
theorem dX4_takeLeast_149 : decode cX4_takeLeast 149 = .ok (.iload_n 1, 1) := by decide +kernel
theorem dX4_takeLeast_150 : decode cX4_takeLeast 150 = .ok (.aload_n 0, 1) := by decide +kernel
theorem dX4_takeLeast_151 : decode cX4_takeLeast 151 = .ok (.getfield 42, 3) := by decide +kernel
theorem dX4_takeLeast_154 : decode cX4_takeLeast 154 = .ok (.iconst 4, 1) := by decide +kernel
theorem dX4_takeLeast_155 : decode cX4_takeLeast 155 = .ok (.iload_n 1, 1) := by decide +kernel
theorem dX4_takeLeast_156 : decode cX4_takeLeast 156 = .ok (.imul, 1) := by decide +kernel
theorem dX4_takeLeast_157 : decode cX4_takeLeast 157 = .ok (.iload_n 2, 1) := by decide +kernel
theorem dX4_takeLeast_158 : decode cX4_takeLeast 158 = .ok (.iadd, 1) := by decide +kernel
theorem dX4_takeLeast_159 : decode cX4_takeLeast 159 = .ok (.iaload, 1) := by decide +kernel
theorem dX4_takeLeast_160 : decode cX4_takeLeast 160 = .ok (.aload_n 0, 1) := by decide +kernel
theorem dX4_takeLeast_161 : decode cX4_takeLeast 161 = .ok (.getfield 45, 3) := by decide +kernel
theorem dX4_takeLeast_164 : decode cX4_takeLeast 164 = .ok (.iconst 4, 1) := by decide +kernel
theorem dX4_takeLeast_165 : decode cX4_takeLeast 165 = .ok (.iload_n 1, 1) := by decide +kernel
theorem dX4_takeLeast_166 : decode cX4_takeLeast 166 = .ok (.imul, 1) := by decide +kernel
theorem dX4_takeLeast_167 : decode cX4_takeLeast 167 = .ok (.iload_n 2, 1) := by decide +kernel
theorem dX4_takeLeast_168 : decode cX4_takeLeast 168 = .ok (.iadd, 1) := by decide +kernel
theorem dX4_takeLeast_169 : decode cX4_takeLeast 169 = .ok (.iaload, 1) := by decide +kernel
theorem dX4_takeLeast_170 : decode cX4_takeLeast 170 = .ok (.invokevirtual 246, 3) := by decide +kernel
theorem dX4_takeLeast_173 : decode cX4_takeLeast 173 = .ok (.aload_n 0, 1) := by decide +kernel
theorem dX4_takeLeast_174 : decode cX4_takeLeast 174 = .ok (.getfield 45, 3) := by decide +kernel
theorem dX4_takeLeast_177 : decode cX4_takeLeast 177 = .ok (.iconst 4, 1) := by decide +kernel
theorem dX4_takeLeast_178 : decode cX4_takeLeast 178 = .ok (.iload_n 1, 1) := by decide +kernel
theorem dX4_takeLeast_179 : decode cX4_takeLeast 179 = .ok (.imul, 1) := by decide +kernel
theorem dX4_takeLeast_180 : decode cX4_takeLeast 180 = .ok (.iload_n 2, 1) := by decide +kernel
theorem dX4_takeLeast_181 : decode cX4_takeLeast 181 = .ok (.iadd, 1) := by decide +kernel
theorem dX4_takeLeast_182 : decode cX4_takeLeast 182 = .ok (.dup2, 1) := by decide +kernel
theorem dX4_takeLeast_183 : decode cX4_takeLeast 183 = .ok (.iaload, 1) := by decide +kernel
theorem dX4_takeLeast_184 : decode cX4_takeLeast 184 = .ok (.iconst 1, 1) := by decide +kernel
theorem dX4_takeLeast_185 : decode cX4_takeLeast 185 = .ok (.iadd, 1) := by decide +kernel
theorem dX4_takeLeast_186 : decode cX4_takeLeast 186 = .ok (.iastore, 1) := by decide +kernel
theorem dX4_takeLeast_187 : decode cX4_takeLeast 187 = .ok (.return_, 1) := by decide +kernel
theorem dX4_read_0 : decode cX4_read 0 = .ok (.aload_n 0, 1) := by decide +kernel
theorem dX4_read_1 : decode cX4_read 1 = .ok (.getfield 135, 3) := by decide +kernel
theorem dX4_read_4 : decode cX4_read 4 = .ok (.ifCond .ne 6, 3) := by decide +kernel
theorem dX4_read_7 : decode cX4_read 7 = .ok (.bipush (-2), 2) := by decide +kernel
theorem dX4_read_9 : decode cX4_read 9 = .ok (.ireturn, 1) := by decide +kernel
theorem dX4_read_10 : decode cX4_read 10 = .ok (.aload_n 0, 1) := by decide +kernel
theorem dX4_read_11 : decode cX4_read 11 = .ok (.iload_n 1, 1) := by decide +kernel
theorem dX4_read_12 : decode cX4_read 12 = .ok (.invokevirtual 146, 3) := by decide +kernel
theorem dX4_read_15 : decode cX4_read 15 = .ok (.ifCond .ne 9, 3) := by decide +kernel
theorem dX4_read_18 : decode cX4_read 18 = .ok (.aload_n 0, 1) := by decide +kernel
theorem dX4_read_19 : decode cX4_read 19 = .ok (.iconst 2, 1) := by decide +kernel
theorem dX4_read_20 : decode cX4_read 20 = .ok (.invokevirtual 131, 3) := by decide +kernel
theorem dX4_read_23 : decode cX4_read 23 = .ok (.ireturn, 1) := by decide +kernel
theorem dX4_read_24 : decode cX4_read 24 = .ok (.aload_n 0, 1) := by decide +kernel
theorem dX4_read_25 : decode cX4_read 25 = .ok (.getfield 39, 3) := by decide +kernel
theorem dX4_read_28 : decode cX4_read 28 = .ok (.iload_n 1, 1) := by decide +kernel
theorem dX4_read_29 : decode cX4_read 29 = .ok (.iaload, 1) := by decide +kernel
theorem dX4_read_30 : decode cX4_read 30 = .ok (.istore_n 2, 1) := by decide +kernel
theorem dX4_read_31 : decode cX4_read 31 = .ok (.aload_n 0, 1) := by decide +kernel
theorem dX4_read_32 : decode cX4_read 32 = .ok (.getfield 42, 3) := by decide +kernel
theorem dX4_read_35 : decode cX4_read 35 = .ok (.iconst 4, 1) := by decide +kernel
theorem dX4_read_36 : decode cX4_read 36 = .ok (.iload_n 1, 1) := by decide +kernel
theorem dX4_read_37 : decode cX4_read 37 = .ok (.imul, 1) := by decide +kernel
theorem dX4_read_38 : decode cX4_read 38 = .ok (.iaload, 1) := by decide +kernel
theorem dX4_read_39 : decode cX4_read 39 = .ok (.istore_n 3, 1) := by decide +kernel
theorem dX4_read_40 : decode cX4_read 40 = .ok (.aload_n 0, 1) := by decide +kernel
theorem dX4_read_41 : decode cX4_read 41 = .ok (.iload_n 1, 1) := by decide +kernel
theorem dX4_read_42 : decode cX4_read 42 = .ok (.invokevirtual 240, 3) := by decide +kernel
theorem dX4_read_45 : decode cX4_read 45 = .ok (.istore 4, 2) := by decide +kernel
theorem dX4_read_47 : decode cX4_read 47 = .ok (.iload_n 2, 1) := by decide +kernel
theorem dX4_read_48 : decode cX4_read 48 = .ok (.iconst 3, 1) := by decide +kernel
theorem dX4_read_49 : decode cX4_read 49 = .ok (.if_icmp .ne 40, 3) := by decide +kernel
theorem dX4_read_52 : decode cX4_read 52 = .ok (.aload_n 0, 1) := by decide +kernel
theorem dX4_read_53 : decode cX4_read 53 = .ok (.iload_n 1, 1) := by decide +kernel
theorem dX4_read_54 : decode cX4_read 54 = .ok (.aload_n 0, 1) := by decide +kernel
theorem dX4_read_55 : decode cX4_read 55 = .ok (.getfield 16, 3) := by decide +kernel
theorem dX4_read_58 : decode cX4_read 58 = .ok (.iload_n 3, 1) := by decide +kernel
theorem dX4_read_59 : decode cX4_read 59 = .ok (.iaload, 1) := by decide +kernel
theorem dX4_read_60 : decode cX4_read 60 = .ok (.iconst 2, 1) := by decide +kernel
theorem dX4_read_61 : decode cX4_read 61 = .ok (.if_icmp .ne 12, 3) := by decide +kernel
theorem dX4_read_64 : decode cX4_read 64 = .ok (.aload_n 0, 1) := by decide +kernel
theorem dX4_read_65 : decode cX4_read 65 = .ok (.getfield 13, 3) := by decide +kernel
theorem dX4_read_68 : decode cX4_read 68 = .ok (.iload_n 3, 1) := by decide +kernel
theorem dX4_read_69 : decode cX4_read 69 = .ok (.iaload, 1) := by decide +kernel
theorem dX4_read_70 : decode cX4_read 70 = .ok (.goto 16, 3) := by decide +kernel
theorem dX4_read_73 : decode cX4_read 73 = .ok (.aload_n 0, 1) := by decide +kernel
theorem dX4_read_74 : decode cX4_read 74 = .ok (.getfield 13, 3) := by decide +kernel
theorem dX4_read_77 : decode cX4_read 77 = .ok (.iload_n 3, 1) := by decide +kernel
theorem dX4_read_78 : decode cX4_read 78 = .ok (.iaload, 1) := by decide +kernel
theorem dX4_read_79 : decode cX4_read 79 = .ok (.aload_n 0, 1) := by decide +kernel
theorem dX4_read_80 : decode cX4_read 80 = .ok (.getfield 7, 3) := by decide +kernel
theorem dX4_read_83 : decode cX4_read 83 = .ok (.iload_n 3, 1) := by decide +kernel
theorem dX4_read_84 : decode cX4_read 84 = .ok (.iaload, 1) := by decide +kernel
theorem dX4_read_85 : decode cX4_read 85 = .ok (.isub, 1) := by decide +kernel
theorem dX4_read_86 : decode cX4_read 86 = .ok (.invokevirtual 250, 3) := by decide +kernel
theorem dX4_read_89 : decode cX4_read 89 = .ok (.iload 4, 2) := by decide +kernel
theorem dX4_read_91 : decode cX4_read 91 = .ok (.ifCond .le 19, 3) := by decide +kernel
theorem dX4_read_94 : decode cX4_read 94 = .ok (.iload 4, 2) := by decide +kernel
theorem dX4_read_96 : decode cX4_read 96 = .ok (.iconst 1, 1) := by decide +kernel
theorem dX4_read_97 : decode cX4_read 97 = .ok (.if_icmp .ne 11, 3) := by decide +kernel
theorem dX4_read_100 : decode cX4_read 100 = .ok (.aload_n 0, 1) := by decide +kernel
theorem dX4_read_101 : decode cX4_read 101 = .ok (.iconst 1, 1) := by decide +kernel
theorem dX4_read_102 : decode cX4_read 102 = .ok (.invokevirtual 131, 3) := by decide +kernel
theorem dX4_read_105 : decode cX4_read 105 = .ok (.goto 4, 3) := by decide +kernel
theorem dX4_read_108 : decode cX4_read 108 = .ok (.iconst 0, 1) := by decide +kernel
theorem dX4_read_109 : decode cX4_read 109 = .ok (.ireturn, 1) := by decide +kernel
theorem dX4_read_110 : decode cX4_read 110 = .ok (.iload_n 2, 1) := by decide +kernel
theorem dX4_read_111 : decode cX4_read 111 = .ok (.iconst 4, 1) := by decide +kernel
theorem dX4_read_112 : decode cX4_read 112 = .ok (.if_icmp .ne 11, 3) := by decide +kernel
theorem dX4_read_115 : decode cX4_read 115 = .ok (.aload_n 0, 1) := by decide +kernel
theorem dX4_read_116 : decode cX4_read 116 = .ok (.iload_n 1, 1) := by decide +kernel
theorem dX4_read_117 : decode cX4_read 117 = .ok (.invokevirtual 253, 3) := by decide +kernel
theorem dX4_read_120 : decode cX4_read 120 = .ok (.goto 61, 3) := by decide +kernel
theorem dX4_read_123 : decode cX4_read 123 = .ok (.iload_n 2, 1) := by decide +kernel
theorem dX4_read_124 : decode cX4_read 124 = .ok (.iconst 5, 1) := by decide +kernel
theorem dX4_read_125 : decode cX4_read 125 = .ok (.if_icmp .ne 11, 3) := by decide +kernel
theorem dX4_read_128 : decode cX4_read 128 = .ok (.aload_n 0, 1) := by decide +kernel
theorem dX4_read_129 : decode cX4_read 129 = .ok (.iload_n 1, 1) := by decide +kernel
theorem dX4_read_130 : decode cX4_read 130 = .ok (.invokevirtual 256, 3) := by decide +kernel
theorem dX4_read_133 : decode cX4_read 133 = .ok (.goto 48, 3) := by decide +kernel
theorem dX4_read_136 : decode cX4_read 136 = .ok (.iload_n 2, 1) := by decide +kernel
theorem dX4_read_137 : decode cX4_read 137 = .ok (.iconst 1, 1) := by decide +kernel
theorem dX4_read_138 : decode cX4_read 138 = .ok (.if_icmp .ne 17, 3) := by decide +kernel
theorem dX4_read_141 : decode cX4_read 141 = .ok (.aload_n 0, 1) := by decide +kernel
theorem dX4_read_142 : decode cX4_read 142 = .ok (.iload_n 1, 1) := by decide +kernel
theorem dX4_read_143 : decode cX4_read 143 = .ok (.iload_n 3, 1) := by decide +kernel
theorem dX4_read_144 : decode cX4_read 144 = .ok (.aload_n 0, 1) := by decide +kernel
theorem dX4_read_145 : decode cX4_read 145 = .ok (.iload_n 3, 1) := by decide +kernel
theorem dX4_read_146 : decode cX4_read 146 = .ok (.invokevirtual 231, 3) := by decide +kernel
theorem dX4_read_149 : decode cX4_read 149 = .ok (.invokevirtual 246, 3) := by decide +kernel
theorem dX4_read_152 : decode cX4_read 152 = .ok (.goto 29, 3) := by decide +kernel
theorem dX4_read_155 : decode cX4_read 155 = .ok (.aload_n 0, 1) := by decide +kernel
theorem dX4_read_156 : decode cX4_read 156 = .ok (.iload_n 1, 1) := by decide +kernel
theorem dX4_read_157 : decode cX4_read 157 = .ok (.iload_n 3, 1) := by decide +kernel
theorem dX4_read_158 : decode cX4_read 158 = .ok (.aload_n 0, 1) := by decide +kernel
theorem dX4_read_159 : decode cX4_read 159 = .ok (.getfield 45, 3) := by decide +kernel
theorem dX4_read_162 : decode cX4_read 162 = .ok (.iconst 4, 1) := by decide +kernel
theorem dX4_read_163 : decode cX4_read 163 = .ok (.iload_n 1, 1) := by decide +kernel
theorem dX4_read_164 : decode cX4_read 164 = .ok (.imul, 1) := by decide +kernel
theorem dX4_read_165 : decode cX4_read 165 = .ok (.iaload, 1) := by decide +kernel
theorem dX4_read_166 : decode cX4_read 166 = .ok (.invokevirtual 246, 3) := by decide +kernel
theorem dX4_read_169 : decode cX4_read 169 = .ok (.aload_n 0, 1) := by decide +kernel
theorem dX4_read_170 : decode cX4_read 170 = .ok (.getfield 45, 3) := by decide +kernel
theorem dX4_read_173 : decode cX4_read 173 = .ok (.iconst 4, 1) := by decide +kernel
theorem dX4_read_174 : decode cX4_read 174 = .ok (.iload_n 1, 1) := by decide +kernel
theorem dX4_read_175 : decode cX4_read 175 = .ok (.imul, 1) := by decide +kernel
theorem dX4_read_176 : decode cX4_read 176 = .ok (.dup2, 1) := by decide +kernel
theorem dX4_read_177 : decode cX4_read 177 = .ok (.iaload, 1) := by decide +kernel
theorem dX4_read_178 : decode cX4_read 178 = .ok (.iconst 1, 1) := by decide +kernel
theorem dX4_read_179 : decode cX4_read 179 = .ok (.iadd, 1) := by decide +kernel
theorem dX4_read_180 : decode cX4_read 180 = .ok (.iastore, 1) := by decide +kernel
theorem dX4_read_181 : decode cX4_read 181 = .ok (.iload_n 2, 1) := by decide +kernel
theorem dX4_read_182 : decode cX4_read 182 = .ok (.bipush 7, 2) := by decide +kernel
theorem dX4_read_184 : decode cX4_read 184 = .ok (.if_icmp .ne 8, 3) := by decide +kernel
theorem dX4_read_187 : decode cX4_read 187 = .ok (.aload_n 0, 1) := by decide +kernel
theorem dX4_read_188 : decode cX4_read 188 = .ok (.iload_n 1, 1) := by decide +kernel
theorem dX4_read_189 : decode cX4_read 189 = .ok (.invokevirtual 259, 3) := by decide +kernel
theorem dX4_read_192 : decode cX4_read 192 = .ok (.iconst 1, 1) := by decide +kernel
theorem dX4_read_193 : decode cX4_read 193 = .ok (.ireturn, 1) := by decide +kernel
theorem dX4_round_0 : decode cX4_round 0 = .ok (.aload_n 0, 1) := by decide +kernel
theorem dX4_round_1 : decode cX4_round 1 = .ok (.getfield 135, 3) := by decide +kernel
theorem dX4_round_4 : decode cX4_round 4 = .ok (.ifCond .ne 6, 3) := by decide +kernel
theorem dX4_round_7 : decode cX4_round 7 = .ok (.bipush (-2), 2) := by decide +kernel
theorem dX4_round_9 : decode cX4_round 9 = .ok (.ireturn, 1) := by decide +kernel
theorem dX4_round_10 : decode cX4_round 10 = .ok (.iconst 0, 1) := by decide +kernel
theorem dX4_round_11 : decode cX4_round 11 = .ok (.istore_n 1, 1) := by decide +kernel
theorem dX4_round_12 : decode cX4_round 12 = .ok (.iconst 0, 1) := by decide +kernel
theorem dX4_round_13 : decode cX4_round 13 = .ok (.istore_n 2, 1) := by decide +kernel
theorem dX4_round_14 : decode cX4_round 14 = .ok (.iload_n 2, 1) := by decide +kernel
theorem dX4_round_15 : decode cX4_round 15 = .ok (.aload_n 0, 1) := by decide +kernel
theorem dX4_round_16 : decode cX4_round 16 = .ok (.getfield 124, 3) := by decide +kernel
theorem dX4_round_19 : decode cX4_round 19 = .ok (.if_icmp .ge 26, 3) := by decide +kernel
theorem dX4_round_22 : decode cX4_round 22 = .ok (.iload_n 1, 1) := by decide +kernel
theorem dX4_round_23 : decode cX4_round 23 = .ok (.aload_n 0, 1) := by decide +kernel
theorem dX4_round_24 : decode cX4_round 24 = .ok (.iload_n 2, 1) := by decide +kernel
theorem dX4_round_25 : decode cX4_round 25 = .ok (.invokevirtual 262, 3) := by decide +kernel
theorem dX4_round_28 : decode cX4_round 28 = .ok (.iconst 1, 1) := by decide +kernel
theorem dX4_round_29 : decode cX4_round 29 = .ok (.if_icmp .ne 7, 3) := by decide +kernel
theorem dX4_round_32 : decode cX4_round 32 = .ok (.iconst 1, 1) := by decide +kernel
theorem dX4_round_33 : decode cX4_round 33 = .ok (.goto 4, 3) := by decide +kernel
theorem dX4_round_36 : decode cX4_round 36 = .ok (.iconst 0, 1) := by decide +kernel
theorem dX4_round_37 : decode cX4_round 37 = .ok (.iadd, 1) := by decide +kernel
theorem dX4_round_38 : decode cX4_round 38 = .ok (.istore_n 1, 1) := by decide +kernel
theorem dX4_round_39 : decode cX4_round 39 = .ok (.iinc 2 1, 3) := by decide +kernel
theorem dX4_round_42 : decode cX4_round 42 = .ok (.goto (-28), 3) := by decide +kernel
theorem dX4_round_45 : decode cX4_round 45 = .ok (.iload_n 1, 1) := by decide +kernel
theorem dX4_round_46 : decode cX4_round 46 = .ok (.ireturn, 1) := by decide +kernel
theorem dX4_got_0 : decode cX4_got 0 = .ok (.aload_n 0, 1) := by decide +kernel
theorem dX4_got_1 : decode cX4_got 1 = .ok (.iload_n 1, 1) := by decide +kernel
theorem dX4_got_2 : decode cX4_got 2 = .ok (.invokevirtual 146, 3) := by decide +kernel
theorem dX4_got_5 : decode cX4_got 5 = .ok (.ifCond .eq 12, 3) := by decide +kernel
theorem dX4_got_8 : decode cX4_got 8 = .ok (.aload_n 0, 1) := by decide +kernel
theorem dX4_got_9 : decode cX4_got 9 = .ok (.getfield 69, 3) := by decide +kernel
theorem dX4_got_12 : decode cX4_got 12 = .ok (.iload_n 1, 1) := by decide +kernel
theorem dX4_got_13 : decode cX4_got 13 = .ok (.iaload, 1) := by decide +kernel
theorem dX4_got_14 : decode cX4_got 14 = .ok (.ifCond .ne 7, 3) := by decide +kernel
theorem dX4_got_17 : decode cX4_got 17 = .ok (.ldc2_w 265, 3) := by decide +kernel
theorem dX4_got_20 : decode cX4_got 20 = .ok (.lreturn, 1) := by decide +kernel
theorem dX4_got_21 : decode cX4_got 21 = .ok (.iload_n 2, 1) := by decide +kernel
theorem dX4_got_22 : decode cX4_got 22 = .ok (.tableswitch 73 0 4 #[34, 42, 50, 57, 65], 34) := by decide +kernel
theorem dX4_got_56 : decode cX4_got 56 = .ok (.aload_n 0, 1) := by decide +kernel
theorem dX4_got_57 : decode cX4_got 57 = .ok (.getfield 72, 3) := by decide +kernel
theorem dX4_got_60 : decode cX4_got 60 = .ok (.iload_n 1, 1) := by decide +kernel
theorem dX4_got_61 : decode cX4_got 61 = .ok (.iaload, 1) := by decide +kernel
theorem dX4_got_62 : decode cX4_got 62 = .ok (.i2l, 1) := by decide +kernel
theorem dX4_got_63 : decode cX4_got 63 = .ok (.lreturn, 1) := by decide +kernel
theorem dX4_got_64 : decode cX4_got 64 = .ok (.aload_n 0, 1) := by decide +kernel
theorem dX4_got_65 : decode cX4_got 65 = .ok (.getfield 75, 3) := by decide +kernel
theorem dX4_got_68 : decode cX4_got 68 = .ok (.iload_n 1, 1) := by decide +kernel
theorem dX4_got_69 : decode cX4_got 69 = .ok (.iaload, 1) := by decide +kernel
theorem dX4_got_70 : decode cX4_got 70 = .ok (.i2l, 1) := by decide +kernel
theorem dX4_got_71 : decode cX4_got 71 = .ok (.lreturn, 1) := by decide +kernel
theorem dX4_got_72 : decode cX4_got 72 = .ok (.aload_n 0, 1) := by decide +kernel
theorem dX4_got_73 : decode cX4_got 73 = .ok (.getfield 78, 3) := by decide +kernel
theorem dX4_got_76 : decode cX4_got 76 = .ok (.iload_n 1, 1) := by decide +kernel
theorem dX4_got_77 : decode cX4_got 77 = .ok (.laload, 1) := by decide +kernel
theorem dX4_got_78 : decode cX4_got 78 = .ok (.lreturn, 1) := by decide +kernel
theorem dX4_got_79 : decode cX4_got 79 = .ok (.aload_n 0, 1) := by decide +kernel
theorem dX4_got_80 : decode cX4_got 80 = .ok (.getfield 81, 3) := by decide +kernel
theorem dX4_got_83 : decode cX4_got 83 = .ok (.iload_n 1, 1) := by decide +kernel
theorem dX4_got_84 : decode cX4_got 84 = .ok (.iaload, 1) := by decide +kernel
theorem dX4_got_85 : decode cX4_got 85 = .ok (.i2l, 1) := by decide +kernel
theorem dX4_got_86 : decode cX4_got 86 = .ok (.lreturn, 1) := by decide +kernel
theorem dX4_got_87 : decode cX4_got 87 = .ok (.aload_n 0, 1) := by decide +kernel
theorem dX4_got_88 : decode cX4_got 88 = .ok (.getfield 84, 3) := by decide +kernel
theorem dX4_got_91 : decode cX4_got 91 = .ok (.iload_n 1, 1) := by decide +kernel
theorem dX4_got_92 : decode cX4_got 92 = .ok (.iaload, 1) := by decide +kernel
theorem dX4_got_93 : decode cX4_got 93 = .ok (.i2l, 1) := by decide +kernel
theorem dX4_got_94 : decode cX4_got 94 = .ok (.lreturn, 1) := by decide +kernel
theorem dX4_got_95 : decode cX4_got 95 = .ok (.ldc2_w 265, 3) := by decide +kernel
theorem dX4_got_98 : decode cX4_got 98 = .ok (.lreturn, 1) := by decide +kernel
theorem dX4_word_0 : decode cX4_word 0 = .ok (.aload_n 0, 1) := by decide +kernel
theorem dX4_word_1 : decode cX4_word 1 = .ok (.iload_n 1, 1) := by decide +kernel
theorem dX4_word_2 : decode cX4_word 2 = .ok (.invokevirtual 146, 3) := by decide +kernel
theorem dX4_word_5 : decode cX4_word 5 = .ok (.ifCond .eq 27, 3) := by decide +kernel
theorem dX4_word_8 : decode cX4_word 8 = .ok (.iload_n 2, 1) := by decide +kernel
theorem dX4_word_9 : decode cX4_word 9 = .ok (.ifCond .lt 23, 3) := by decide +kernel
theorem dX4_word_12 : decode cX4_word 12 = .ok (.iload_n 2, 1) := by decide +kernel
theorem dX4_word_13 : decode cX4_word 13 = .ok (.bipush 8, 2) := by decide +kernel
theorem dX4_word_15 : decode cX4_word 15 = .ok (.if_icmp .ge 17, 3) := by decide +kernel
theorem dX4_word_18 : decode cX4_word 18 = .ok (.aload_n 0, 1) := by decide +kernel
theorem dX4_word_19 : decode cX4_word 19 = .ok (.getfield 87, 3) := by decide +kernel
theorem dX4_word_22 : decode cX4_word 22 = .ok (.bipush 8, 2) := by decide +kernel
theorem dX4_word_24 : decode cX4_word 24 = .ok (.iload_n 1, 1) := by decide +kernel
theorem dX4_word_25 : decode cX4_word 25 = .ok (.imul, 1) := by decide +kernel
theorem dX4_word_26 : decode cX4_word 26 = .ok (.iload_n 2, 1) := by decide +kernel
theorem dX4_word_27 : decode cX4_word 27 = .ok (.iadd, 1) := by decide +kernel
theorem dX4_word_28 : decode cX4_word 28 = .ok (.laload, 1) := by decide +kernel
theorem dX4_word_29 : decode cX4_word 29 = .ok (.goto 4, 3) := by decide +kernel
theorem dX4_word_32 : decode cX4_word 32 = .ok (.lconst 0, 1) := by decide +kernel
theorem dX4_word_33 : decode cX4_word 33 = .ok (.lreturn, 1) := by decide +kernel
theorem dX4_of_0 : decode cX4_of 0 = .ok (.iload_n 2, 1) := by decide +kernel
theorem dX4_of_1 : decode cX4_of 1 = .ok (.ifCond .lt 9, 3) := by decide +kernel
theorem dX4_of_4 : decode cX4_of 4 = .ok (.iload_n 2, 1) := by decide +kernel
theorem dX4_of_5 : decode cX4_of 5 = .ok (.bipush 8, 2) := by decide +kernel
theorem dX4_of_7 : decode cX4_of 7 = .ok (.if_icmp .le 5, 3) := by decide +kernel
theorem dX4_of_10 : decode cX4_of 10 = .ok (.iconst (-1), 1) := by decide +kernel
theorem dX4_of_11 : decode cX4_of 11 = .ok (.ireturn, 1) := by decide +kernel
theorem dX4_of_12 : decode cX4_of 12 = .ok (.aload_n 0, 1) := by decide +kernel
theorem dX4_of_13 : decode cX4_of 13 = .ok (.iload_n 1, 1) := by decide +kernel
theorem dX4_of_14 : decode cX4_of 14 = .ok (.invokevirtual 146, 3) := by decide +kernel
theorem dX4_of_17 : decode cX4_of 17 = .ok (.ifCond .ne 9, 3) := by decide +kernel
theorem dX4_of_20 : decode cX4_of 20 = .ok (.aload_n 0, 1) := by decide +kernel
theorem dX4_of_21 : decode cX4_of 21 = .ok (.iconst 2, 1) := by decide +kernel
theorem dX4_of_22 : decode cX4_of 22 = .ok (.invokevirtual 131, 3) := by decide +kernel
theorem dX4_of_25 : decode cX4_of 25 = .ok (.ireturn, 1) := by decide +kernel
theorem dX4_of_26 : decode cX4_of 26 = .ok (.iload_n 2, 1) := by decide +kernel
theorem dX4_of_27 : decode cX4_of 27 = .ok (.tableswitch 110 0 7 #[45, 52, 61, 75, 82, 89, 96, 103], 45) := by decide +kernel
theorem dX4_of_72 : decode cX4_of 72 = .ok (.aload_n 0, 1) := by decide +kernel
theorem dX4_of_73 : decode cX4_of 73 = .ok (.getfield 39, 3) := by decide +kernel
theorem dX4_of_76 : decode cX4_of 76 = .ok (.iload_n 1, 1) := by decide +kernel
theorem dX4_of_77 : decode cX4_of 77 = .ok (.iaload, 1) := by decide +kernel
theorem dX4_of_78 : decode cX4_of 78 = .ok (.ireturn, 1) := by decide +kernel
theorem dX4_of_79 : decode cX4_of 79 = .ok (.aload_n 0, 1) := by decide +kernel
theorem dX4_of_80 : decode cX4_of 80 = .ok (.getfield 42, 3) := by decide +kernel
theorem dX4_of_83 : decode cX4_of 83 = .ok (.iconst 4, 1) := by decide +kernel
theorem dX4_of_84 : decode cX4_of 84 = .ok (.iload_n 1, 1) := by decide +kernel
theorem dX4_of_85 : decode cX4_of 85 = .ok (.imul, 1) := by decide +kernel
theorem dX4_of_86 : decode cX4_of 86 = .ok (.iaload, 1) := by decide +kernel
theorem dX4_of_87 : decode cX4_of 87 = .ok (.ireturn, 1) := by decide +kernel
theorem dX4_of_88 : decode cX4_of 88 = .ok (.aload_n 0, 1) := by decide +kernel
theorem dX4_of_89 : decode cX4_of 89 = .ok (.iload_n 1, 1) := by decide +kernel
theorem dX4_of_90 : decode cX4_of 90 = .ok (.aload_n 0, 1) := by decide +kernel
theorem dX4_of_91 : decode cX4_of 91 = .ok (.getfield 42, 3) := by decide +kernel
theorem dX4_of_94 : decode cX4_of 94 = .ok (.iconst 4, 1) := by decide +kernel
theorem dX4_of_95 : decode cX4_of 95 = .ok (.iload_n 1, 1) := by decide +kernel
theorem dX4_of_96 : decode cX4_of 96 = .ok (.imul, 1) := by decide +kernel
theorem dX4_of_97 : decode cX4_of 97 = .ok (.iaload, 1) := by decide +kernel
theorem dX4_of_98 : decode cX4_of 98 = .ok (.invokevirtual 177, 3) := by decide +kernel
theorem dX4_of_101 : decode cX4_of 101 = .ok (.ireturn, 1) := by decide +kernel
theorem dX4_of_102 : decode cX4_of 102 = .ok (.aload_n 0, 1) := by decide +kernel
theorem dX4_of_103 : decode cX4_of 103 = .ok (.getfield 60, 3) := by decide +kernel
theorem dX4_of_106 : decode cX4_of 106 = .ok (.iload_n 1, 1) := by decide +kernel
theorem dX4_of_107 : decode cX4_of 107 = .ok (.iaload, 1) := by decide +kernel
theorem dX4_of_108 : decode cX4_of 108 = .ok (.ireturn, 1) := by decide +kernel
theorem dX4_of_109 : decode cX4_of 109 = .ok (.aload_n 0, 1) := by decide +kernel
theorem dX4_of_110 : decode cX4_of 110 = .ok (.getfield 63, 3) := by decide +kernel
theorem dX4_of_113 : decode cX4_of 113 = .ok (.iload_n 1, 1) := by decide +kernel
theorem dX4_of_114 : decode cX4_of 114 = .ok (.iaload, 1) := by decide +kernel
theorem dX4_of_115 : decode cX4_of 115 = .ok (.ireturn, 1) := by decide +kernel
theorem dX4_of_116 : decode cX4_of 116 = .ok (.aload_n 0, 1) := by decide +kernel
theorem dX4_of_117 : decode cX4_of 117 = .ok (.getfield 66, 3) := by decide +kernel
theorem dX4_of_120 : decode cX4_of 120 = .ok (.iload_n 1, 1) := by decide +kernel
theorem dX4_of_121 : decode cX4_of 121 = .ok (.iaload, 1) := by decide +kernel
theorem dX4_of_122 : decode cX4_of 122 = .ok (.ireturn, 1) := by decide +kernel
theorem dX4_of_123 : decode cX4_of 123 = .ok (.aload_n 0, 1) := by decide +kernel
theorem dX4_of_124 : decode cX4_of 124 = .ok (.getfield 90, 3) := by decide +kernel
theorem dX4_of_127 : decode cX4_of 127 = .ok (.iload_n 1, 1) := by decide +kernel
theorem dX4_of_128 : decode cX4_of 128 = .ok (.iaload, 1) := by decide +kernel
theorem dX4_of_129 : decode cX4_of 129 = .ok (.ireturn, 1) := by decide +kernel
theorem dX4_of_130 : decode cX4_of 130 = .ok (.aload_n 0, 1) := by decide +kernel
theorem dX4_of_131 : decode cX4_of 131 = .ok (.getfield 54, 3) := by decide +kernel
theorem dX4_of_134 : decode cX4_of 134 = .ok (.iload_n 1, 1) := by decide +kernel
theorem dX4_of_135 : decode cX4_of 135 = .ok (.iaload, 1) := by decide +kernel
theorem dX4_of_136 : decode cX4_of 136 = .ok (.ireturn, 1) := by decide +kernel
theorem dX4_of_137 : decode cX4_of 137 = .ok (.aload_n 0, 1) := by decide +kernel
theorem dX4_of_138 : decode cX4_of 138 = .ok (.getfield 69, 3) := by decide +kernel
theorem dX4_of_141 : decode cX4_of 141 = .ok (.iload_n 1, 1) := by decide +kernel
theorem dX4_of_142 : decode cX4_of 142 = .ok (.iaload, 1) := by decide +kernel
theorem dX4_of_143 : decode cX4_of 143 = .ok (.ireturn, 1) := by decide +kernel
theorem dX4_place_0 : decode cX4_place 0 = .ok (.aload_n 0, 1) := by decide +kernel
theorem dX4_place_1 : decode cX4_place 1 = .ok (.iload_n 1, 1) := by decide +kernel
theorem dX4_place_2 : decode cX4_place 2 = .ok (.invokevirtual 146, 3) := by decide +kernel
theorem dX4_place_5 : decode cX4_place 5 = .ok (.ifCond .eq 20, 3) := by decide +kernel
theorem dX4_place_8 : decode cX4_place 8 = .ok (.aload_n 0, 1) := by decide +kernel
theorem dX4_place_9 : decode cX4_place 9 = .ok (.iload_n 2, 1) := by decide +kernel
theorem dX4_place_10 : decode cX4_place 10 = .ok (.invokevirtual 142, 3) := by decide +kernel
theorem dX4_place_13 : decode cX4_place 13 = .ok (.ifCond .eq 12, 3) := by decide +kernel
theorem dX4_place_16 : decode cX4_place 16 = .ok (.aload_n 0, 1) := by decide +kernel
theorem dX4_place_17 : decode cX4_place 17 = .ok (.iload_n 1, 1) := by decide +kernel
theorem dX4_place_18 : decode cX4_place 18 = .ok (.iload_n 2, 1) := by decide +kernel
theorem dX4_place_19 : decode cX4_place 19 = .ok (.invokevirtual 177, 3) := by decide +kernel
theorem dX4_place_22 : decode cX4_place 22 = .ok (.goto 4, 3) := by decide +kernel
theorem dX4_place_25 : decode cX4_place 25 = .ok (.iconst (-1), 1) := by decide +kernel
theorem dX4_place_26 : decode cX4_place 26 = .ok (.ireturn, 1) := by decide +kernel
theorem dX4_named_0 : decode cX4_named 0 = .ok (.aload_n 0, 1) := by decide +kernel
theorem dX4_named_1 : decode cX4_named 1 = .ok (.iload_n 1, 1) := by decide +kernel
theorem dX4_named_2 : decode cX4_named 2 = .ok (.invokevirtual 146, 3) := by decide +kernel
theorem dX4_named_5 : decode cX4_named 5 = .ok (.ifCond .ne 9, 3) := by decide +kernel
theorem dX4_named_8 : decode cX4_named 8 = .ok (.aload_n 0, 1) := by decide +kernel
theorem dX4_named_9 : decode cX4_named 9 = .ok (.iconst 2, 1) := by decide +kernel
theorem dX4_named_10 : decode cX4_named 10 = .ok (.invokevirtual 131, 3) := by decide +kernel
theorem dX4_named_13 : decode cX4_named 13 = .ok (.ireturn, 1) := by decide +kernel
theorem dX4_named_14 : decode cX4_named 14 = .ok (.aload_n 0, 1) := by decide +kernel
theorem dX4_named_15 : decode cX4_named 15 = .ok (.getfield 39, 3) := by decide +kernel
theorem dX4_named_18 : decode cX4_named 18 = .ok (.iload_n 1, 1) := by decide +kernel
theorem dX4_named_19 : decode cX4_named 19 = .ok (.iaload, 1) := by decide +kernel
theorem dX4_named_20 : decode cX4_named 20 = .ok (.bipush 6, 2) := by decide +kernel
theorem dX4_named_22 : decode cX4_named 22 = .ok (.if_icmp .eq 20, 3) := by decide +kernel
theorem dX4_named_25 : decode cX4_named 25 = .ok (.aload_n 0, 1) := by decide +kernel
theorem dX4_named_26 : decode cX4_named 26 = .ok (.getfield 39, 3) := by decide +kernel
theorem dX4_named_29 : decode cX4_named 29 = .ok (.iload_n 1, 1) := by decide +kernel
theorem dX4_named_30 : decode cX4_named 30 = .ok (.iaload, 1) := by decide +kernel
theorem dX4_named_31 : decode cX4_named 31 = .ok (.bipush 7, 2) := by decide +kernel
theorem dX4_named_33 : decode cX4_named 33 = .ok (.if_icmp .eq 9, 3) := by decide +kernel
theorem dX4_named_36 : decode cX4_named 36 = .ok (.aload_n 0, 1) := by decide +kernel
theorem dX4_named_37 : decode cX4_named 37 = .ok (.iconst 4, 1) := by decide +kernel
theorem dX4_named_38 : decode cX4_named 38 = .ok (.invokevirtual 131, 3) := by decide +kernel
theorem dX4_named_41 : decode cX4_named 41 = .ok (.ireturn, 1) := by decide +kernel
theorem dX4_named_42 : decode cX4_named 42 = .ok (.iload_n 2, 1) := by decide +kernel
theorem dX4_named_43 : decode cX4_named 43 = .ok (.ifCond .lt 13, 3) := by decide +kernel
theorem dX4_named_46 : decode cX4_named 46 = .ok (.iload_n 2, 1) := by decide +kernel
theorem dX4_named_47 : decode cX4_named 47 = .ok (.aload_n 0, 1) := by decide +kernel
theorem dX4_named_48 : decode cX4_named 48 = .ok (.getfield 54, 3) := by decide +kernel
theorem dX4_named_51 : decode cX4_named 51 = .ok (.iload_n 1, 1) := by decide +kernel
theorem dX4_named_52 : decode cX4_named 52 = .ok (.iaload, 1) := by decide +kernel
theorem dX4_named_53 : decode cX4_named 53 = .ok (.if_icmp .lt 7, 3) := by decide +kernel
theorem dX4_named_56 : decode cX4_named 56 = .ok (.iconst (-1), 1) := by decide +kernel
theorem dX4_named_57 : decode cX4_named 57 = .ok (.goto 13, 3) := by decide +kernel
theorem dX4_named_60 : decode cX4_named 60 = .ok (.aload_n 0, 1) := by decide +kernel
theorem dX4_named_61 : decode cX4_named 61 = .ok (.getfield 51, 3) := by decide +kernel
theorem dX4_named_64 : decode cX4_named 64 = .ok (.iconst 4, 1) := by decide +kernel
theorem dX4_named_65 : decode cX4_named 65 = .ok (.iload_n 1, 1) := by decide +kernel
theorem dX4_named_66 : decode cX4_named 66 = .ok (.imul, 1) := by decide +kernel
theorem dX4_named_67 : decode cX4_named 67 = .ok (.iload_n 2, 1) := by decide +kernel
theorem dX4_named_68 : decode cX4_named 68 = .ok (.iadd, 1) := by decide +kernel
theorem dX4_named_69 : decode cX4_named 69 = .ok (.iaload, 1) := by decide +kernel
theorem dX4_named_70 : decode cX4_named 70 = .ok (.ireturn, 1) := by decide +kernel
theorem dX4_entry_0 : decode cX4_entry 0 = .ok (.aload_n 0, 1) := by decide +kernel
theorem dX4_entry_1 : decode cX4_entry 1 = .ok (.iload_n 1, 1) := by decide +kernel
theorem dX4_entry_2 : decode cX4_entry 2 = .ok (.invokevirtual 146, 3) := by decide +kernel
theorem dX4_entry_5 : decode cX4_entry 5 = .ok (.ifCond .ne 9, 3) := by decide +kernel
theorem dX4_entry_8 : decode cX4_entry 8 = .ok (.aload_n 0, 1) := by decide +kernel
theorem dX4_entry_9 : decode cX4_entry 9 = .ok (.iconst 2, 1) := by decide +kernel
theorem dX4_entry_10 : decode cX4_entry 10 = .ok (.invokevirtual 131, 3) := by decide +kernel
theorem dX4_entry_13 : decode cX4_entry 13 = .ok (.ireturn, 1) := by decide +kernel
theorem dX4_entry_14 : decode cX4_entry 14 = .ok (.aload_n 0, 1) := by decide +kernel
theorem dX4_entry_15 : decode cX4_entry 15 = .ok (.getfield 39, 3) := by decide +kernel
theorem dX4_entry_18 : decode cX4_entry 18 = .ok (.iload_n 1, 1) := by decide +kernel
theorem dX4_entry_19 : decode cX4_entry 19 = .ok (.iaload, 1) := by decide +kernel
theorem dX4_entry_20 : decode cX4_entry 20 = .ok (.iconst 4, 1) := by decide +kernel
theorem dX4_entry_21 : decode cX4_entry 21 = .ok (.if_icmp .eq 9, 3) := by decide +kernel
theorem dX4_entry_24 : decode cX4_entry 24 = .ok (.aload_n 0, 1) := by decide +kernel
theorem dX4_entry_25 : decode cX4_entry 25 = .ok (.iconst 4, 1) := by decide +kernel
theorem dX4_entry_26 : decode cX4_entry 26 = .ok (.invokevirtual 131, 3) := by decide +kernel
theorem dX4_entry_29 : decode cX4_entry 29 = .ok (.ireturn, 1) := by decide +kernel
theorem dX4_entry_30 : decode cX4_entry 30 = .ok (.iload_n 2, 1) := by decide +kernel
theorem dX4_entry_31 : decode cX4_entry 31 = .ok (.ifCond .lt 13, 3) := by decide +kernel
theorem dX4_entry_34 : decode cX4_entry 34 = .ok (.iload_n 2, 1) := by decide +kernel
theorem dX4_entry_35 : decode cX4_entry 35 = .ok (.aload_n 0, 1) := by decide +kernel
theorem dX4_entry_36 : decode cX4_entry 36 = .ok (.getfield 90, 3) := by decide +kernel
theorem dX4_entry_39 : decode cX4_entry 39 = .ok (.iload_n 1, 1) := by decide +kernel
theorem dX4_entry_40 : decode cX4_entry 40 = .ok (.iaload, 1) := by decide +kernel
theorem dX4_entry_41 : decode cX4_entry 41 = .ok (.if_icmp .lt 7, 3) := by decide +kernel
theorem dX4_entry_44 : decode cX4_entry 44 = .ok (.iconst (-1), 1) := by decide +kernel
theorem dX4_entry_45 : decode cX4_entry 45 = .ok (.goto 14, 3) := by decide +kernel
theorem dX4_entry_48 : decode cX4_entry 48 = .ok (.aload_n 0, 1) := by decide +kernel
theorem dX4_entry_49 : decode cX4_entry 49 = .ok (.getfield 99, 3) := by decide +kernel
theorem dX4_entry_52 : decode cX4_entry 52 = .ok (.bipush 32, 2) := by decide +kernel
theorem dX4_entry_54 : decode cX4_entry 54 = .ok (.iload_n 1, 1) := by decide +kernel
theorem dX4_entry_55 : decode cX4_entry 55 = .ok (.imul, 1) := by decide +kernel
theorem dX4_entry_56 : decode cX4_entry 56 = .ok (.iload_n 2, 1) := by decide +kernel
theorem dX4_entry_57 : decode cX4_entry 57 = .ok (.iadd, 1) := by decide +kernel
theorem dX4_entry_58 : decode cX4_entry 58 = .ok (.iaload, 1) := by decide +kernel
theorem dX4_entry_59 : decode cX4_entry 59 = .ok (.ireturn, 1) := by decide +kernel
theorem dX4_target_0 : decode cX4_target 0 = .ok (.aload_n 0, 1) := by decide +kernel
theorem dX4_target_1 : decode cX4_target 1 = .ok (.iload_n 1, 1) := by decide +kernel
theorem dX4_target_2 : decode cX4_target 2 = .ok (.invokevirtual 146, 3) := by decide +kernel
theorem dX4_target_5 : decode cX4_target 5 = .ok (.ifCond .ne 9, 3) := by decide +kernel
theorem dX4_target_8 : decode cX4_target 8 = .ok (.aload_n 0, 1) := by decide +kernel
theorem dX4_target_9 : decode cX4_target 9 = .ok (.iconst 2, 1) := by decide +kernel
theorem dX4_target_10 : decode cX4_target 10 = .ok (.invokevirtual 131, 3) := by decide +kernel
theorem dX4_target_13 : decode cX4_target 13 = .ok (.ireturn, 1) := by decide +kernel
theorem dX4_target_14 : decode cX4_target 14 = .ok (.aload_n 0, 1) := by decide +kernel
theorem dX4_target_15 : decode cX4_target 15 = .ok (.getfield 39, 3) := by decide +kernel
theorem dX4_target_18 : decode cX4_target 18 = .ok (.iload_n 1, 1) := by decide +kernel
theorem dX4_target_19 : decode cX4_target 19 = .ok (.iaload, 1) := by decide +kernel
theorem dX4_target_20 : decode cX4_target 20 = .ok (.bipush 7, 2) := by decide +kernel
theorem dX4_target_22 : decode cX4_target 22 = .ok (.if_icmp .ne 12, 3) := by decide +kernel
theorem dX4_target_25 : decode cX4_target 25 = .ok (.aload_n 0, 1) := by decide +kernel
theorem dX4_target_26 : decode cX4_target 26 = .ok (.getfield 57, 3) := by decide +kernel
theorem dX4_target_29 : decode cX4_target 29 = .ok (.iload_n 1, 1) := by decide +kernel
theorem dX4_target_30 : decode cX4_target 30 = .ok (.iaload, 1) := by decide +kernel
theorem dX4_target_31 : decode cX4_target 31 = .ok (.goto 8, 3) := by decide +kernel
theorem dX4_target_34 : decode cX4_target 34 = .ok (.aload_n 0, 1) := by decide +kernel
theorem dX4_target_35 : decode cX4_target 35 = .ok (.iconst 4, 1) := by decide +kernel
theorem dX4_target_36 : decode cX4_target 36 = .ok (.invokevirtual 131, 3) := by decide +kernel
theorem dX4_target_39 : decode cX4_target 39 = .ok (.ireturn, 1) := by decide +kernel
theorem dX4_found_0 : decode cX4_found 0 = .ok (.iload_n 1, 1) := by decide +kernel
theorem dX4_found_1 : decode cX4_found 1 = .ok (.ifCond .lt 9, 3) := by decide +kernel
theorem dX4_found_4 : decode cX4_found 4 = .ok (.iload_n 1, 1) := by decide +kernel
theorem dX4_found_5 : decode cX4_found 5 = .ok (.bipush 6, 2) := by decide +kernel
theorem dX4_found_7 : decode cX4_found 7 = .ok (.if_icmp .le 7, 3) := by decide +kernel
theorem dX4_found_10 : decode cX4_found 10 = .ok (.iconst (-1), 1) := by decide +kernel
theorem dX4_found_11 : decode cX4_found 11 = .ok (.goto 9, 3) := by decide +kernel
theorem dX4_found_14 : decode cX4_found 14 = .ok (.aload_n 0, 1) := by decide +kernel
theorem dX4_found_15 : decode cX4_found 15 = .ok (.getfield 112, 3) := by decide +kernel
theorem dX4_found_18 : decode cX4_found 18 = .ok (.iload_n 1, 1) := by decide +kernel
theorem dX4_found_19 : decode cX4_found 19 = .ok (.iaload, 1) := by decide +kernel
theorem dX4_found_20 : decode cX4_found 20 = .ok (.ireturn, 1) := by decide +kernel
