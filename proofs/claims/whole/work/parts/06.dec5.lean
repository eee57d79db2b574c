theorem dX12_init_0 : decode cX12_init 0 = .ok (.aload_n 0, 1) := by decide +kernel
theorem dX12_init_1 : decode cX12_init 1 = .ok (.invokespecial 1, 3) := by decide +kernel
theorem dX12_init_4 : decode cX12_init 4 = .ok (.aload_n 0, 1) := by decide +kernel
theorem dX12_init_5 : decode cX12_init 5 = .ok (.sipush 200, 3) := by decide +kernel
theorem dX12_init_8 : decode cX12_init 8 = .ok (.newarray .float, 2) := by decide +kernel
theorem dX12_init_10 : decode cX12_init 10 = .ok (.putfield 7, 3) := by decide +kernel
theorem dX12_init_13 : decode cX12_init 13 = .ok (.aload_n 0, 1) := by decide +kernel
theorem dX12_init_14 : decode cX12_init 14 = .ok (.sipush 200, 3) := by decide +kernel
theorem dX12_init_17 : decode cX12_init 17 = .ok (.newarray .boolean, 2) := by decide +kernel
theorem dX12_init_19 : decode cX12_init 19 = .ok (.putfield 13, 3) := by decide +kernel
theorem dX12_init_22 : decode cX12_init 22 = .ok (.aload_n 0, 1) := by decide +kernel
theorem dX12_init_23 : decode cX12_init 23 = .ok (.bipush 40, 2) := by decide +kernel
theorem dX12_init_25 : decode cX12_init 25 = .ok (.putfield 17, 3) := by decide +kernel
theorem dX12_init_28 : decode cX12_init 28 = .ok (.aload_n 0, 1) := by decide +kernel
theorem dX12_init_29 : decode cX12_init 29 = .ok (.sipush 200, 3) := by decide +kernel
theorem dX12_init_32 : decode cX12_init 32 = .ok (.putfield 21, 3) := by decide +kernel
theorem dX12_init_35 : decode cX12_init 35 = .ok (.aload_n 0, 1) := by decide +kernel
theorem dX12_init_36 : decode cX12_init 36 = .ok (.sipush 1000, 3) := by decide +kernel
theorem dX12_init_39 : decode cX12_init 39 = .ok (.putfield 24, 3) := by decide +kernel
theorem dX12_init_42 : decode cX12_init 42 = .ok (.aload_n 0, 1) := by decide +kernel
theorem dX12_init_43 : decode cX12_init 43 = .ok (.bipush 6, 2) := by decide +kernel
theorem dX12_init_45 : decode cX12_init 45 = .ok (.newarray .int, 2) := by decide +kernel
theorem dX12_init_47 : decode cX12_init 47 = .ok (.putfield 27, 3) := by decide +kernel
theorem dX12_init_50 : decode cX12_init 50 = .ok (.aload_n 0, 1) := by decide +kernel
theorem dX12_init_51 : decode cX12_init 51 = .ok (.bipush 6, 2) := by decide +kernel
theorem dX12_init_53 : decode cX12_init 53 = .ok (.newarray .int, 2) := by decide +kernel
theorem dX12_init_55 : decode cX12_init 55 = .ok (.putfield 31, 3) := by decide +kernel
theorem dX12_init_58 : decode cX12_init 58 = .ok (.aload_n 0, 1) := by decide +kernel
theorem dX12_init_59 : decode cX12_init 59 = .ok (.bipush 6, 2) := by decide +kernel
theorem dX12_init_61 : decode cX12_init 61 = .ok (.newarray .int, 2) := by decide +kernel
theorem dX12_init_63 : decode cX12_init 63 = .ok (.putfield 34, 3) := by decide +kernel
theorem dX12_init_66 : decode cX12_init 66 = .ok (.aload_n 0, 1) := by decide +kernel
theorem dX12_init_67 : decode cX12_init 67 = .ok (.bipush 36, 2) := by decide +kernel
theorem dX12_init_69 : decode cX12_init 69 = .ok (.newarray .int, 2) := by decide +kernel
theorem dX12_init_71 : decode cX12_init 71 = .ok (.putfield 37, 3) := by decide +kernel
theorem dX12_init_74 : decode cX12_init 74 = .ok (.aload_n 0, 1) := by decide +kernel
theorem dX12_init_75 : decode cX12_init 75 = .ok (.bipush 48, 2) := by decide +kernel
theorem dX12_init_77 : decode cX12_init 77 = .ok (.newarray .int, 2) := by decide +kernel
theorem dX12_init_79 : decode cX12_init 79 = .ok (.putfield 40, 3) := by decide +kernel
theorem dX12_init_82 : decode cX12_init 82 = .ok (.aload_n 0, 1) := by decide +kernel
theorem dX12_init_83 : decode cX12_init 83 = .ok (.bipush 48, 2) := by decide +kernel
theorem dX12_init_85 : decode cX12_init 85 = .ok (.newarray .int, 2) := by decide +kernel
theorem dX12_init_87 : decode cX12_init 87 = .ok (.putfield 43, 3) := by decide +kernel
theorem dX12_init_90 : decode cX12_init 90 = .ok (.aload_n 0, 1) := by decide +kernel
theorem dX12_init_91 : decode cX12_init 91 = .ok (.bipush 48, 2) := by decide +kernel
theorem dX12_init_93 : decode cX12_init 93 = .ok (.newarray .int, 2) := by decide +kernel
theorem dX12_init_95 : decode cX12_init 95 = .ok (.putfield 46, 3) := by decide +kernel
theorem dX12_init_98 : decode cX12_init 98 = .ok (.aload_n 0, 1) := by decide +kernel
theorem dX12_init_99 : decode cX12_init 99 = .ok (.bipush 48, 2) := by decide +kernel
theorem dX12_init_101 : decode cX12_init 101 = .ok (.newarray .int, 2) := by decide +kernel
theorem dX12_init_103 : decode cX12_init 103 = .ok (.putfield 49, 3) := by decide +kernel
theorem dX12_init_106 : decode cX12_init 106 = .ok (.aload_n 0, 1) := by decide +kernel
theorem dX12_init_107 : decode cX12_init 107 = .ok (.bipush 48, 2) := by decide +kernel
theorem dX12_init_109 : decode cX12_init 109 = .ok (.newarray .int, 2) := by decide +kernel
theorem dX12_init_111 : decode cX12_init 111 = .ok (.putfield 52, 3) := by decide +kernel
theorem dX12_init_114 : decode cX12_init 114 = .ok (.aload_n 0, 1) := by decide +kernel
theorem dX12_init_115 : decode cX12_init 115 = .ok (.bipush 48, 2) := by decide +kernel
theorem dX12_init_117 : decode cX12_init 117 = .ok (.newarray .int, 2) := by decide +kernel
theorem dX12_init_119 : decode cX12_init 119 = .ok (.putfield 55, 3) := by decide +kernel
theorem dX12_init_122 : decode cX12_init 122 = .ok (.aload_n 0, 1) := by decide +kernel
theorem dX12_init_123 : decode cX12_init 123 = .ok (.bipush 48, 2) := by decide +kernel
theorem dX12_init_125 : decode cX12_init 125 = .ok (.newarray .int, 2) := by decide +kernel
theorem dX12_init_127 : decode cX12_init 127 = .ok (.putfield 58, 3) := by decide +kernel
theorem dX12_init_130 : decode cX12_init 130 = .ok (.aload_n 0, 1) := by decide +kernel
theorem dX12_init_131 : decode cX12_init 131 = .ok (.sipush 1440, 3) := by decide +kernel
theorem dX12_init_134 : decode cX12_init 134 = .ok (.newarray .boolean, 2) := by decide +kernel
theorem dX12_init_136 : decode cX12_init 136 = .ok (.putfield 61, 3) := by decide +kernel
theorem dX12_init_139 : decode cX12_init 139 = .ok (.aload_n 0, 1) := by decide +kernel
theorem dX12_init_140 : decode cX12_init 140 = .ok (.sipush 8640, 3) := by decide +kernel
theorem dX12_init_143 : decode cX12_init 143 = .ok (.newarray .int, 2) := by decide +kernel
theorem dX12_init_145 : decode cX12_init 145 = .ok (.putfield 64, 3) := by decide +kernel
theorem dX12_init_148 : decode cX12_init 148 = .ok (.aload_n 0, 1) := by decide +kernel
theorem dX12_init_149 : decode cX12_init 149 = .ok (.sipush 1800, 3) := by decide +kernel
theorem dX12_init_152 : decode cX12_init 152 = .ok (.newarray .int, 2) := by decide +kernel
theorem dX12_init_154 : decode cX12_init 154 = .ok (.putfield 67, 3) := by decide +kernel
theorem dX12_init_157 : decode cX12_init 157 = .ok (.aload_n 0, 1) := by decide +kernel
theorem dX12_init_158 : decode cX12_init 158 = .ok (.sipush 1800, 3) := by decide +kernel
theorem dX12_init_161 : decode cX12_init 161 = .ok (.newarray .int, 2) := by decide +kernel
theorem dX12_init_163 : decode cX12_init 163 = .ok (.putfield 70, 3) := by decide +kernel
theorem dX12_init_166 : decode cX12_init 166 = .ok (.aload_n 0, 1) := by decide +kernel
theorem dX12_init_167 : decode cX12_init 167 = .ok (.sipush 1800, 3) := by decide +kernel
theorem dX12_init_170 : decode cX12_init 170 = .ok (.newarray .int, 2) := by decide +kernel
theorem dX12_init_172 : decode cX12_init 172 = .ok (.putfield 73, 3) := by decide +kernel
theorem dX12_init_175 : decode cX12_init 175 = .ok (.aload_n 0, 1) := by decide +kernel
theorem dX12_init_176 : decode cX12_init 176 = .ok (.sipush 1800, 3) := by decide +kernel
theorem dX12_init_179 : decode cX12_init 179 = .ok (.newarray .int, 2) := by decide +kernel
theorem dX12_init_181 : decode cX12_init 181 = .ok (.putfield 76, 3) := by decide +kernel
theorem dX12_init_184 : decode cX12_init 184 = .ok (.aload_n 0, 1) := by decide +kernel
theorem dX12_init_185 : decode cX12_init 185 = .ok (.sipush 1800, 3) := by decide +kernel
theorem dX12_init_188 : decode cX12_init 188 = .ok (.newarray .int, 2) := by decide +kernel
theorem dX12_init_190 : decode cX12_init 190 = .ok (.putfield 79, 3) := by decide +kernel
theorem dX12_init_193 : decode cX12_init 193 = .ok (.aload_n 0, 1) := by decide +kernel
theorem dX12_init_194 : decode cX12_init 194 = .ok (.sipush 1800, 3) := by decide +kernel
theorem dX12_init_197 : decode cX12_init 197 = .ok (.newarray .int, 2) := by decide +kernel
theorem dX12_init_199 : decode cX12_init 199 = .ok (.putfield 82, 3) := by decide +kernel
theorem dX12_init_202 : decode cX12_init 202 = .ok (.aload_n 0, 1) := by decide +kernel
theorem dX12_init_203 : decode cX12_init 203 = .ok (.iconst 4, 1) := by decide +kernel
theorem dX12_init_204 : decode cX12_init 204 = .ok (.newarray .boolean, 2) := by decide +kernel
theorem dX12_init_206 : decode cX12_init 206 = .ok (.putfield 85, 3) := by decide +kernel
theorem dX12_init_209 : decode cX12_init 209 = .ok (.aload_n 0, 1) := by decide +kernel
theorem dX12_init_210 : decode cX12_init 210 = .ok (.sipush 1800, 3) := by decide +kernel
theorem dX12_init_213 : decode cX12_init 213 = .ok (.newarray .int, 2) := by decide +kernel
theorem dX12_init_215 : decode cX12_init 215 = .ok (.putfield 88, 3) := by decide +kernel
theorem dX12_init_218 : decode cX12_init 218 = .ok (.aload_n 0, 1) := by decide +kernel
theorem dX12_init_219 : decode cX12_init 219 = .ok (.sipush 1800, 3) := by decide +kernel
theorem dX12_init_222 : decode cX12_init 222 = .ok (.newarray .int, 2) := by decide +kernel
theorem dX12_init_224 : decode cX12_init 224 = .ok (.putfield 91, 3) := by decide +kernel
theorem dX12_init_227 : decode cX12_init 227 = .ok (.aload_n 0, 1) := by decide +kernel
theorem dX12_init_228 : decode cX12_init 228 = .ok (.sipush 300, 3) := by decide +kernel
theorem dX12_init_231 : decode cX12_init 231 = .ok (.newarray .int, 2) := by decide +kernel
theorem dX12_init_233 : decode cX12_init 233 = .ok (.putfield 94, 3) := by decide +kernel
theorem dX12_init_236 : decode cX12_init 236 = .ok (.aload_n 0, 1) := by decide +kernel
theorem dX12_init_237 : decode cX12_init 237 = .ok (.sipush 300, 3) := by decide +kernel
theorem dX12_init_240 : decode cX12_init 240 = .ok (.newarray .boolean, 2) := by decide +kernel
theorem dX12_init_242 : decode cX12_init 242 = .ok (.putfield 97, 3) := by decide +kernel
theorem dX12_init_245 : decode cX12_init 245 = .ok (.aload_n 0, 1) := by decide +kernel
theorem dX12_init_246 : decode cX12_init 246 = .ok (.bipush 6, 2) := by decide +kernel
theorem dX12_init_248 : decode cX12_init 248 = .ok (.newarray .int, 2) := by decide +kernel
theorem dX12_init_250 : decode cX12_init 250 = .ok (.putfield 100, 3) := by decide +kernel
theorem dX12_init_253 : decode cX12_init 253 = .ok (.aload_n 0, 1) := by decide +kernel
theorem dX12_init_254 : decode cX12_init 254 = .ok (.bipush 6, 2) := by decide +kernel
theorem dX12_init_256 : decode cX12_init 256 = .ok (.newarray .int, 2) := by decide +kernel
theorem dX12_init_258 : decode cX12_init 258 = .ok (.putfield 103, 3) := by decide +kernel
theorem dX12_init_261 : decode cX12_init 261 = .ok (.aload_n 0, 1) := by decide +kernel
theorem dX12_init_262 : decode cX12_init 262 = .ok (.sipush 300, 3) := by decide +kernel
theorem dX12_init_265 : decode cX12_init 265 = .ok (.newarray .int, 2) := by decide +kernel
theorem dX12_init_267 : decode cX12_init 267 = .ok (.putfield 106, 3) := by decide +kernel
theorem dX12_init_270 : decode cX12_init 270 = .ok (.aload_n 0, 1) := by decide +kernel
theorem dX12_init_271 : decode cX12_init 271 = .ok (.iconst 3, 1) := by decide +kernel
theorem dX12_init_272 : decode cX12_init 272 = .ok (.newarray .int, 2) := by decide +kernel
theorem dX12_init_274 : decode cX12_init 274 = .ok (.putfield 109, 3) := by decide +kernel
theorem dX12_init_277 : decode cX12_init 277 = .ok (.aload_n 0, 1) := by decide +kernel
theorem dX12_init_278 : decode cX12_init 278 = .ok (.sipush 300, 3) := by decide +kernel
theorem dX12_init_281 : decode cX12_init 281 = .ok (.newarray .int, 2) := by decide +kernel
theorem dX12_init_283 : decode cX12_init 283 = .ok (.putfield 112, 3) := by decide +kernel
theorem dX12_init_286 : decode cX12_init 286 = .ok (.aload_n 0, 1) := by decide +kernel
theorem dX12_init_287 : decode cX12_init 287 = .ok (.sipush 300, 3) := by decide +kernel
theorem dX12_init_290 : decode cX12_init 290 = .ok (.newarray .int, 2) := by decide +kernel
theorem dX12_init_292 : decode cX12_init 292 = .ok (.putfield 115, 3) := by decide +kernel
theorem dX12_init_295 : decode cX12_init 295 = .ok (.aload_n 0, 1) := by decide +kernel
theorem dX12_init_296 : decode cX12_init 296 = .ok (.sipush 300, 3) := by decide +kernel
theorem dX12_init_299 : decode cX12_init 299 = .ok (.newarray .int, 2) := by decide +kernel
theorem dX12_init_301 : decode cX12_init 301 = .ok (.putfield 118, 3) := by decide +kernel
theorem dX12_init_304 : decode cX12_init 304 = .ok (.aload_n 0, 1) := by decide +kernel
theorem dX12_init_305 : decode cX12_init 305 = .ok (.iconst (-1), 1) := by decide +kernel
theorem dX12_init_306 : decode cX12_init 306 = .ok (.putfield 121, 3) := by decide +kernel
theorem dX12_init_309 : decode cX12_init 309 = .ok (.aload_n 0, 1) := by decide +kernel
theorem dX12_init_310 : decode cX12_init 310 = .ok (.sipush 1600, 3) := by decide +kernel
theorem dX12_init_313 : decode cX12_init 313 = .ok (.newarray .int, 2) := by decide +kernel
theorem dX12_init_315 : decode cX12_init 315 = .ok (.putfield 124, 3) := by decide +kernel
theorem dX12_init_318 : decode cX12_init 318 = .ok (.aload_n 0, 1) := by decide +kernel
theorem dX12_init_319 : decode cX12_init 319 = .ok (.bipush 30, 2) := by decide +kernel
theorem dX12_init_321 : decode cX12_init 321 = .ok (.newarray .int, 2) := by decide +kernel
theorem dX12_init_323 : decode cX12_init 323 = .ok (.putfield 127, 3) := by decide +kernel
theorem dX12_init_326 : decode cX12_init 326 = .ok (.aload_n 0, 1) := by decide +kernel
theorem dX12_init_327 : decode cX12_init 327 = .ok (.bipush 30, 2) := by decide +kernel
theorem dX12_init_329 : decode cX12_init 329 = .ok (.newarray .int, 2) := by decide +kernel
theorem dX12_init_331 : decode cX12_init 331 = .ok (.putfield 130, 3) := by decide +kernel
theorem dX12_init_334 : decode cX12_init 334 = .ok (.aload_n 0, 1) := by decide +kernel
theorem dX12_init_335 : decode cX12_init 335 = .ok (.sipush 180, 3) := by decide +kernel
theorem dX12_init_338 : decode cX12_init 338 = .ok (.newarray .boolean, 2) := by decide +kernel
theorem dX12_init_340 : decode cX12_init 340 = .ok (.putfield 133, 3) := by decide +kernel
theorem dX12_init_343 : decode cX12_init 343 = .ok (.return_, 1) := by decide +kernel
theorem dX12_ends_0 : decode cX12_ends 0 = .ok (.aload_n 0, 1) := by decide +kernel
theorem dX12_ends_1 : decode cX12_ends 1 = .ok (.iload_n 1, 1) := by decide +kernel
theorem dX12_ends_2 : decode cX12_ends 2 = .ok (.ifCond .ge 7, 3) := by decide +kernel
theorem dX12_ends_5 : decode cX12_ends 5 = .ok (.iload_n 1, 1) := by decide +kernel
theorem dX12_ends_6 : decode cX12_ends 6 = .ok (.goto 4, 3) := by decide +kernel
theorem dX12_ends_9 : decode cX12_ends 9 = .ok (.iconst 0, 1) := by decide +kernel
theorem dX12_ends_10 : decode cX12_ends 10 = .ok (.putfield 136, 3) := by decide +kernel
theorem dX12_ends_13 : decode cX12_ends 13 = .ok (.iload_n 1, 1) := by decide +kernel
theorem dX12_ends_14 : decode cX12_ends 14 = .ok (.ireturn, 1) := by decide +kernel
theorem dX12_in_0 : decode cX12_in 0 = .ok (.iload_n 0, 1) := by decide +kernel
theorem dX12_in_1 : decode cX12_in 1 = .ok (.iload_n 1, 1) := by decide +kernel
theorem dX12_in_2 : decode cX12_in 2 = .ok (.if_icmp .lt 12, 3) := by decide +kernel
theorem dX12_in_5 : decode cX12_in 5 = .ok (.iload_n 0, 1) := by decide +kernel
theorem dX12_in_6 : decode cX12_in 6 = .ok (.iload_n 2, 1) := by decide +kernel
theorem dX12_in_7 : decode cX12_in 7 = .ok (.if_icmp .gt 7, 3) := by decide +kernel
theorem dX12_in_10 : decode cX12_in 10 = .ok (.iconst 1, 1) := by decide +kernel
theorem dX12_in_11 : decode cX12_in 11 = .ok (.goto 4, 3) := by decide +kernel
theorem dX12_in_14 : decode cX12_in 14 = .ok (.iconst 0, 1) := by decide +kernel
theorem dX12_in_15 : decode cX12_in 15 = .ok (.ireturn, 1) := by decide +kernel
theorem dX12_warm_0 : decode cX12_warm 0 = .ok (.iload_n 2, 1) := by decide +kernel
theorem dX12_warm_1 : decode cX12_warm 1 = .ok (.invokestatic 139, 3) := by decide +kernel
theorem dX12_warm_4 : decode cX12_warm 4 = .ok (.fstore_n 3, 1) := by decide +kernel
theorem dX12_warm_5 : decode cX12_warm 5 = .ok (.fload_n 3, 1) := by decide +kernel
theorem dX12_warm_6 : decode cX12_warm 6 = .ok (.fload_n 3, 1) := by decide +kernel
theorem dX12_warm_7 : decode cX12_warm 7 = .ok (.fcmp .l, 1) := by decide +kernel
theorem dX12_warm_8 : decode cX12_warm 8 = .ok (.ifCond .ne 7, 3) := by decide +kernel
theorem dX12_warm_11 : decode cX12_warm 11 = .ok (.iconst 1, 1) := by decide +kernel
theorem dX12_warm_12 : decode cX12_warm 12 = .ok (.goto 4, 3) := by decide +kernel
theorem dX12_warm_15 : decode cX12_warm 15 = .ok (.iconst 0, 1) := by decide +kernel
theorem dX12_warm_16 : decode cX12_warm 16 = .ok (.istore 4, 2) := by decide +kernel
theorem dX12_warm_18 : decode cX12_warm 18 = .ok (.iload_n 1, 1) := by decide +kernel
theorem dX12_warm_19 : decode cX12_warm 19 = .ok (.iconst 0, 1) := by decide +kernel
theorem dX12_warm_20 : decode cX12_warm 20 = .ok (.sipush 199, 3) := by decide +kernel
theorem dX12_warm_23 : decode cX12_warm 23 = .ok (.invokestatic 145, 3) := by decide +kernel
theorem dX12_warm_26 : decode cX12_warm 26 = .ok (.ifCond .eq 22, 3) := by decide +kernel
theorem dX12_warm_29 : decode cX12_warm 29 = .ok (.iload 4, 2) := by decide +kernel
theorem dX12_warm_31 : decode cX12_warm 31 = .ok (.ifCond .eq 23, 3) := by decide +kernel
theorem dX12_warm_34 : decode cX12_warm 34 = .ok (.fload_n 3, 1) := by decide +kernel
theorem dX12_warm_35 : decode cX12_warm 35 = .ok (.ldc 149, 2) := by decide +kernel
theorem dX12_warm_37 : decode cX12_warm 37 = .ok (.fcmp .l, 1) := by decide +kernel
theorem dX12_warm_38 : decode cX12_warm 38 = .ok (.ifCond .lt 10, 3) := by decide +kernel
theorem dX12_warm_41 : decode cX12_warm 41 = .ok (.fload_n 3, 1) := by decide +kernel
theorem dX12_warm_42 : decode cX12_warm 42 = .ok (.ldc 150, 2) := by decide +kernel
theorem dX12_warm_44 : decode cX12_warm 44 = .ok (.fcmp .g, 1) := by decide +kernel
theorem dX12_warm_45 : decode cX12_warm 45 = .ok (.ifCond .le 9, 3) := by decide +kernel
theorem dX12_warm_48 : decode cX12_warm 48 = .ok (.aload_n 0, 1) := by decide +kernel
theorem dX12_warm_49 : decode cX12_warm 49 = .ok (.iconst (-1), 1) := by decide +kernel
theorem dX12_warm_50 : decode cX12_warm 50 = .ok (.invokevirtual 151, 3) := by decide +kernel
theorem dX12_warm_53 : decode cX12_warm 53 = .ok (.ireturn, 1) := by decide +kernel
theorem dX12_warm_54 : decode cX12_warm 54 = .ok (.aload_n 0, 1) := by decide +kernel
theorem dX12_warm_55 : decode cX12_warm 55 = .ok (.getfield 13, 3) := by decide +kernel
theorem dX12_warm_58 : decode cX12_warm 58 = .ok (.iload_n 1, 1) := by decide +kernel
theorem dX12_warm_59 : decode cX12_warm 59 = .ok (.iload 4, 2) := by decide +kernel
theorem dX12_warm_61 : decode cX12_warm 61 = .ok (.bastore, 1) := by decide +kernel
theorem dX12_warm_62 : decode cX12_warm 62 = .ok (.aload_n 0, 1) := by decide +kernel
theorem dX12_warm_63 : decode cX12_warm 63 = .ok (.getfield 7, 3) := by decide +kernel
theorem dX12_warm_66 : decode cX12_warm 66 = .ok (.iload_n 1, 1) := by decide +kernel
theorem dX12_warm_67 : decode cX12_warm 67 = .ok (.iload 4, 2) := by decide +kernel
theorem dX12_warm_69 : decode cX12_warm 69 = .ok (.ifCond .eq 7, 3) := by decide +kernel
theorem dX12_warm_72 : decode cX12_warm 72 = .ok (.fload_n 3, 1) := by decide +kernel
theorem dX12_warm_73 : decode cX12_warm 73 = .ok (.goto 4, 3) := by decide +kernel
theorem dX12_warm_76 : decode cX12_warm 76 = .ok (.fconst 0, 1) := by decide +kernel
theorem dX12_warm_77 : decode cX12_warm 77 = .ok (.fastore, 1) := by decide +kernel
theorem dX12_warm_78 : decode cX12_warm 78 = .ok (.aload_n 0, 1) := by decide +kernel
theorem dX12_warm_79 : decode cX12_warm 79 = .ok (.iconst 0, 1) := by decide +kernel
theorem dX12_warm_80 : decode cX12_warm 80 = .ok (.invokevirtual 151, 3) := by decide +kernel
theorem dX12_warm_83 : decode cX12_warm 83 = .ok (.ireturn, 1) := by decide +kernel
theorem dX12_tenthsOf_0 : decode cX12_tenthsOf 0 = .ok (.iload_n 1, 1) := by decide +kernel
theorem dX12_tenthsOf_1 : decode cX12_tenthsOf 1 = .ok (.istore_n 2, 1) := by decide +kernel
theorem dX12_tenthsOf_2 : decode cX12_tenthsOf 2 = .ok (.iload_n 2, 1) := by decide +kernel
theorem dX12_tenthsOf_3 : decode cX12_tenthsOf 3 = .ok (.ifCond .le 18, 3) := by decide +kernel
theorem dX12_tenthsOf_6 : decode cX12_tenthsOf 6 = .ok (.aload_n 0, 1) := by decide +kernel
theorem dX12_tenthsOf_7 : decode cX12_tenthsOf 7 = .ok (.getfield 13, 3) := by decide +kernel
theorem dX12_tenthsOf_10 : decode cX12_tenthsOf 10 = .ok (.iload_n 2, 1) := by decide +kernel
theorem dX12_tenthsOf_11 : decode cX12_tenthsOf 11 = .ok (.baload, 1) := by decide +kernel
theorem dX12_tenthsOf_12 : decode cX12_tenthsOf 12 = .ok (.ifCond .ne 9, 3) := by decide +kernel
theorem dX12_tenthsOf_15 : decode cX12_tenthsOf 15 = .ok (.iinc 2 (-1), 3) := by decide +kernel
theorem dX12_tenthsOf_18 : decode cX12_tenthsOf 18 = .ok (.goto (-16), 3) := by decide +kernel
theorem dX12_tenthsOf_21 : decode cX12_tenthsOf 21 = .ok (.aload_n 0, 1) := by decide +kernel
theorem dX12_tenthsOf_22 : decode cX12_tenthsOf 22 = .ok (.getfield 13, 3) := by decide +kernel
theorem dX12_tenthsOf_25 : decode cX12_tenthsOf 25 = .ok (.iload_n 2, 1) := by decide +kernel
theorem dX12_tenthsOf_26 : decode cX12_tenthsOf 26 = .ok (.baload, 1) := by decide +kernel
theorem dX12_tenthsOf_27 : decode cX12_tenthsOf 27 = .ok (.ifCond .eq 16, 3) := by decide +kernel
theorem dX12_tenthsOf_30 : decode cX12_tenthsOf 30 = .ok (.aload_n 0, 1) := by decide +kernel
theorem dX12_tenthsOf_31 : decode cX12_tenthsOf 31 = .ok (.getfield 7, 3) := by decide +kernel
theorem dX12_tenthsOf_34 : decode cX12_tenthsOf 34 = .ok (.iload_n 2, 1) := by decide +kernel
theorem dX12_tenthsOf_35 : decode cX12_tenthsOf 35 = .ok (.faload, 1) := by decide +kernel
theorem dX12_tenthsOf_36 : decode cX12_tenthsOf 36 = .ok (.ldc 155, 2) := by decide +kernel
theorem dX12_tenthsOf_38 : decode cX12_tenthsOf 38 = .ok (.fmul, 1) := by decide +kernel
theorem dX12_tenthsOf_39 : decode cX12_tenthsOf 39 = .ok (.f2i, 1) := by decide +kernel
theorem dX12_tenthsOf_40 : decode cX12_tenthsOf 40 = .ok (.goto 4, 3) := by decide +kernel
theorem dX12_tenthsOf_43 : decode cX12_tenthsOf 43 = .ok (.iconst 0, 1) := by decide +kernel
theorem dX12_tenthsOf_44 : decode cX12_tenthsOf 44 = .ok (.ireturn, 1) := by decide +kernel
theorem dX12_tenths_0 : decode cX12_tenths 0 = .ok (.iload_n 1, 1) := by decide +kernel
theorem dX12_tenths_1 : decode cX12_tenths 1 = .ok (.iconst 0, 1) := by decide +kernel
theorem dX12_tenths_2 : decode cX12_tenths 2 = .ok (.sipush 199, 3) := by decide +kernel
theorem dX12_tenths_5 : decode cX12_tenths 5 = .ok (.invokestatic 145, 3) := by decide +kernel
theorem dX12_tenths_8 : decode cX12_tenths 8 = .ok (.ifCond .eq 11, 3) := by decide +kernel
theorem dX12_tenths_11 : decode cX12_tenths 11 = .ok (.aload_n 0, 1) := by decide +kernel
theorem dX12_tenths_12 : decode cX12_tenths 12 = .ok (.iload_n 1, 1) := by decide +kernel
theorem dX12_tenths_13 : decode cX12_tenths 13 = .ok (.invokevirtual 156, 3) := by decide +kernel
theorem dX12_tenths_16 : decode cX12_tenths 16 = .ok (.goto 6, 3) := by decide +kernel
theorem dX12_tenths_19 : decode cX12_tenths 19 = .ok (.sipush (-1000), 3) := by decide +kernel
theorem dX12_tenths_22 : decode cX12_tenths 22 = .ok (.ireturn, 1) := by decide +kernel
theorem dX12_terms_0 : decode cX12_terms 0 = .ok (.iload_n 1, 1) := by decide +kernel
theorem dX12_terms_1 : decode cX12_terms 1 = .ok (.iconst 0, 1) := by decide +kernel
theorem dX12_terms_2 : decode cX12_terms 2 = .ok (.bipush 100, 2) := by decide +kernel
theorem dX12_terms_4 : decode cX12_terms 4 = .ok (.invokestatic 145, 3) := by decide +kernel
theorem dX12_terms_7 : decode cX12_terms 7 = .ok (.ifCond .eq 24, 3) := by decide +kernel
theorem dX12_terms_10 : decode cX12_terms 10 = .ok (.iload_n 2, 1) := by decide +kernel
theorem dX12_terms_11 : decode cX12_terms 11 = .ok (.iconst 0, 1) := by decide +kernel
theorem dX12_terms_12 : decode cX12_terms 12 = .ok (.sipush 10000, 3) := by decide +kernel
theorem dX12_terms_15 : decode cX12_terms 15 = .ok (.invokestatic 145, 3) := by decide +kernel
theorem dX12_terms_18 : decode cX12_terms 18 = .ok (.ifCond .eq 13, 3) := by decide +kernel
theorem dX12_terms_21 : decode cX12_terms 21 = .ok (.iload_n 3, 1) := by decide +kernel
theorem dX12_terms_22 : decode cX12_terms 22 = .ok (.iconst 1, 1) := by decide +kernel
theorem dX12_terms_23 : decode cX12_terms 23 = .ok (.ldc 159, 2) := by decide +kernel
theorem dX12_terms_25 : decode cX12_terms 25 = .ok (.invokestatic 145, 3) := by decide +kernel
theorem dX12_terms_28 : decode cX12_terms 28 = .ok (.ifCond .ne 9, 3) := by decide +kernel
theorem dX12_terms_31 : decode cX12_terms 31 = .ok (.aload_n 0, 1) := by decide +kernel
theorem dX12_terms_32 : decode cX12_terms 32 = .ok (.iconst (-1), 1) := by decide +kernel
theorem dX12_terms_33 : decode cX12_terms 33 = .ok (.invokevirtual 151, 3) := by decide +kernel
theorem dX12_terms_36 : decode cX12_terms 36 = .ok (.ireturn, 1) := by decide +kernel
theorem dX12_terms_37 : decode cX12_terms 37 = .ok (.aload_n 0, 1) := by decide +kernel
theorem dX12_terms_38 : decode cX12_terms 38 = .ok (.iload_n 1, 1) := by decide +kernel
theorem dX12_terms_39 : decode cX12_terms 39 = .ok (.putfield 17, 3) := by decide +kernel
theorem dX12_terms_42 : decode cX12_terms 42 = .ok (.aload_n 0, 1) := by decide +kernel
theorem dX12_terms_43 : decode cX12_terms 43 = .ok (.iload_n 2, 1) := by decide +kernel
theorem dX12_terms_44 : decode cX12_terms 44 = .ok (.putfield 21, 3) := by decide +kernel
theorem dX12_terms_47 : decode cX12_terms 47 = .ok (.aload_n 0, 1) := by decide +kernel
theorem dX12_terms_48 : decode cX12_terms 48 = .ok (.iload_n 3, 1) := by decide +kernel
theorem dX12_terms_49 : decode cX12_terms 49 = .ok (.putfield 24, 3) := by decide +kernel
theorem dX12_terms_52 : decode cX12_terms 52 = .ok (.aload_n 0, 1) := by decide +kernel
theorem dX12_terms_53 : decode cX12_terms 53 = .ok (.iconst 0, 1) := by decide +kernel
theorem dX12_terms_54 : decode cX12_terms 54 = .ok (.invokevirtual 151, 3) := by decide +kernel
theorem dX12_terms_57 : decode cX12_terms 57 = .ok (.ireturn, 1) := by decide +kernel
theorem dX12_copy_0 : decode cX12_copy 0 = .ok (.aload_n 0, 1) := by decide +kernel
theorem dX12_copy_1 : decode cX12_copy 1 = .ok (.getfield 27, 3) := by decide +kernel
theorem dX12_copy_4 : decode cX12_copy 4 = .ok (.iload_n 2, 1) := by decide +kernel
theorem dX12_copy_5 : decode cX12_copy 5 = .ok (.aload_n 0, 1) := by decide +kernel
theorem dX12_copy_6 : decode cX12_copy 6 = .ok (.getfield 27, 3) := by decide +kernel
theorem dX12_copy_9 : decode cX12_copy 9 = .ok (.iload_n 1, 1) := by decide +kernel
theorem dX12_copy_10 : decode cX12_copy 10 = .ok (.iaload, 1) := by decide +kernel
theorem dX12_copy_11 : decode cX12_copy 11 = .ok (.iastore, 1) := by decide +kernel
theorem dX12_copy_12 : decode cX12_copy 12 = .ok (.aload_n 0, 1) := by decide +kernel
theorem dX12_copy_13 : decode cX12_copy 13 = .ok (.getfield 31, 3) := by decide +kernel
theorem dX12_copy_16 : decode cX12_copy 16 = .ok (.iload_n 2, 1) := by decide +kernel
theorem dX12_copy_17 : decode cX12_copy 17 = .ok (.aload_n 0, 1) := by decide +kernel
theorem dX12_copy_18 : decode cX12_copy 18 = .ok (.getfield 31, 3) := by decide +kernel
theorem dX12_copy_21 : decode cX12_copy 21 = .ok (.iload_n 1, 1) := by decide +kernel
theorem dX12_copy_22 : decode cX12_copy 22 = .ok (.iaload, 1) := by decide +kernel
theorem dX12_copy_23 : decode cX12_copy 23 = .ok (.iastore, 1) := by decide +kernel
theorem dX12_copy_24 : decode cX12_copy 24 = .ok (.aload_n 0, 1) := by decide +kernel
theorem dX12_copy_25 : decode cX12_copy 25 = .ok (.getfield 34, 3) := by decide +kernel
theorem dX12_copy_28 : decode cX12_copy 28 = .ok (.iload_n 2, 1) := by decide +kernel
theorem dX12_copy_29 : decode cX12_copy 29 = .ok (.aload_n 0, 1) := by decide +kernel
theorem dX12_copy_30 : decode cX12_copy 30 = .ok (.getfield 34, 3) := by decide +kernel
theorem dX12_copy_33 : decode cX12_copy 33 = .ok (.iload_n 1, 1) := by decide +kernel
theorem dX12_copy_34 : decode cX12_copy 34 = .ok (.iaload, 1) := by decide +kernel
theorem dX12_copy_35 : decode cX12_copy 35 = .ok (.iastore, 1) := by decide +kernel
theorem dX12_copy_36 : decode cX12_copy 36 = .ok (.iconst 0, 1) := by decide +kernel
theorem dX12_copy_37 : decode cX12_copy 37 = .ok (.istore_n 3, 1) := by decide +kernel
theorem dX12_copy_38 : decode cX12_copy 38 = .ok (.iload_n 3, 1) := by decide +kernel
theorem dX12_copy_39 : decode cX12_copy 39 = .ok (.bipush 6, 2) := by decide +kernel
theorem dX12_copy_41 : decode cX12_copy 41 = .ok (.if_icmp .ge 31, 3) := by decide +kernel
theorem dX12_copy_44 : decode cX12_copy 44 = .ok (.aload_n 0, 1) := by decide +kernel
theorem dX12_copy_45 : decode cX12_copy 45 = .ok (.getfield 37, 3) := by decide +kernel
theorem dX12_copy_48 : decode cX12_copy 48 = .ok (.bipush 6, 2) := by decide +kernel
theorem dX12_copy_50 : decode cX12_copy 50 = .ok (.iload_n 2, 1) := by decide +kernel
theorem dX12_copy_51 : decode cX12_copy 51 = .ok (.imul, 1) := by decide +kernel
theorem dX12_copy_52 : decode cX12_copy 52 = .ok (.iload_n 3, 1) := by decide +kernel
theorem dX12_copy_53 : decode cX12_copy 53 = .ok (.iadd, 1) := by decide +kernel
theorem dX12_copy_54 : decode cX12_copy 54 = .ok (.aload_n 0, 1) := by decide +kernel
theorem dX12_copy_55 : decode cX12_copy 55 = .ok (.getfield 37, 3) := by decide +kernel
theorem dX12_copy_58 : decode cX12_copy 58 = .ok (.bipush 6, 2) := by decide +kernel
theorem dX12_copy_60 : decode cX12_copy 60 = .ok (.iload_n 1, 1) := by decide +kernel
theorem dX12_copy_61 : decode cX12_copy 61 = .ok (.imul, 1) := by decide +kernel
theorem dX12_copy_62 : decode cX12_copy 62 = .ok (.iload_n 3, 1) := by decide +kernel
theorem dX12_copy_63 : decode cX12_copy 63 = .ok (.iadd, 1) := by decide +kernel
theorem dX12_copy_64 : decode cX12_copy 64 = .ok (.iaload, 1) := by decide +kernel
theorem dX12_copy_65 : decode cX12_copy 65 = .ok (.iastore, 1) := by decide +kernel
theorem dX12_copy_66 : decode cX12_copy 66 = .ok (.iinc 3 1, 3) := by decide +kernel
theorem dX12_copy_69 : decode cX12_copy 69 = .ok (.goto (-31), 3) := by decide +kernel
theorem dX12_copy_72 : decode cX12_copy 72 = .ok (.iconst 0, 1) := by decide +kernel
theorem dX12_copy_73 : decode cX12_copy 73 = .ok (.istore_n 3, 1) := by decide +kernel
theorem dX12_copy_74 : decode cX12_copy 74 = .ok (.iload_n 3, 1) := by decide +kernel
theorem dX12_copy_75 : decode cX12_copy 75 = .ok (.bipush 8, 2) := by decide +kernel
theorem dX12_copy_77 : decode cX12_copy 77 = .ok (.if_icmp .ge 123, 3) := by decide +kernel
theorem dX12_copy_80 : decode cX12_copy 80 = .ok (.bipush 8, 2) := by decide +kernel
theorem dX12_copy_82 : decode cX12_copy 82 = .ok (.iload_n 1, 1) := by decide +kernel
theorem dX12_copy_83 : decode cX12_copy 83 = .ok (.imul, 1) := by decide +kernel
theorem dX12_copy_84 : decode cX12_copy 84 = .ok (.iload_n 3, 1) := by decide +kernel
theorem dX12_copy_85 : decode cX12_copy 85 = .ok (.iadd, 1) := by decide +kernel
theorem dX12_copy_86 : decode cX12_copy 86 = .ok (.istore 4, 2) := by decide +kernel
theorem dX12_copy_88 : decode cX12_copy 88 = .ok (.bipush 8, 2) := by decide +kernel
theorem dX12_copy_90 : decode cX12_copy 90 = .ok (.iload_n 2, 1) := by decide +kernel
theorem dX12_copy_91 : decode cX12_copy 91 = .ok (.imul, 1) := by decide +kernel
theorem dX12_copy_92 : decode cX12_copy 92 = .ok (.iload_n 3, 1) := by decide +kernel
theorem dX12_copy_93 : decode cX12_copy 93 = .ok (.iadd, 1) := by decide +kernel
theorem dX12_copy_94 : decode cX12_copy 94 = .ok (.istore 5, 2) := by decide +kernel
theorem dX12_copy_96 : decode cX12_copy 96 = .ok (.aload_n 0, 1) := by decide +kernel
theorem dX12_copy_97 : decode cX12_copy 97 = .ok (.getfield 40, 3) := by decide +kernel
theorem dX12_copy_100 : decode cX12_copy 100 = .ok (.iload 5, 2) := by decide +kernel
theorem dX12_copy_102 : decode cX12_copy 102 = .ok (.aload_n 0, 1) := by decide +kernel
theorem dX12_copy_103 : decode cX12_copy 103 = .ok (.getfield 40, 3) := by decide +kernel
theorem dX12_copy_106 : decode cX12_copy 106 = .ok (.iload 4, 2) := by decide +kernel
theorem dX12_copy_108 : decode cX12_copy 108 = .ok (.iaload, 1) := by decide +kernel
theorem dX12_copy_109 : decode cX12_copy 109 = .ok (.iastore, 1) := by decide +kernel
theorem dX12_copy_110 : decode cX12_copy 110 = .ok (.aload_n 0, 1) := by decide +kernel
theorem dX12_copy_111 : decode cX12_copy 111 = .ok (.getfield 43, 3) := by decide +kernel
theorem dX12_copy_114 : decode cX12_copy 114 = .ok (.iload 5, 2) := by decide +kernel
theorem dX12_copy_116 : decode cX12_copy 116 = .ok (.aload_n 0, 1) := by decide +kernel
theorem dX12_copy_117 : decode cX12_copy 117 = .ok (.getfield 43, 3) := by decide +kernel
theorem dX12_copy_120 : decode cX12_copy 120 = .ok (.iload 4, 2) := by decide +kernel
theorem dX12_copy_122 : decode cX12_copy 122 = .ok (.iaload, 1) := by decide +kernel
theorem dX12_copy_123 : decode cX12_copy 123 = .ok (.iastore, 1) := by decide +kernel
theorem dX12_copy_124 : decode cX12_copy 124 = .ok (.aload_n 0, 1) := by decide +kernel
theorem dX12_copy_125 : decode cX12_copy 125 = .ok (.getfield 46, 3) := by decide +kernel
theorem dX12_copy_128 : decode cX12_copy 128 = .ok (.iload 5, 2) := by decide +kernel
theorem dX12_copy_130 : decode cX12_copy 130 = .ok (.aload_n 0, 1) := by decide +kernel
theorem dX12_copy_131 : decode cX12_copy 131 = .ok (.getfield 46, 3) := by decide +kernel
theorem dX12_copy_134 : decode cX12_copy 134 = .ok (.iload 4, 2) := by decide +kernel
theorem dX12_copy_136 : decode cX12_copy 136 = .ok (.iaload, 1) := by decide +kernel
theorem dX12_copy_137 : decode cX12_copy 137 = .ok (.iastore, 1) := by decide +kernel
theorem dX12_copy_138 : decode cX12_copy 138 = .ok (.aload_n 0, 1) := by decide +kernel
theorem dX12_copy_139 : decode cX12_copy 139 = .ok (.getfield 49, 3) := by decide +kernel
theorem dX12_copy_142 : decode cX12_copy 142 = .ok (.iload 5, 2) := by decide +kernel
theorem dX12_copy_144 : decode cX12_copy 144 = .ok (.aload_n 0, 1) := by decide +kernel
theorem dX12_copy_145 : decode cX12_copy 145 = .ok (.getfield 49, 3) := by decide +kernel
theorem dX12_copy_148 : decode cX12_copy 148 = .ok (.iload 4, 2) := by decide +kernel
theorem dX12_copy_150 : decode cX12_copy 150 = .ok (.iaload, 1) := by decide +kernel
theorem dX12_copy_151 : decode cX12_copy 151 = .ok (.iastore, 1) := by decide +kernel
theorem dX12_copy_152 : decode cX12_copy 152 = .ok (.aload_n 0, 1) := by decide +kernel
theorem dX12_copy_153 : decode cX12_copy 153 = .ok (.getfield 52, 3) := by decide +kernel
theorem dX12_copy_156 : decode cX12_copy 156 = .ok (.iload 5, 2) := by decide +kernel
theorem dX12_copy_158 : decode cX12_copy 158 = .ok (.aload_n 0, 1) := by decide +kernel
theorem dX12_copy_159 : decode cX12_copy 159 = .ok (.getfield 52, 3) := by decide +kernel
theorem dX12_copy_162 : decode cX12_copy 162 = .ok (.iload 4, 2) := by decide +kernel
theorem dX12_copy_164 : decode cX12_copy 164 = .ok (.iaload, 1) := by decide +kernel
theorem dX12_copy_165 : decode cX12_copy 165 = .ok (.iastore, 1) := by decide +kernel
theorem dX12_copy_166 : decode cX12_copy 166 = .ok (.aload_n 0, 1) := by decide +kernel
theorem dX12_copy_167 : decode cX12_copy 167 = .ok (.getfield 55, 3) := by decide +kernel
theorem dX12_copy_170 : decode cX12_copy 170 = .ok (.iload 5, 2) := by decide +kernel
theorem dX12_copy_172 : decode cX12_copy 172 = .ok (.aload_n 0, 1) := by decide +kernel
theorem dX12_copy_173 : decode cX12_copy 173 = .ok (.getfield 55, 3) := by decide +kernel
theorem dX12_copy_176 : decode cX12_copy 176 = .ok (.iload 4, 2) := by decide +kernel
theorem dX12_copy_178 : decode cX12_copy 178 = .ok (.iaload, 1) := by decide +kernel
theorem dX12_copy_179 : decode cX12_copy 179 = .ok (.iastore, 1) := by decide +kernel
theorem dX12_copy_180 : decode cX12_copy 180 = .ok (.aload_n 0, 1) := by decide +kernel
theorem dX12_copy_181 : decode cX12_copy 181 = .ok (.getfield 58, 3) := by decide +kernel
theorem dX12_copy_184 : decode cX12_copy 184 = .ok (.iload 5, 2) := by decide +kernel
theorem dX12_copy_186 : decode cX12_copy 186 = .ok (.aload_n 0, 1) := by decide +kernel
theorem dX12_copy_187 : decode cX12_copy 187 = .ok (.getfield 58, 3) := by decide +kernel
theorem dX12_copy_190 : decode cX12_copy 190 = .ok (.iload 4, 2) := by decide +kernel
theorem dX12_copy_192 : decode cX12_copy 192 = .ok (.iaload, 1) := by decide +kernel
theorem dX12_copy_193 : decode cX12_copy 193 = .ok (.iastore, 1) := by decide +kernel
theorem dX12_copy_194 : decode cX12_copy 194 = .ok (.iinc 3 1, 3) := by decide +kernel
theorem dX12_copy_197 : decode cX12_copy 197 = .ok (.goto (-123), 3) := by decide +kernel
theorem dX12_copy_200 : decode cX12_copy 200 = .ok (.iconst 0, 1) := by decide +kernel
theorem dX12_copy_201 : decode cX12_copy 201 = .ok (.istore_n 3, 1) := by decide +kernel
theorem dX12_copy_202 : decode cX12_copy 202 = .ok (.iload_n 3, 1) := by decide +kernel
theorem dX12_copy_203 : decode cX12_copy 203 = .ok (.sipush 240, 3) := by decide +kernel
theorem dX12_copy_206 : decode cX12_copy 206 = .ok (.if_icmp .ge 33, 3) := by decide +kernel
theorem dX12_copy_209 : decode cX12_copy 209 = .ok (.aload_n 0, 1) := by decide +kernel
theorem dX12_copy_210 : decode cX12_copy 210 = .ok (.getfield 61, 3) := by decide +kernel
theorem dX12_copy_213 : decode cX12_copy 213 = .ok (.sipush 240, 3) := by decide +kernel
theorem dX12_copy_216 : decode cX12_copy 216 = .ok (.iload_n 2, 1) := by decide +kernel
theorem dX12_copy_217 : decode cX12_copy 217 = .ok (.imul, 1) := by decide +kernel
theorem dX12_copy_218 : decode cX12_copy 218 = .ok (.iload_n 3, 1) := by decide +kernel
theorem dX12_copy_219 : decode cX12_copy 219 = .ok (.iadd, 1) := by decide +kernel
theorem dX12_copy_220 : decode cX12_copy 220 = .ok (.aload_n 0, 1) := by decide +kernel
theorem dX12_copy_221 : decode cX12_copy 221 = .ok (.getfield 61, 3) := by decide +kernel
theorem dX12_copy_224 : decode cX12_copy 224 = .ok (.sipush 240, 3) := by decide +kernel
theorem dX12_copy_227 : decode cX12_copy 227 = .ok (.iload_n 1, 1) := by decide +kernel
theorem dX12_copy_228 : decode cX12_copy 228 = .ok (.imul, 1) := by decide +kernel
theorem dX12_copy_229 : decode cX12_copy 229 = .ok (.iload_n 3, 1) := by decide +kernel
theorem dX12_copy_230 : decode cX12_copy 230 = .ok (.iadd, 1) := by decide +kernel
theorem dX12_copy_231 : decode cX12_copy 231 = .ok (.baload, 1) := by decide +kernel
theorem dX12_copy_232 : decode cX12_copy 232 = .ok (.bastore, 1) := by decide +kernel
theorem dX12_copy_233 : decode cX12_copy 233 = .ok (.iinc 3 1, 3) := by decide +kernel
theorem dX12_copy_236 : decode cX12_copy 236 = .ok (.goto (-34), 3) := by decide +kernel
theorem dX12_copy_239 : decode cX12_copy 239 = .ok (.iconst 0, 1) := by decide +kernel
theorem dX12_copy_240 : decode cX12_copy 240 = .ok (.istore_n 3, 1) := by decide +kernel
theorem dX12_copy_241 : decode cX12_copy 241 = .ok (.iload_n 3, 1) := by decide +kernel
theorem dX12_copy_242 : decode cX12_copy 242 = .ok (.sipush 1440, 3) := by decide +kernel
theorem dX12_copy_245 : decode cX12_copy 245 = .ok (.if_icmp .ge 33, 3) := by decide +kernel
theorem dX12_copy_248 : decode cX12_copy 248 = .ok (.aload_n 0, 1) := by decide +kernel
theorem dX12_copy_249 : decode cX12_copy 249 = .ok (.getfield 64, 3) := by decide +kernel
theorem dX12_copy_252 : decode cX12_copy 252 = .ok (.sipush 1440, 3) := by decide +kernel
theorem dX12_copy_255 : decode cX12_copy 255 = .ok (.iload_n 2, 1) := by decide +kernel
theorem dX12_copy_256 : decode cX12_copy 256 = .ok (.imul, 1) := by decide +kernel
theorem dX12_copy_257 : decode cX12_copy 257 = .ok (.iload_n 3, 1) := by decide +kernel
theorem dX12_copy_258 : decode cX12_copy 258 = .ok (.iadd, 1) := by decide +kernel
theorem dX12_copy_259 : decode cX12_copy 259 = .ok (.aload_n 0, 1) := by decide +kernel
theorem dX12_copy_260 : decode cX12_copy 260 = .ok (.getfield 64, 3) := by decide +kernel
theorem dX12_copy_263 : decode cX12_copy 263 = .ok (.sipush 1440, 3) := by decide +kernel
theorem dX12_copy_266 : decode cX12_copy 266 = .ok (.iload_n 1, 1) := by decide +kernel
theorem dX12_copy_267 : decode cX12_copy 267 = .ok (.imul, 1) := by decide +kernel
theorem dX12_copy_268 : decode cX12_copy 268 = .ok (.iload_n 3, 1) := by decide +kernel
theorem dX12_copy_269 : decode cX12_copy 269 = .ok (.iadd, 1) := by decide +kernel
theorem dX12_copy_270 : decode cX12_copy 270 = .ok (.iaload, 1) := by decide +kernel
theorem dX12_copy_271 : decode cX12_copy 271 = .ok (.iastore, 1) := by decide +kernel
theorem dX12_copy_272 : decode cX12_copy 272 = .ok (.iinc 3 1, 3) := by decide +kernel
theorem dX12_copy_275 : decode cX12_copy 275 = .ok (.goto (-34), 3) := by decide +kernel
theorem dX12_copy_278 : decode cX12_copy 278 = .ok (.iconst 0, 1) := by decide +kernel
theorem dX12_copy_279 : decode cX12_copy 279 = .ok (.istore_n 3, 1) := by decide +kernel
theorem dX12_copy_280 : decode cX12_copy 280 = .ok (.iload_n 3, 1) := by decide +kernel
theorem dX12_copy_281 : decode cX12_copy 281 = .ok (.sipush 300, 3) := by decide +kernel
theorem dX12_copy_284 : decode cX12_copy 284 = .ok (.if_icmp .ge 111, 3) := by decide +kernel
theorem dX12_copy_287 : decode cX12_copy 287 = .ok (.sipush 300, 3) := by decide +kernel
theorem dX12_copy_290 : decode cX12_copy 290 = .ok (.iload_n 1, 1) := by decide +kernel
theorem dX12_copy_291 : decode cX12_copy 291 = .ok (.imul, 1) := by decide +kernel
theorem dX12_copy_292 : decode cX12_copy 292 = .ok (.iload_n 3, 1) := by decide +kernel
theorem dX12_copy_293 : decode cX12_copy 293 = .ok (.iadd, 1) := by decide +kernel
theorem dX12_copy_294 : decode cX12_copy 294 = .ok (.istore 4, 2) := by decide +kernel
theorem dX12_copy_296 : decode cX12_copy 296 = .ok (.sipush 300, 3) := by decide +kernel
theorem dX12_copy_299 : decode cX12_copy 299 = .ok (.iload_n 2, 1) := by decide +kernel
theorem dX12_copy_300 : decode cX12_copy 300 = .ok (.imul, 1) := by decide +kernel
theorem dX12_copy_301 : decode cX12_copy 301 = .ok (.iload_n 3, 1) := by decide +kernel
theorem dX12_copy_302 : decode cX12_copy 302 = .ok (.iadd, 1) := by decide +kernel
theorem dX12_copy_303 : decode cX12_copy 303 = .ok (.istore 5, 2) := by decide +kernel
theorem dX12_copy_305 : decode cX12_copy 305 = .ok (.aload_n 0, 1) := by decide +kernel
theorem dX12_copy_306 : decode cX12_copy 306 = .ok (.getfield 67, 3) := by decide +kernel
theorem dX12_copy_309 : decode cX12_copy 309 = .ok (.iload 5, 2) := by decide +kernel
theorem dX12_copy_311 : decode cX12_copy 311 = .ok (.aload_n 0, 1) := by decide +kernel
theorem dX12_copy_312 : decode cX12_copy 312 = .ok (.getfield 67, 3) := by decide +kernel
theorem dX12_copy_315 : decode cX12_copy 315 = .ok (.iload 4, 2) := by decide +kernel
theorem dX12_copy_317 : decode cX12_copy 317 = .ok (.iaload, 1) := by decide +kernel
theorem dX12_copy_318 : decode cX12_copy 318 = .ok (.iastore, 1) := by decide +kernel
theorem dX12_copy_319 : decode cX12_copy 319 = .ok (.aload_n 0, 1) := by decide +kernel
theorem dX12_copy_320 : decode cX12_copy 320 = .ok (.getfield 70, 3) := by decide +kernel
theorem dX12_copy_323 : decode cX12_copy 323 = .ok (.iload 5, 2) := by decide +kernel
theorem dX12_copy_325 : decode cX12_copy 325 = .ok (.aload_n 0, 1) := by decide +kernel
theorem dX12_copy_326 : decode cX12_copy 326 = .ok (.getfield 70, 3) := by decide +kernel
theorem dX12_copy_329 : decode cX12_copy 329 = .ok (.iload 4, 2) := by decide +kernel
theorem dX12_copy_331 : decode cX12_copy 331 = .ok (.iaload, 1) := by decide +kernel
theorem dX12_copy_332 : decode cX12_copy 332 = .ok (.iastore, 1) := by decide +kernel
theorem dX12_copy_333 : decode cX12_copy 333 = .ok (.aload_n 0, 1) := by decide +kernel
theorem dX12_copy_334 : decode cX12_copy 334 = .ok (.getfield 73, 3) := by decide +kernel
theorem dX12_copy_337 : decode cX12_copy 337 = .ok (.iload 5, 2) := by decide +kernel
theorem dX12_copy_339 : decode cX12_copy 339 = .ok (.aload_n 0, 1) := by decide +kernel
theorem dX12_copy_340 : decode cX12_copy 340 = .ok (.getfield 73, 3) := by decide +kernel
theorem dX12_copy_343 : decode cX12_copy 343 = .ok (.iload 4, 2) := by decide +kernel
theorem dX12_copy_345 : decode cX12_copy 345 = .ok (.iaload, 1) := by decide +kernel
theorem dX12_copy_346 : decode cX12_copy 346 = .ok (.iastore, 1) := by decide +kernel
theorem dX12_copy_347 : decode cX12_copy 347 = .ok (.aload_n 0, 1) := by decide +kernel
theorem dX12_copy_348 : decode cX12_copy 348 = .ok (.getfield 76, 3) := by decide +kernel
theorem dX12_copy_351 : decode cX12_copy 351 = .ok (.iload 5, 2) := by decide +kernel
theorem dX12_copy_353 : decode cX12_copy 353 = .ok (.aload_n 0, 1) := by decide +kernel
theorem dX12_copy_354 : decode cX12_copy 354 = .ok (.getfield 76, 3) := by decide +kernel
theorem dX12_copy_357 : decode cX12_copy 357 = .ok (.iload 4, 2) := by decide +kernel
theorem dX12_copy_359 : decode cX12_copy 359 = .ok (.iaload, 1) := by decide +kernel
theorem dX12_copy_360 : decode cX12_copy 360 = .ok (.iastore, 1) := by decide +kernel
theorem dX12_copy_361 : decode cX12_copy 361 = .ok (.aload_n 0, 1) := by decide +kernel
theorem dX12_copy_362 : decode cX12_copy 362 = .ok (.getfield 79, 3) := by decide +kernel
theorem dX12_copy_365 : decode cX12_copy 365 = .ok (.iload 5, 2) := by decide +kernel
theorem dX12_copy_367 : decode cX12_copy 367 = .ok (.aload_n 0, 1) := by decide +kernel
theorem dX12_copy_368 : decode cX12_copy 368 = .ok (.getfield 79, 3) := by decide +kernel
theorem dX12_copy_371 : decode cX12_copy 371 = .ok (.iload 4, 2) := by decide +kernel
theorem dX12_copy_373 : decode cX12_copy 373 = .ok (.iaload, 1) := by decide +kernel
theorem dX12_copy_374 : decode cX12_copy 374 = .ok (.iastore, 1) := by decide +kernel
theorem dX12_copy_375 : decode cX12_copy 375 = .ok (.aload_n 0, 1) := by decide +kernel
theorem dX12_copy_376 : decode cX12_copy 376 = .ok (.getfield 82, 3) := by decide +kernel
theorem dX12_copy_379 : decode cX12_copy 379 = .ok (.iload 5, 2) := by decide +kernel
theorem dX12_copy_381 : decode cX12_copy 381 = .ok (.aload_n 0, 1) := by decide +kernel
theorem dX12_copy_382 : decode cX12_copy 382 = .ok (.getfield 82, 3) := by decide +kernel
theorem dX12_copy_385 : decode cX12_copy 385 = .ok (.iload 4, 2) := by decide +kernel
theorem dX12_copy_387 : decode cX12_copy 387 = .ok (.iaload, 1) := by decide +kernel
theorem dX12_copy_388 : decode cX12_copy 388 = .ok (.iastore, 1) := by decide +kernel
theorem dX12_copy_389 : decode cX12_copy 389 = .ok (.iinc 3 1, 3) := by decide +kernel
theorem dX12_copy_392 : decode cX12_copy 392 = .ok (.goto (-112), 3) := by decide +kernel
theorem dX12_copy_395 : decode cX12_copy 395 = .ok (.return_, 1) := by decide +kernel
theorem dX12_places_0 : decode cX12_places 0 = .ok (.aload_n 0, 1) := by decide +kernel
theorem dX12_places_1 : decode cX12_places 1 = .ok (.getfield 43, 3) := by decide +kernel
theorem dX12_places_4 : decode cX12_places 4 = .ok (.iload_n 1, 1) := by decide +kernel
theorem dX12_places_5 : decode cX12_places 5 = .ok (.iaload, 1) := by decide +kernel
theorem dX12_places_6 : decode cX12_places 6 = .ok (.aload_n 0, 1) := by decide +kernel
theorem dX12_places_7 : decode cX12_places 7 = .ok (.getfield 46, 3) := by decide +kernel
theorem dX12_places_10 : decode cX12_places 10 = .ok (.iload_n 1, 1) := by decide +kernel
theorem dX12_places_11 : decode cX12_places 11 = .ok (.iaload, 1) := by decide +kernel
theorem dX12_places_12 : decode cX12_places 12 = .ok (.imul, 1) := by decide +kernel
theorem dX12_places_13 : decode cX12_places 13 = .ok (.aload_n 0, 1) := by decide +kernel
theorem dX12_places_14 : decode cX12_places 14 = .ok (.getfield 49, 3) := by decide +kernel
theorem dX12_places_17 : decode cX12_places 17 = .ok (.iload_n 1, 1) := by decide +kernel
theorem dX12_places_18 : decode cX12_places 18 = .ok (.iaload, 1) := by decide +kernel
theorem dX12_places_19 : decode cX12_places 19 = .ok (.imul, 1) := by decide +kernel
theorem dX12_places_20 : decode cX12_places 20 = .ok (.ireturn, 1) := by decide +kernel
theorem dX12_isRoom_0 : decode cX12_isRoom 0 = .ok (.iload_n 1, 1) := by decide +kernel
theorem dX12_isRoom_1 : decode cX12_isRoom 1 = .ok (.iconst 0, 1) := by decide +kernel
theorem dX12_isRoom_2 : decode cX12_isRoom 2 = .ok (.aload_n 0, 1) := by decide +kernel
theorem dX12_isRoom_3 : decode cX12_isRoom 3 = .ok (.getfield 31, 3) := by decide +kernel
theorem dX12_isRoom_6 : decode cX12_isRoom 6 = .ok (.iconst 0, 1) := by decide +kernel
theorem dX12_isRoom_7 : decode cX12_isRoom 7 = .ok (.iaload, 1) := by decide +kernel
theorem dX12_isRoom_8 : decode cX12_isRoom 8 = .ok (.iconst 1, 1) := by decide +kernel
theorem dX12_isRoom_9 : decode cX12_isRoom 9 = .ok (.isub, 1) := by decide +kernel
theorem dX12_isRoom_10 : decode cX12_isRoom 10 = .ok (.invokestatic 145, 3) := by decide +kernel
theorem dX12_isRoom_13 : decode cX12_isRoom 13 = .ok (.ireturn, 1) := by decide +kernel
theorem dX12_isPlace_0 : decode cX12_isPlace 0 = .ok (.iload_n 2, 1) := by decide +kernel
theorem dX12_isPlace_1 : decode cX12_isPlace 1 = .ok (.iconst 0, 1) := by decide +kernel
theorem dX12_isPlace_2 : decode cX12_isPlace 2 = .ok (.aload_n 0, 1) := by decide +kernel
theorem dX12_isPlace_3 : decode cX12_isPlace 3 = .ok (.iload_n 1, 1) := by decide +kernel
theorem dX12_isPlace_4 : decode cX12_isPlace 4 = .ok (.invokevirtual 160, 3) := by decide +kernel
theorem dX12_isPlace_7 : decode cX12_isPlace 7 = .ok (.iconst 1, 1) := by decide +kernel
theorem dX12_isPlace_8 : decode cX12_isPlace 8 = .ok (.isub, 1) := by decide +kernel
theorem dX12_isPlace_9 : decode cX12_isPlace 9 = .ok (.invokestatic 145, 3) := by decide +kernel
theorem dX12_isPlace_12 : decode cX12_isPlace 12 = .ok (.ireturn, 1) := by decide +kernel
theorem dX12_rowOf_0 : decode cX12_rowOf 0 = .ok (.bipush 30, 2) := by decide +kernel
theorem dX12_rowOf_2 : decode cX12_rowOf 2 = .ok (.iload_n 1, 1) := by decide +kernel
theorem dX12_rowOf_3 : decode cX12_rowOf 3 = .ok (.imul, 1) := by decide +kernel
theorem dX12_rowOf_4 : decode cX12_rowOf 4 = .ok (.iload_n 2, 1) := by decide +kernel
theorem dX12_rowOf_5 : decode cX12_rowOf 5 = .ok (.aload_n 0, 1) := by decide +kernel
theorem dX12_rowOf_6 : decode cX12_rowOf 6 = .ok (.getfield 43, 3) := by decide +kernel
theorem dX12_rowOf_9 : decode cX12_rowOf 9 = .ok (.iload_n 1, 1) := by decide +kernel
theorem dX12_rowOf_10 : decode cX12_rowOf 10 = .ok (.iaload, 1) := by decide +kernel
theorem dX12_rowOf_11 : decode cX12_rowOf 11 = .ok (.idiv, 1) := by decide +kernel
theorem dX12_rowOf_12 : decode cX12_rowOf 12 = .ok (.iadd, 1) := by decide +kernel
theorem dX12_rowOf_13 : decode cX12_rowOf 13 = .ok (.ireturn, 1) := by decide +kernel
theorem dX12_isLaid_0 : decode cX12_isLaid 0 = .ok (.aload_n 0, 1) := by decide +kernel
theorem dX12_isLaid_1 : decode cX12_isLaid 1 = .ok (.getfield 61, 3) := by decide +kernel
theorem dX12_isLaid_4 : decode cX12_isLaid 4 = .ok (.aload_n 0, 1) := by decide +kernel
theorem dX12_isLaid_5 : decode cX12_isLaid 5 = .ok (.iload_n 1, 1) := by decide +kernel
theorem dX12_isLaid_6 : decode cX12_isLaid 6 = .ok (.iload_n 2, 1) := by decide +kernel
theorem dX12_isLaid_7 : decode cX12_isLaid 7 = .ok (.invokevirtual 163, 3) := by decide +kernel
theorem dX12_isLaid_10 : decode cX12_isLaid 10 = .ok (.baload, 1) := by decide +kernel
theorem dX12_isLaid_11 : decode cX12_isLaid 11 = .ok (.ireturn, 1) := by decide +kernel
theorem dX12_floor_0 : decode cX12_floor 0 = .ok (.aload_n 0, 1) := by decide +kernel
theorem dX12_floor_1 : decode cX12_floor 1 = .ok (.getfield 43, 3) := by decide +kernel
theorem dX12_floor_4 : decode cX12_floor 4 = .ok (.iload_n 1, 1) := by decide +kernel
theorem dX12_floor_5 : decode cX12_floor 5 = .ok (.iaload, 1) := by decide +kernel
theorem dX12_floor_6 : decode cX12_floor 6 = .ok (.aload_n 0, 1) := by decide +kernel
theorem dX12_floor_7 : decode cX12_floor 7 = .ok (.getfield 46, 3) := by decide +kernel
theorem dX12_floor_10 : decode cX12_floor 10 = .ok (.iload_n 1, 1) := by decide +kernel
theorem dX12_floor_11 : decode cX12_floor 11 = .ok (.iaload, 1) := by decide +kernel
theorem dX12_floor_12 : decode cX12_floor 12 = .ok (.imul, 1) := by decide +kernel
theorem dX12_floor_13 : decode cX12_floor 13 = .ok (.ireturn, 1) := by decide +kernel
theorem dX12_layerOf_0 : decode cX12_layerOf 0 = .ok (.iload_n 2, 1) := by decide +kernel
theorem dX12_layerOf_1 : decode cX12_layerOf 1 = .ok (.aload_n 0, 1) := by decide +kernel
theorem dX12_layerOf_2 : decode cX12_layerOf 2 = .ok (.iload_n 1, 1) := by decide +kernel
theorem dX12_layerOf_3 : decode cX12_layerOf 3 = .ok (.invokevirtual 167, 3) := by decide +kernel
theorem dX12_layerOf_6 : decode cX12_layerOf 6 = .ok (.idiv, 1) := by decide +kernel
theorem dX12_layerOf_7 : decode cX12_layerOf 7 = .ok (.ireturn, 1) := by decide +kernel
theorem dX12_at_0 : decode cX12_at 0 = .ok (.aload_n 0, 1) := by decide +kernel
theorem dX12_at_1 : decode cX12_at 1 = .ok (.getfield 64, 3) := by decide +kernel
theorem dX12_at_4 : decode cX12_at 4 = .ok (.sipush 180, 3) := by decide +kernel
theorem dX12_at_7 : decode cX12_at 7 = .ok (.iload_n 1, 1) := by decide +kernel
theorem dX12_at_8 : decode cX12_at 8 = .ok (.imul, 1) := by decide +kernel
theorem dX12_at_9 : decode cX12_at 9 = .ok (.iload_n 2, 1) := by decide +kernel
theorem dX12_at_10 : decode cX12_at 10 = .ok (.iadd, 1) := by decide +kernel
theorem dX12_at_11 : decode cX12_at 11 = .ok (.iaload, 1) := by decide +kernel
theorem dX12_at_12 : decode cX12_at 12 = .ok (.ireturn, 1) := by decide +kernel
theorem dX12_side_0 : decode cX12_side 0 = .ok (.aload_n 0, 1) := by decide +kernel
theorem dX12_side_1 : decode cX12_side 1 = .ok (.getfield 43, 3) := by decide +kernel
theorem dX12_side_4 : decode cX12_side 4 = .ok (.iload_n 1, 1) := by decide +kernel
theorem dX12_side_5 : decode cX12_side 5 = .ok (.iaload, 1) := by decide +kernel
theorem dX12_side_6 : decode cX12_side 6 = .ok (.istore 4, 2) := by decide +kernel
theorem dX12_side_8 : decode cX12_side 8 = .ok (.iload_n 2, 1) := by decide +kernel
theorem dX12_side_9 : decode cX12_side 9 = .ok (.iload 4, 2) := by decide +kernel
theorem dX12_side_11 : decode cX12_side 11 = .ok (.irem, 1) := by decide +kernel
theorem dX12_side_12 : decode cX12_side 12 = .ok (.istore 5, 2) := by decide +kernel
theorem dX12_side_14 : decode cX12_side 14 = .ok (.iload_n 2, 1) := by decide +kernel
theorem dX12_side_15 : decode cX12_side 15 = .ok (.iload 4, 2) := by decide +kernel
theorem dX12_side_17 : decode cX12_side 17 = .ok (.idiv, 1) := by decide +kernel
theorem dX12_side_18 : decode cX12_side 18 = .ok (.aload_n 0, 1) := by decide +kernel
theorem dX12_side_19 : decode cX12_side 19 = .ok (.getfield 46, 3) := by decide +kernel
theorem dX12_side_22 : decode cX12_side 22 = .ok (.iload_n 1, 1) := by decide +kernel
theorem dX12_side_23 : decode cX12_side 23 = .ok (.iaload, 1) := by decide +kernel
theorem dX12_side_24 : decode cX12_side 24 = .ok (.irem, 1) := by decide +kernel
theorem dX12_side_25 : decode cX12_side 25 = .ok (.istore 6, 2) := by decide +kernel
theorem dX12_side_27 : decode cX12_side 27 = .ok (.aload_n 0, 1) := by decide +kernel
theorem dX12_side_28 : decode cX12_side 28 = .ok (.iload_n 1, 1) := by decide +kernel
theorem dX12_side_29 : decode cX12_side 29 = .ok (.iload_n 2, 1) := by decide +kernel
theorem dX12_side_30 : decode cX12_side 30 = .ok (.invokevirtual 170, 3) := by decide +kernel
theorem dX12_side_33 : decode cX12_side 33 = .ok (.istore 7, 2) := by decide +kernel
theorem dX12_side_35 : decode cX12_side 35 = .ok (.iload_n 3, 1) := by decide +kernel
theorem dX12_side_36 : decode cX12_side 36 = .ok (.ifCond .ne 7, 3) := by decide +kernel
theorem dX12_side_39 : decode cX12_side 39 = .ok (.iconst (-1), 1) := by decide +kernel
theorem dX12_side_40 : decode cX12_side 40 = .ok (.goto 13, 3) := by decide +kernel
theorem dX12_side_43 : decode cX12_side 43 = .ok (.iload_n 3, 1) := by decide +kernel
theorem dX12_side_44 : decode cX12_side 44 = .ok (.iconst 1, 1) := by decide +kernel
theorem dX12_side_45 : decode cX12_side 45 = .ok (.if_icmp .ne 7, 3) := by decide +kernel
theorem dX12_side_48 : decode cX12_side 48 = .ok (.iconst 1, 1) := by decide +kernel
theorem dX12_side_49 : decode cX12_side 49 = .ok (.goto 4, 3) := by decide +kernel
theorem dX12_side_52 : decode cX12_side 52 = .ok (.iconst 0, 1) := by decide +kernel
theorem dX12_side_53 : decode cX12_side 53 = .ok (.istore 8, 2) := by decide +kernel
theorem dX12_side_55 : decode cX12_side 55 = .ok (.iload_n 3, 1) := by decide +kernel
theorem dX12_side_56 : decode cX12_side 56 = .ok (.iconst 2, 1) := by decide +kernel
theorem dX12_side_57 : decode cX12_side 57 = .ok (.if_icmp .ne 7, 3) := by decide +kernel
theorem dX12_side_60 : decode cX12_side 60 = .ok (.iconst (-1), 1) := by decide +kernel
theorem dX12_side_61 : decode cX12_side 61 = .ok (.goto 13, 3) := by decide +kernel
theorem dX12_side_64 : decode cX12_side 64 = .ok (.iload_n 3, 1) := by decide +kernel
theorem dX12_side_65 : decode cX12_side 65 = .ok (.iconst 3, 1) := by decide +kernel
theorem dX12_side_66 : decode cX12_side 66 = .ok (.if_icmp .ne 7, 3) := by decide +kernel
theorem dX12_side_69 : decode cX12_side 69 = .ok (.iconst 1, 1) := by decide +kernel
theorem dX12_side_70 : decode cX12_side 70 = .ok (.goto 4, 3) := by decide +kernel
theorem dX12_side_73 : decode cX12_side 73 = .ok (.iconst 0, 1) := by decide +kernel
theorem dX12_side_74 : decode cX12_side 74 = .ok (.istore 9, 2) := by decide +kernel
theorem dX12_side_76 : decode cX12_side 76 = .ok (.iload_n 3, 1) := by decide +kernel
theorem dX12_side_77 : decode cX12_side 77 = .ok (.iconst 4, 1) := by decide +kernel
theorem dX12_side_78 : decode cX12_side 78 = .ok (.if_icmp .ne 7, 3) := by decide +kernel
theorem dX12_side_81 : decode cX12_side 81 = .ok (.iconst (-1), 1) := by decide +kernel
theorem dX12_side_82 : decode cX12_side 82 = .ok (.goto 13, 3) := by decide +kernel
theorem dX12_side_85 : decode cX12_side 85 = .ok (.iload_n 3, 1) := by decide +kernel
theorem dX12_side_86 : decode cX12_side 86 = .ok (.iconst 5, 1) := by decide +kernel
theorem dX12_side_87 : decode cX12_side 87 = .ok (.if_icmp .ne 7, 3) := by decide +kernel
theorem dX12_side_90 : decode cX12_side 90 = .ok (.iconst 1, 1) := by decide +kernel
theorem dX12_side_91 : decode cX12_side 91 = .ok (.goto 4, 3) := by decide +kernel
theorem dX12_side_94 : decode cX12_side 94 = .ok (.iconst 0, 1) := by decide +kernel
theorem dX12_side_95 : decode cX12_side 95 = .ok (.istore 10, 2) := by decide +kernel
theorem dX12_side_97 : decode cX12_side 97 = .ok (.iload 5, 2) := by decide +kernel
theorem dX12_side_99 : decode cX12_side 99 = .ok (.iload 8, 2) := by decide +kernel
theorem dX12_side_101 : decode cX12_side 101 = .ok (.iadd, 1) := by decide +kernel
theorem dX12_side_102 : decode cX12_side 102 = .ok (.iconst 0, 1) := by decide +kernel
theorem dX12_side_103 : decode cX12_side 103 = .ok (.iload 4, 2) := by decide +kernel
theorem dX12_side_105 : decode cX12_side 105 = .ok (.iconst 1, 1) := by decide +kernel
theorem dX12_side_106 : decode cX12_side 106 = .ok (.isub, 1) := by decide +kernel
theorem dX12_side_107 : decode cX12_side 107 = .ok (.invokestatic 145, 3) := by decide +kernel
theorem dX12_side_110 : decode cX12_side 110 = .ok (.ifCond .eq 43, 3) := by decide +kernel
theorem dX12_side_113 : decode cX12_side 113 = .ok (.iload 6, 2) := by decide +kernel
theorem dX12_side_115 : decode cX12_side 115 = .ok (.iload 9, 2) := by decide +kernel
theorem dX12_side_117 : decode cX12_side 117 = .ok (.iadd, 1) := by decide +kernel
theorem dX12_side_118 : decode cX12_side 118 = .ok (.iconst 0, 1) := by decide +kernel
theorem dX12_side_119 : decode cX12_side 119 = .ok (.aload_n 0, 1) := by decide +kernel
theorem dX12_side_120 : decode cX12_side 120 = .ok (.getfield 46, 3) := by decide +kernel
theorem dX12_side_123 : decode cX12_side 123 = .ok (.iload_n 1, 1) := by decide +kernel
theorem dX12_side_124 : decode cX12_side 124 = .ok (.iaload, 1) := by decide +kernel
theorem dX12_side_125 : decode cX12_side 125 = .ok (.iconst 1, 1) := by decide +kernel
theorem dX12_side_126 : decode cX12_side 126 = .ok (.isub, 1) := by decide +kernel
theorem dX12_side_127 : decode cX12_side 127 = .ok (.invokestatic 145, 3) := by decide +kernel
theorem dX12_side_130 : decode cX12_side 130 = .ok (.ifCond .eq 23, 3) := by decide +kernel
theorem dX12_side_133 : decode cX12_side 133 = .ok (.iload 7, 2) := by decide +kernel
theorem dX12_side_135 : decode cX12_side 135 = .ok (.iload 10, 2) := by decide +kernel
theorem dX12_side_137 : decode cX12_side 137 = .ok (.iadd, 1) := by decide +kernel
theorem dX12_side_138 : decode cX12_side 138 = .ok (.iconst 0, 1) := by decide +kernel
theorem dX12_side_139 : decode cX12_side 139 = .ok (.aload_n 0, 1) := by decide +kernel
theorem dX12_side_140 : decode cX12_side 140 = .ok (.getfield 49, 3) := by decide +kernel
theorem dX12_side_143 : decode cX12_side 143 = .ok (.iload_n 1, 1) := by decide +kernel
theorem dX12_side_144 : decode cX12_side 144 = .ok (.iaload, 1) := by decide +kernel
theorem dX12_side_145 : decode cX12_side 145 = .ok (.iconst 1, 1) := by decide +kernel
theorem dX12_side_146 : decode cX12_side 146 = .ok (.isub, 1) := by decide +kernel
theorem dX12_side_147 : decode cX12_side 147 = .ok (.invokestatic 145, 3) := by decide +kernel
theorem dX12_side_150 : decode cX12_side 150 = .ok (.ifCond .ne 5, 3) := by decide +kernel
theorem dX12_side_153 : decode cX12_side 153 = .ok (.iconst 0, 1) := by decide +kernel
theorem dX12_side_154 : decode cX12_side 154 = .ok (.ireturn, 1) := by decide +kernel
theorem dX12_side_155 : decode cX12_side 155 = .ok (.aload_n 0, 1) := by decide +kernel
theorem dX12_side_156 : decode cX12_side 156 = .ok (.iload_n 1, 1) := by decide +kernel
theorem dX12_side_157 : decode cX12_side 157 = .ok (.iload_n 2, 1) := by decide +kernel
theorem dX12_side_158 : decode cX12_side 158 = .ok (.iload 8, 2) := by decide +kernel
theorem dX12_side_160 : decode cX12_side 160 = .ok (.iadd, 1) := by decide +kernel
theorem dX12_side_161 : decode cX12_side 161 = .ok (.iload 4, 2) := by decide +kernel
theorem dX12_side_163 : decode cX12_side 163 = .ok (.iload 9, 2) := by decide +kernel
theorem dX12_side_165 : decode cX12_side 165 = .ok (.aload_n 0, 1) := by decide +kernel
theorem dX12_side_166 : decode cX12_side 166 = .ok (.getfield 46, 3) := by decide +kernel
theorem dX12_side_169 : decode cX12_side 169 = .ok (.iload_n 1, 1) := by decide +kernel
theorem dX12_side_170 : decode cX12_side 170 = .ok (.iaload, 1) := by decide +kernel
theorem dX12_side_171 : decode cX12_side 171 = .ok (.iload 10, 2) := by decide +kernel
theorem dX12_side_173 : decode cX12_side 173 = .ok (.imul, 1) := by decide +kernel
theorem dX12_side_174 : decode cX12_side 174 = .ok (.iadd, 1) := by decide +kernel
theorem dX12_side_175 : decode cX12_side 175 = .ok (.imul, 1) := by decide +kernel
theorem dX12_side_176 : decode cX12_side 176 = .ok (.iadd, 1) := by decide +kernel
theorem dX12_side_177 : decode cX12_side 177 = .ok (.invokevirtual 173, 3) := by decide +kernel
theorem dX12_side_180 : decode cX12_side 180 = .ok (.ireturn, 1) := by decide +kernel
theorem dX12_sides_0 : decode cX12_sides 0 = .ok (.iconst 0, 1) := by decide +kernel
theorem dX12_sides_1 : decode cX12_sides 1 = .ok (.istore 4, 2) := by decide +kernel
theorem dX12_sides_3 : decode cX12_sides 3 = .ok (.iconst 0, 1) := by decide +kernel
theorem dX12_sides_4 : decode cX12_sides 4 = .ok (.istore 5, 2) := by decide +kernel
theorem dX12_sides_6 : decode cX12_sides 6 = .ok (.iload 5, 2) := by decide +kernel
theorem dX12_sides_8 : decode cX12_sides 8 = .ok (.bipush 6, 2) := by decide +kernel
theorem dX12_sides_10 : decode cX12_sides 10 = .ok (.if_icmp .ge 59, 3) := by decide +kernel
theorem dX12_sides_13 : decode cX12_sides 13 = .ok (.aload_n 0, 1) := by decide +kernel
theorem dX12_sides_14 : decode cX12_sides 14 = .ok (.iload_n 1, 1) := by decide +kernel
theorem dX12_sides_15 : decode cX12_sides 15 = .ok (.iload_n 2, 1) := by decide +kernel
theorem dX12_sides_16 : decode cX12_sides 16 = .ok (.iload 5, 2) := by decide +kernel
theorem dX12_sides_18 : decode cX12_sides 18 = .ok (.invokevirtual 176, 3) := by decide +kernel
theorem dX12_sides_21 : decode cX12_sides 21 = .ok (.istore 6, 2) := by decide +kernel
theorem dX12_sides_23 : decode cX12_sides 23 = .ok (.iload 6, 2) := by decide +kernel
theorem dX12_sides_25 : decode cX12_sides 25 = .ok (.bipush 10, 2) := by decide +kernel
theorem dX12_sides_27 : decode cX12_sides 27 = .ok (.if_icmp .lt 7, 3) := by decide +kernel
theorem dX12_sides_30 : decode cX12_sides 30 = .ok (.iconst 2, 1) := by decide +kernel
theorem dX12_sides_31 : decode cX12_sides 31 = .ok (.goto 14, 3) := by decide +kernel
theorem dX12_sides_34 : decode cX12_sides 34 = .ok (.iload 6, 2) := by decide +kernel
theorem dX12_sides_36 : decode cX12_sides 36 = .ok (.iconst 1, 1) := by decide +kernel
theorem dX12_sides_37 : decode cX12_sides 37 = .ok (.if_icmp .ne 7, 3) := by decide +kernel
theorem dX12_sides_40 : decode cX12_sides 40 = .ok (.iconst 1, 1) := by decide +kernel
theorem dX12_sides_41 : decode cX12_sides 41 = .ok (.goto 4, 3) := by decide +kernel
theorem dX12_sides_44 : decode cX12_sides 44 = .ok (.iconst 0, 1) := by decide +kernel
theorem dX12_sides_45 : decode cX12_sides 45 = .ok (.istore 7, 2) := by decide +kernel
theorem dX12_sides_47 : decode cX12_sides 47 = .ok (.iload 4, 2) := by decide +kernel
theorem dX12_sides_49 : decode cX12_sides 49 = .ok (.iload 7, 2) := by decide +kernel
theorem dX12_sides_51 : decode cX12_sides 51 = .ok (.iload_n 3, 1) := by decide +kernel
theorem dX12_sides_52 : decode cX12_sides 52 = .ok (.if_icmp .ne 7, 3) := by decide +kernel
theorem dX12_sides_55 : decode cX12_sides 55 = .ok (.iconst 1, 1) := by decide +kernel
theorem dX12_sides_56 : decode cX12_sides 56 = .ok (.goto 4, 3) := by decide +kernel
theorem dX12_sides_59 : decode cX12_sides 59 = .ok (.iconst 0, 1) := by decide +kernel
theorem dX12_sides_60 : decode cX12_sides 60 = .ok (.iadd, 1) := by decide +kernel
theorem dX12_sides_61 : decode cX12_sides 61 = .ok (.istore 4, 2) := by decide +kernel
theorem dX12_sides_63 : decode cX12_sides 63 = .ok (.iinc 5 1, 3) := by decide +kernel
theorem dX12_sides_66 : decode cX12_sides 66 = .ok (.goto (-60), 3) := by decide +kernel
theorem dX12_sides_69 : decode cX12_sides 69 = .ok (.iload 4, 2) := by decide +kernel
theorem dX12_sides_71 : decode cX12_sides 71 = .ok (.ireturn, 1) := by decide +kernel
theorem dX12_room_0 : decode cX12_room 0 = .ok (.iload_n 1, 1) := by decide +kernel
theorem dX12_room_1 : decode cX12_room 1 = .ok (.iconst 0, 1) := by decide +kernel
theorem dX12_room_2 : decode cX12_room 2 = .ok (.iconst 5, 1) := by decide +kernel
theorem dX12_room_3 : decode cX12_room 3 = .ok (.invokestatic 145, 3) := by decide +kernel
theorem dX12_room_6 : decode cX12_room 6 = .ok (.ifCond .eq 56, 3) := by decide +kernel
theorem dX12_room_9 : decode cX12_room 9 = .ok (.iload_n 2, 1) := by decide +kernel
theorem dX12_room_10 : decode cX12_room 10 = .ok (.iconst 1, 1) := by decide +kernel
theorem dX12_room_11 : decode cX12_room 11 = .ok (.bipush 6, 2) := by decide +kernel
theorem dX12_room_13 : decode cX12_room 13 = .ok (.invokestatic 145, 3) := by decide +kernel
theorem dX12_room_16 : decode cX12_room 16 = .ok (.ifCond .eq 46, 3) := by decide +kernel
theorem dX12_room_19 : decode cX12_room 19 = .ok (.iload_n 3, 1) := by decide +kernel
theorem dX12_room_20 : decode cX12_room 20 = .ok (.iconst 1, 1) := by decide +kernel
theorem dX12_room_21 : decode cX12_room 21 = .ok (.bipush 6, 2) := by decide +kernel
theorem dX12_room_23 : decode cX12_room 23 = .ok (.invokestatic 145, 3) := by decide +kernel
theorem dX12_room_26 : decode cX12_room 26 = .ok (.ifCond .eq 36, 3) := by decide +kernel
theorem dX12_room_29 : decode cX12_room 29 = .ok (.iload 4, 2) := by decide +kernel
theorem dX12_room_31 : decode cX12_room 31 = .ok (.iconst 1, 1) := by decide +kernel
theorem dX12_room_32 : decode cX12_room 32 = .ok (.iconst 5, 1) := by decide +kernel
theorem dX12_room_33 : decode cX12_room 33 = .ok (.invokestatic 145, 3) := by decide +kernel
theorem dX12_room_36 : decode cX12_room 36 = .ok (.ifCond .eq 26, 3) := by decide +kernel
theorem dX12_room_39 : decode cX12_room 39 = .ok (.iload_n 1, 1) := by decide +kernel
theorem dX12_room_40 : decode cX12_room 40 = .ok (.iconst 2, 1) := by decide +kernel
theorem dX12_room_41 : decode cX12_room 41 = .ok (.if_icmp .ne 15, 3) := by decide +kernel
theorem dX12_room_44 : decode cX12_room 44 = .ok (.aload_n 0, 1) := by decide +kernel
theorem dX12_room_45 : decode cX12_room 45 = .ok (.iload 5, 2) := by decide +kernel
theorem dX12_room_47 : decode cX12_room 47 = .ok (.invokevirtual 180, 3) := by decide +kernel
theorem dX12_room_50 : decode cX12_room 50 = .ok (.ifCond .ne 18, 3) := by decide +kernel
theorem dX12_room_53 : decode cX12_room 53 = .ok (.goto 9, 3) := by decide +kernel
theorem dX12_room_56 : decode cX12_room 56 = .ok (.iload 5, 2) := by decide +kernel
theorem dX12_room_58 : decode cX12_room 58 = .ok (.iconst (-1), 1) := by decide +kernel
theorem dX12_room_59 : decode cX12_room 59 = .ok (.if_icmp .eq 9, 3) := by decide +kernel
theorem dX12_room_62 : decode cX12_room 62 = .ok (.aload_n 0, 1) := by decide +kernel
theorem dX12_room_63 : decode cX12_room 63 = .ok (.iconst (-1), 1) := by decide +kernel
theorem dX12_room_64 : decode cX12_room 64 = .ok (.invokevirtual 151, 3) := by decide +kernel
theorem dX12_room_67 : decode cX12_room 67 = .ok (.ireturn, 1) := by decide +kernel
theorem dX12_room_68 : decode cX12_room 68 = .ok (.aload_n 0, 1) := by decide +kernel
theorem dX12_room_69 : decode cX12_room 69 = .ok (.getfield 31, 3) := by decide +kernel
theorem dX12_room_72 : decode cX12_room 72 = .ok (.iconst 0, 1) := by decide +kernel
theorem dX12_room_73 : decode cX12_room 73 = .ok (.iaload, 1) := by decide +kernel
theorem dX12_room_74 : decode cX12_room 74 = .ok (.bipush 8, 2) := by decide +kernel
theorem dX12_room_76 : decode cX12_room 76 = .ok (.if_icmp .ne 10, 3) := by decide +kernel
theorem dX12_room_79 : decode cX12_room 79 = .ok (.aload_n 0, 1) := by decide +kernel
theorem dX12_room_80 : decode cX12_room 80 = .ok (.bipush (-6), 2) := by decide +kernel
theorem dX12_room_82 : decode cX12_room 82 = .ok (.invokevirtual 151, 3) := by decide +kernel
theorem dX12_room_85 : decode cX12_room 85 = .ok (.ireturn, 1) := by decide +kernel
theorem dX12_room_86 : decode cX12_room 86 = .ok (.aload_n 0, 1) := by decide +kernel
theorem dX12_room_87 : decode cX12_room 87 = .ok (.getfield 31, 3) := by decide +kernel
theorem dX12_room_90 : decode cX12_room 90 = .ok (.iconst 0, 1) := by decide +kernel
theorem dX12_room_91 : decode cX12_room 91 = .ok (.iaload, 1) := by decide +kernel
theorem dX12_room_92 : decode cX12_room 92 = .ok (.istore 6, 2) := by decide +kernel
theorem dX12_room_94 : decode cX12_room 94 = .ok (.aload_n 0, 1) := by decide +kernel
theorem dX12_room_95 : decode cX12_room 95 = .ok (.getfield 40, 3) := by decide +kernel
theorem dX12_room_98 : decode cX12_room 98 = .ok (.iload 6, 2) := by decide +kernel
theorem dX12_room_100 : decode cX12_room 100 = .ok (.iload_n 1, 1) := by decide +kernel
theorem dX12_room_101 : decode cX12_room 101 = .ok (.iastore, 1) := by decide +kernel
theorem dX12_room_102 : decode cX12_room 102 = .ok (.aload_n 0, 1) := by decide +kernel
theorem dX12_room_103 : decode cX12_room 103 = .ok (.getfield 43, 3) := by decide +kernel
theorem dX12_room_106 : decode cX12_room 106 = .ok (.iload 6, 2) := by decide +kernel
theorem dX12_room_108 : decode cX12_room 108 = .ok (.iload_n 2, 1) := by decide +kernel
theorem dX12_room_109 : decode cX12_room 109 = .ok (.iastore, 1) := by decide +kernel
theorem dX12_room_110 : decode cX12_room 110 = .ok (.aload_n 0, 1) := by decide +kernel
theorem dX12_room_111 : decode cX12_room 111 = .ok (.getfield 46, 3) := by decide +kernel
theorem dX12_room_114 : decode cX12_room 114 = .ok (.iload 6, 2) := by decide +kernel
theorem dX12_room_116 : decode cX12_room 116 = .ok (.iload_n 3, 1) := by decide +kernel
theorem dX12_room_117 : decode cX12_room 117 = .ok (.iastore, 1) := by decide +kernel
theorem dX12_room_118 : decode cX12_room 118 = .ok (.aload_n 0, 1) := by decide +kernel
theorem dX12_room_119 : decode cX12_room 119 = .ok (.getfield 49, 3) := by decide +kernel
theorem dX12_room_122 : decode cX12_room 122 = .ok (.iload 6, 2) := by decide +kernel
theorem dX12_room_124 : decode cX12_room 124 = .ok (.iload 4, 2) := by decide +kernel
theorem dX12_room_126 : decode cX12_room 126 = .ok (.iastore, 1) := by decide +kernel
theorem dX12_room_127 : decode cX12_room 127 = .ok (.aload_n 0, 1) := by decide +kernel
theorem dX12_room_128 : decode cX12_room 128 = .ok (.getfield 52, 3) := by decide +kernel
theorem dX12_room_131 : decode cX12_room 131 = .ok (.iload 6, 2) := by decide +kernel
theorem dX12_room_133 : decode cX12_room 133 = .ok (.iload 5, 2) := by decide +kernel
theorem dX12_room_135 : decode cX12_room 135 = .ok (.iastore, 1) := by decide +kernel
theorem dX12_room_136 : decode cX12_room 136 = .ok (.aload_n 0, 1) := by decide +kernel
theorem dX12_room_137 : decode cX12_room 137 = .ok (.getfield 55, 3) := by decide +kernel
theorem dX12_room_140 : decode cX12_room 140 = .ok (.iload 6, 2) := by decide +kernel
theorem dX12_room_142 : decode cX12_room 142 = .ok (.iconst 0, 1) := by decide +kernel
theorem dX12_room_143 : decode cX12_room 143 = .ok (.iastore, 1) := by decide +kernel
theorem dX12_room_144 : decode cX12_room 144 = .ok (.aload_n 0, 1) := by decide +kernel
theorem dX12_room_145 : decode cX12_room 145 = .ok (.getfield 58, 3) := by decide +kernel
theorem dX12_room_148 : decode cX12_room 148 = .ok (.iload 6, 2) := by decide +kernel
theorem dX12_room_150 : decode cX12_room 150 = .ok (.iconst 0, 1) := by decide +kernel
theorem dX12_room_151 : decode cX12_room 151 = .ok (.iastore, 1) := by decide +kernel
theorem dX12_room_152 : decode cX12_room 152 = .ok (.iconst 0, 1) := by decide +kernel
theorem dX12_room_153 : decode cX12_room 153 = .ok (.istore 7, 2) := by decide +kernel
theorem dX12_room_155 : decode cX12_room 155 = .ok (.iload 7, 2) := by decide +kernel
theorem dX12_room_157 : decode cX12_room 157 = .ok (.bipush 30, 2) := by decide +kernel
theorem dX12_room_159 : decode cX12_room 159 = .ok (.if_icmp .ge 23, 3) := by decide +kernel
theorem dX12_room_162 : decode cX12_room 162 = .ok (.aload_n 0, 1) := by decide +kernel
theorem dX12_room_163 : decode cX12_room 163 = .ok (.getfield 61, 3) := by decide +kernel
theorem dX12_room_166 : decode cX12_room 166 = .ok (.bipush 30, 2) := by decide +kernel
theorem dX12_room_168 : decode cX12_room 168 = .ok (.iload 6, 2) := by decide +kernel
theorem dX12_room_170 : decode cX12_room 170 = .ok (.imul, 1) := by decide +kernel
theorem dX12_room_171 : decode cX12_room 171 = .ok (.iload 7, 2) := by decide +kernel
theorem dX12_room_173 : decode cX12_room 173 = .ok (.iadd, 1) := by decide +kernel
theorem dX12_room_174 : decode cX12_room 174 = .ok (.iconst 0, 1) := by decide +kernel
theorem dX12_room_175 : decode cX12_room 175 = .ok (.bastore, 1) := by decide +kernel
theorem dX12_room_176 : decode cX12_room 176 = .ok (.iinc 7 1, 3) := by decide +kernel
theorem dX12_room_179 : decode cX12_room 179 = .ok (.goto (-24), 3) := by decide +kernel
theorem dX12_room_182 : decode cX12_room 182 = .ok (.iconst 0, 1) := by decide +kernel
theorem dX12_room_183 : decode cX12_room 183 = .ok (.istore 7, 2) := by decide +kernel
theorem dX12_room_185 : decode cX12_room 185 = .ok (.iload 7, 2) := by decide +kernel
theorem dX12_room_187 : decode cX12_room 187 = .ok (.sipush 180, 3) := by decide +kernel
theorem dX12_room_190 : decode cX12_room 190 = .ok (.if_icmp .ge 24, 3) := by decide +kernel
theorem dX12_room_193 : decode cX12_room 193 = .ok (.aload_n 0, 1) := by decide +kernel
theorem dX12_room_194 : decode cX12_room 194 = .ok (.getfield 64, 3) := by decide +kernel
theorem dX12_room_197 : decode cX12_room 197 = .ok (.sipush 180, 3) := by decide +kernel
theorem dX12_room_200 : decode cX12_room 200 = .ok (.iload 6, 2) := by decide +kernel
theorem dX12_room_202 : decode cX12_room 202 = .ok (.imul, 1) := by decide +kernel
theorem dX12_room_203 : decode cX12_room 203 = .ok (.iload 7, 2) := by decide +kernel
theorem dX12_room_205 : decode cX12_room 205 = .ok (.iadd, 1) := by decide +kernel
theorem dX12_room_206 : decode cX12_room 206 = .ok (.iconst 0, 1) := by decide +kernel
theorem dX12_room_207 : decode cX12_room 207 = .ok (.iastore, 1) := by decide +kernel
theorem dX12_room_208 : decode cX12_room 208 = .ok (.iinc 7 1, 3) := by decide +kernel
theorem dX12_room_211 : decode cX12_room 211 = .ok (.goto (-26), 3) := by decide +kernel
theorem dX12_room_214 : decode cX12_room 214 = .ok (.aload_n 0, 1) := by decide +kernel
theorem dX12_room_215 : decode cX12_room 215 = .ok (.getfield 31, 3) := by decide +kernel
theorem dX12_room_218 : decode cX12_room 218 = .ok (.iconst 0, 1) := by decide +kernel
theorem dX12_room_219 : decode cX12_room 219 = .ok (.dup2, 1) := by decide +kernel
theorem dX12_room_220 : decode cX12_room 220 = .ok (.iaload, 1) := by decide +kernel
theorem dX12_room_221 : decode cX12_room 221 = .ok (.iconst 1, 1) := by decide +kernel
theorem dX12_room_222 : decode cX12_room 222 = .ok (.iadd, 1) := by decide +kernel
theorem dX12_room_223 : decode cX12_room 223 = .ok (.iastore, 1) := by decide +kernel
theorem dX12_room_224 : decode cX12_room 224 = .ok (.aload_n 0, 1) := by decide +kernel
theorem dX12_room_225 : decode cX12_room 225 = .ok (.iload 6, 2) := by decide +kernel
theorem dX12_room_227 : decode cX12_room 227 = .ok (.invokevirtual 151, 3) := by decide +kernel
theorem dX12_room_230 : decode cX12_room 230 = .ok (.ireturn, 1) := by decide +kernel
theorem dX12_countOf_0 : decode cX12_countOf 0 = .ok (.iconst 0, 1) := by decide +kernel
theorem dX12_countOf_1 : decode cX12_countOf 1 = .ok (.istore_n 3, 1) := by decide +kernel
theorem dX12_countOf_2 : decode cX12_countOf 2 = .ok (.iconst 0, 1) := by decide +kernel
theorem dX12_countOf_3 : decode cX12_countOf 3 = .ok (.istore 4, 2) := by decide +kernel
theorem dX12_countOf_5 : decode cX12_countOf 5 = .ok (.iload 4, 2) := by decide +kernel
theorem dX12_countOf_7 : decode cX12_countOf 7 = .ok (.aload_n 0, 1) := by decide +kernel
theorem dX12_countOf_8 : decode cX12_countOf 8 = .ok (.getfield 34, 3) := by decide +kernel
theorem dX12_countOf_11 : decode cX12_countOf 11 = .ok (.iconst 0, 1) := by decide +kernel
theorem dX12_countOf_12 : decode cX12_countOf 12 = .ok (.iaload, 1) := by decide +kernel
theorem dX12_countOf_13 : decode cX12_countOf 13 = .ok (.if_icmp .ge 44, 3) := by decide +kernel
theorem dX12_countOf_16 : decode cX12_countOf 16 = .ok (.iload_n 3, 1) := by decide +kernel
theorem dX12_countOf_17 : decode cX12_countOf 17 = .ok (.aload_n 0, 1) := by decide +kernel
theorem dX12_countOf_18 : decode cX12_countOf 18 = .ok (.getfield 73, 3) := by decide +kernel
theorem dX12_countOf_21 : decode cX12_countOf 21 = .ok (.iload 4, 2) := by decide +kernel
theorem dX12_countOf_23 : decode cX12_countOf 23 = .ok (.iaload, 1) := by decide +kernel
theorem dX12_countOf_24 : decode cX12_countOf 24 = .ok (.iload_n 1, 1) := by decide +kernel
theorem dX12_countOf_25 : decode cX12_countOf 25 = .ok (.if_icmp .ne 23, 3) := by decide +kernel
theorem dX12_countOf_28 : decode cX12_countOf 28 = .ok (.iload_n 2, 1) := by decide +kernel
theorem dX12_countOf_29 : decode cX12_countOf 29 = .ok (.iconst (-1), 1) := by decide +kernel
theorem dX12_countOf_30 : decode cX12_countOf 30 = .ok (.if_icmp .eq 14, 3) := by decide +kernel
theorem dX12_countOf_33 : decode cX12_countOf 33 = .ok (.aload_n 0, 1) := by decide +kernel
theorem dX12_countOf_34 : decode cX12_countOf 34 = .ok (.getfield 67, 3) := by decide +kernel
theorem dX12_countOf_37 : decode cX12_countOf 37 = .ok (.iload 4, 2) := by decide +kernel
theorem dX12_countOf_39 : decode cX12_countOf 39 = .ok (.iaload, 1) := by decide +kernel
theorem dX12_countOf_40 : decode cX12_countOf 40 = .ok (.iload_n 2, 1) := by decide +kernel
theorem dX12_countOf_41 : decode cX12_countOf 41 = .ok (.if_icmp .ne 7, 3) := by decide +kernel
theorem dX12_countOf_44 : decode cX12_countOf 44 = .ok (.iconst 1, 1) := by decide +kernel
theorem dX12_countOf_45 : decode cX12_countOf 45 = .ok (.goto 4, 3) := by decide +kernel
theorem dX12_countOf_48 : decode cX12_countOf 48 = .ok (.iconst 0, 1) := by decide +kernel
theorem dX12_countOf_49 : decode cX12_countOf 49 = .ok (.iadd, 1) := by decide +kernel
theorem dX12_countOf_50 : decode cX12_countOf 50 = .ok (.istore_n 3, 1) := by decide +kernel
theorem dX12_countOf_51 : decode cX12_countOf 51 = .ok (.iinc 4 1, 3) := by decide +kernel
theorem dX12_countOf_54 : decode cX12_countOf 54 = .ok (.goto (-49), 3) := by decide +kernel
theorem dX12_countOf_57 : decode cX12_countOf 57 = .ok (.iload_n 3, 1) := by decide +kernel
theorem dX12_countOf_58 : decode cX12_countOf 58 = .ok (.ireturn, 1) := by decide +kernel
theorem dX12_warmth_0 : decode cX12_warmth 0 = .ok (.iload_n 1, 1) := by decide +kernel
theorem dX12_warmth_1 : decode cX12_warmth 1 = .ok (.istore_n 3, 1) := by decide +kernel
theorem dX12_warmth_2 : decode cX12_warmth 2 = .ok (.iconst 0, 1) := by decide +kernel
theorem dX12_warmth_3 : decode cX12_warmth 3 = .ok (.istore 4, 2) := by decide +kernel
theorem dX12_warmth_5 : decode cX12_warmth 5 = .ok (.aload_n 0, 1) := by decide +kernel
theorem dX12_warmth_6 : decode cX12_warmth 6 = .ok (.getfield 40, 3) := by decide +kernel
theorem dX12_warmth_9 : decode cX12_warmth 9 = .ok (.iload_n 3, 1) := by decide +kernel
theorem dX12_warmth_10 : decode cX12_warmth 10 = .ok (.iaload, 1) := by decide +kernel
theorem dX12_warmth_11 : decode cX12_warmth 11 = .ok (.iconst 2, 1) := by decide +kernel
theorem dX12_warmth_12 : decode cX12_warmth 12 = .ok (.if_icmp .ne 26, 3) := by decide +kernel
theorem dX12_warmth_15 : decode cX12_warmth 15 = .ok (.iload 4, 2) := by decide +kernel
theorem dX12_warmth_17 : decode cX12_warmth 17 = .ok (.iconst 2, 1) := by decide +kernel
theorem dX12_warmth_18 : decode cX12_warmth 18 = .ok (.aload_n 0, 1) := by decide +kernel
theorem dX12_warmth_19 : decode cX12_warmth 19 = .ok (.iload_n 3, 1) := by decide +kernel
theorem dX12_warmth_20 : decode cX12_warmth 20 = .ok (.iconst 2, 1) := by decide +kernel
theorem dX12_warmth_21 : decode cX12_warmth 21 = .ok (.invokevirtual 184, 3) := by decide +kernel
theorem dX12_warmth_24 : decode cX12_warmth 24 = .ok (.imul, 1) := by decide +kernel
theorem dX12_warmth_25 : decode cX12_warmth 25 = .ok (.iadd, 1) := by decide +kernel
theorem dX12_warmth_26 : decode cX12_warmth 26 = .ok (.istore 4, 2) := by decide +kernel
theorem dX12_warmth_28 : decode cX12_warmth 28 = .ok (.aload_n 0, 1) := by decide +kernel
theorem dX12_warmth_29 : decode cX12_warmth 29 = .ok (.getfield 52, 3) := by decide +kernel
theorem dX12_warmth_32 : decode cX12_warmth 32 = .ok (.iload_n 3, 1) := by decide +kernel
theorem dX12_warmth_33 : decode cX12_warmth 33 = .ok (.iaload, 1) := by decide +kernel
theorem dX12_warmth_34 : decode cX12_warmth 34 = .ok (.istore_n 3, 1) := by decide +kernel
theorem dX12_warmth_35 : decode cX12_warmth 35 = .ok (.goto (-30), 3) := by decide +kernel
theorem dX12_warmth_38 : decode cX12_warmth 38 = .ok (.iload 4, 2) := by decide +kernel
theorem dX12_warmth_40 : decode cX12_warmth 40 = .ok (.iconst 2, 1) := by decide +kernel
theorem dX12_warmth_41 : decode cX12_warmth 41 = .ok (.aload_n 0, 1) := by decide +kernel
theorem dX12_warmth_42 : decode cX12_warmth 42 = .ok (.iload_n 3, 1) := by decide +kernel
theorem dX12_warmth_43 : decode cX12_warmth 43 = .ok (.iconst 2, 1) := by decide +kernel
theorem dX12_warmth_44 : decode cX12_warmth 44 = .ok (.invokevirtual 184, 3) := by decide +kernel
theorem dX12_warmth_47 : decode cX12_warmth 47 = .ok (.imul, 1) := by decide +kernel
theorem dX12_warmth_48 : decode cX12_warmth 48 = .ok (.iadd, 1) := by decide +kernel
theorem dX12_warmth_49 : decode cX12_warmth 49 = .ok (.istore 4, 2) := by decide +kernel
theorem dX12_warmth_51 : decode cX12_warmth 51 = .ok (.aload_n 0, 1) := by decide +kernel
theorem dX12_warmth_52 : decode cX12_warmth 52 = .ok (.aload_n 0, 1) := by decide +kernel
theorem dX12_warmth_53 : decode cX12_warmth 53 = .ok (.getfield 40, 3) := by decide +kernel
theorem dX12_warmth_56 : decode cX12_warmth 56 = .ok (.iload_n 3, 1) := by decide +kernel
theorem dX12_warmth_57 : decode cX12_warmth 57 = .ok (.iaload, 1) := by decide +kernel
theorem dX12_warmth_58 : decode cX12_warmth 58 = .ok (.iload_n 2, 1) := by decide +kernel
theorem dX12_warmth_59 : decode cX12_warmth 59 = .ok (.invokevirtual 187, 3) := by decide +kernel
theorem dX12_warmth_62 : decode cX12_warmth 62 = .ok (.iload 4, 2) := by decide +kernel
theorem dX12_warmth_64 : decode cX12_warmth 64 = .ok (.isub, 1) := by decide +kernel
theorem dX12_warmth_65 : decode cX12_warmth 65 = .ok (.ireturn, 1) := by decide +kernel
theorem dX12_warmthOf_0 : decode cX12_warmthOf 0 = .ok (.aload_n 0, 1) := by decide +kernel
theorem dX12_warmthOf_1 : decode cX12_warmthOf 1 = .ok (.iload_n 2, 1) := by decide +kernel
theorem dX12_warmthOf_2 : decode cX12_warmthOf 2 = .ok (.invokevirtual 156, 3) := by decide +kernel
theorem dX12_warmthOf_5 : decode cX12_warmthOf 5 = .ok (.istore_n 3, 1) := by decide +kernel
theorem dX12_warmthOf_6 : decode cX12_warmthOf 6 = .ok (.iload_n 1, 1) := by decide +kernel
theorem dX12_warmthOf_7 : decode cX12_warmthOf 7 = .ok (.iconst 1, 1) := by decide +kernel
theorem dX12_warmthOf_8 : decode cX12_warmthOf 8 = .ok (.if_icmp .eq 8, 3) := by decide +kernel
theorem dX12_warmthOf_11 : decode cX12_warmthOf 11 = .ok (.iload_n 1, 1) := by decide +kernel
theorem dX12_warmthOf_12 : decode cX12_warmthOf 12 = .ok (.iconst 5, 1) := by decide +kernel
theorem dX12_warmthOf_13 : decode cX12_warmthOf 13 = .ok (.if_icmp .ne 12, 3) := by decide +kernel
theorem dX12_warmthOf_16 : decode cX12_warmthOf 16 = .ok (.iload_n 3, 1) := by decide +kernel
theorem dX12_warmthOf_17 : decode cX12_warmthOf 17 = .ok (.bipush 80, 2) := by decide +kernel
theorem dX12_warmthOf_19 : decode cX12_warmthOf 19 = .ok (.iadd, 1) := by decide +kernel
theorem dX12_warmthOf_20 : decode cX12_warmthOf 20 = .ok (.iconst 2, 1) := by decide +kernel
theorem dX12_warmthOf_21 : decode cX12_warmthOf 21 = .ok (.idiv, 1) := by decide +kernel
theorem dX12_warmthOf_22 : decode cX12_warmthOf 22 = .ok (.goto 28, 3) := by decide +kernel
theorem dX12_warmthOf_25 : decode cX12_warmthOf 25 = .ok (.iload_n 1, 1) := by decide +kernel
theorem dX12_warmthOf_26 : decode cX12_warmthOf 26 = .ok (.iconst 3, 1) := by decide +kernel
theorem dX12_warmthOf_27 : decode cX12_warmthOf 27 = .ok (.if_icmp .ne 10, 3) := by decide +kernel
theorem dX12_warmthOf_30 : decode cX12_warmthOf 30 = .ok (.iload_n 3, 1) := by decide +kernel
theorem dX12_warmthOf_31 : decode cX12_warmthOf 31 = .ok (.bipush 10, 2) := by decide +kernel
theorem dX12_warmthOf_33 : decode cX12_warmthOf 33 = .ok (.iadd, 1) := by decide +kernel
theorem dX12_warmthOf_34 : decode cX12_warmthOf 34 = .ok (.goto 16, 3) := by decide +kernel
theorem dX12_warmthOf_37 : decode cX12_warmthOf 37 = .ok (.iload_n 1, 1) := by decide +kernel
theorem dX12_warmthOf_38 : decode cX12_warmthOf 38 = .ok (.iconst 4, 1) := by decide +kernel
theorem dX12_warmthOf_39 : decode cX12_warmthOf 39 = .ok (.if_icmp .ne 10, 3) := by decide +kernel
theorem dX12_warmthOf_42 : decode cX12_warmthOf 42 = .ok (.iload_n 3, 1) := by decide +kernel
theorem dX12_warmthOf_43 : decode cX12_warmthOf 43 = .ok (.bipush 30, 2) := by decide +kernel
theorem dX12_warmthOf_45 : decode cX12_warmthOf 45 = .ok (.iadd, 1) := by decide +kernel
theorem dX12_warmthOf_46 : decode cX12_warmthOf 46 = .ok (.goto 4, 3) := by decide +kernel
