theorem dX9_choose_251 : decode cX9_choose 251 = .ok (.iadd, 1) := by decide +kernel
theorem dX9_choose_252 : decode cX9_choose 252 = .ok (.iaload, 1) := by decide +kernel
theorem dX9_choose_253 : decode cX9_choose 253 = .ok (.iastore, 1) := by decide +kernel
theorem dX9_choose_254 : decode cX9_choose 254 = .ok (.iinc 3 1, 3) := by decide +kernel
theorem dX9_choose_257 : decode cX9_choose 257 = .ok (.goto (-41), 3) := by decide +kernel
theorem dX9_choose_260 : decode cX9_choose 260 = .ok (.aload_n 0, 1) := by decide +kernel
theorem dX9_choose_261 : decode cX9_choose 261 = .ok (.getfield 28, 3) := by decide +kernel
theorem dX9_choose_264 : decode cX9_choose 264 = .ok (.iload_n 1, 1) := by decide +kernel
theorem dX9_choose_265 : decode cX9_choose 265 = .ok (.aload_n 0, 1) := by decide +kernel
theorem dX9_choose_266 : decode cX9_choose 266 = .ok (.getfield 31, 3) := by decide +kernel
theorem dX9_choose_269 : decode cX9_choose 269 = .ok (.iload_n 1, 1) := by decide +kernel
theorem dX9_choose_270 : decode cX9_choose 270 = .ok (.iaload, 1) := by decide +kernel
theorem dX9_choose_271 : decode cX9_choose 271 = .ok (.iastore, 1) := by decide +kernel
theorem dX9_choose_272 : decode cX9_choose 272 = .ok (.aload_n 0, 1) := by decide +kernel
theorem dX9_choose_273 : decode cX9_choose 273 = .ok (.getfield 37, 3) := by decide +kernel
theorem dX9_choose_276 : decode cX9_choose 276 = .ok (.iload_n 1, 1) := by decide +kernel
theorem dX9_choose_277 : decode cX9_choose 277 = .ok (.iconst 4, 1) := by decide +kernel
theorem dX9_choose_278 : decode cX9_choose 278 = .ok (.iastore, 1) := by decide +kernel
theorem dX9_choose_279 : decode cX9_choose 279 = .ok (.aload_n 0, 1) := by decide +kernel
theorem dX9_choose_280 : decode cX9_choose 280 = .ok (.getfield 49, 3) := by decide +kernel
theorem dX9_choose_283 : decode cX9_choose 283 = .ok (.iload_n 1, 1) := by decide +kernel
theorem dX9_choose_284 : decode cX9_choose 284 = .ok (.iconst 1, 1) := by decide +kernel
theorem dX9_choose_285 : decode cX9_choose 285 = .ok (.iload_n 1, 1) := by decide +kernel
theorem dX9_choose_286 : decode cX9_choose 286 = .ok (.ishl, 1) := by decide +kernel
theorem dX9_choose_287 : decode cX9_choose 287 = .ok (.iastore, 1) := by decide +kernel
theorem dX9_choose_288 : decode cX9_choose 288 = .ok (.aload_n 0, 1) := by decide +kernel
theorem dX9_choose_289 : decode cX9_choose 289 = .ok (.iload_n 1, 1) := by decide +kernel
theorem dX9_choose_290 : decode cX9_choose 290 = .ok (.aload_n 0, 1) := by decide +kernel
theorem dX9_choose_291 : decode cX9_choose 291 = .ok (.getfield 40, 3) := by decide +kernel
theorem dX9_choose_294 : decode cX9_choose 294 = .ok (.iload_n 1, 1) := by decide +kernel
theorem dX9_choose_295 : decode cX9_choose 295 = .ok (.iaload, 1) := by decide +kernel
theorem dX9_choose_296 : decode cX9_choose 296 = .ok (.bipush 9, 2) := by decide +kernel
theorem dX9_choose_298 : decode cX9_choose 298 = .ok (.aload_n 0, 1) := by decide +kernel
theorem dX9_choose_299 : decode cX9_choose 299 = .ok (.getfield 31, 3) := by decide +kernel
theorem dX9_choose_302 : decode cX9_choose 302 = .ok (.iload_n 1, 1) := by decide +kernel
theorem dX9_choose_303 : decode cX9_choose 303 = .ok (.iaload, 1) := by decide +kernel
theorem dX9_choose_304 : decode cX9_choose 304 = .ok (.iconst 0, 1) := by decide +kernel
theorem dX9_choose_305 : decode cX9_choose 305 = .ok (.aload_n 0, 1) := by decide +kernel
theorem dX9_choose_306 : decode cX9_choose 306 = .ok (.getfield 22, 3) := by decide +kernel
theorem dX9_choose_309 : decode cX9_choose 309 = .ok (.iload_n 1, 1) := by decide +kernel
theorem dX9_choose_310 : decode cX9_choose 310 = .ok (.iaload, 1) := by decide +kernel
theorem dX9_choose_311 : decode cX9_choose 311 = .ok (.iconst 0, 1) := by decide +kernel
theorem dX9_choose_312 : decode cX9_choose 312 = .ok (.invokevirtual 126, 3) := by decide +kernel
theorem dX9_choose_315 : decode cX9_choose 315 = .ok (.aload_n 0, 1) := by decide +kernel
theorem dX9_choose_316 : decode cX9_choose 316 = .ok (.getfield 49, 3) := by decide +kernel
theorem dX9_choose_319 : decode cX9_choose 319 = .ok (.iload_n 1, 1) := by decide +kernel
theorem dX9_choose_320 : decode cX9_choose 320 = .ok (.iaload, 1) := by decide +kernel
theorem dX9_choose_321 : decode cX9_choose 321 = .ok (.aload_n 0, 1) := by decide +kernel
theorem dX9_choose_322 : decode cX9_choose 322 = .ok (.getfield 40, 3) := by decide +kernel
theorem dX9_choose_325 : decode cX9_choose 325 = .ok (.iload_n 1, 1) := by decide +kernel
theorem dX9_choose_326 : decode cX9_choose 326 = .ok (.iaload, 1) := by decide +kernel
theorem dX9_choose_327 : decode cX9_choose 327 = .ok (.if_icmp .ne 8, 3) := by decide +kernel
theorem dX9_choose_330 : decode cX9_choose 330 = .ok (.aload_n 0, 1) := by decide +kernel
theorem dX9_choose_331 : decode cX9_choose 331 = .ok (.iload_n 1, 1) := by decide +kernel
theorem dX9_choose_332 : decode cX9_choose 332 = .ok (.invokevirtual 164, 3) := by decide +kernel
theorem dX9_choose_335 : decode cX9_choose 335 = .ok (.return_, 1) := by decide +kernel
theorem dX9_found_0 : decode cX9_found 0 = .ok (.aload_n 0, 1) := by decide +kernel
theorem dX9_found_1 : decode cX9_found 1 = .ok (.getfield 40, 3) := by decide +kernel
theorem dX9_found_4 : decode cX9_found 4 = .ok (.iload_n 1, 1) := by decide +kernel
theorem dX9_found_5 : decode cX9_found 5 = .ok (.iaload, 1) := by decide +kernel
theorem dX9_found_6 : decode cX9_found 6 = .ok (.istore_n 2, 1) := by decide +kernel
theorem dX9_found_7 : decode cX9_found 7 = .ok (.aload_n 0, 1) := by decide +kernel
theorem dX9_found_8 : decode cX9_found 8 = .ok (.getfield 16, 3) := by decide +kernel
theorem dX9_found_11 : decode cX9_found 11 = .ok (.iload_n 1, 1) := by decide +kernel
theorem dX9_found_12 : decode cX9_found 12 = .ok (.iaload, 1) := by decide +kernel
theorem dX9_found_13 : decode cX9_found 13 = .ok (.iload_n 2, 1) := by decide +kernel
theorem dX9_found_14 : decode cX9_found 14 = .ok (.iconst (-1), 1) := by decide +kernel
theorem dX9_found_15 : decode cX9_found 15 = .ok (.ixor, 1) := by decide +kernel
theorem dX9_found_16 : decode cX9_found 16 = .ok (.iand, 1) := by decide +kernel
theorem dX9_found_17 : decode cX9_found 17 = .ok (.istore_n 3, 1) := by decide +kernel
theorem dX9_found_18 : decode cX9_found 18 = .ok (.aload_n 0, 1) := by decide +kernel
theorem dX9_found_19 : decode cX9_found 19 = .ok (.iload_n 1, 1) := by decide +kernel
theorem dX9_found_20 : decode cX9_found 20 = .ok (.iload_n 2, 1) := by decide +kernel
theorem dX9_found_21 : decode cX9_found 21 = .ok (.bipush 11, 2) := by decide +kernel
theorem dX9_found_23 : decode cX9_found 23 = .ok (.aload_n 0, 1) := by decide +kernel
theorem dX9_found_24 : decode cX9_found 24 = .ok (.getfield 31, 3) := by decide +kernel
theorem dX9_found_27 : decode cX9_found 27 = .ok (.iload_n 1, 1) := by decide +kernel
theorem dX9_found_28 : decode cX9_found 28 = .ok (.iaload, 1) := by decide +kernel
theorem dX9_found_29 : decode cX9_found 29 = .ok (.iload_n 2, 1) := by decide +kernel
theorem dX9_found_30 : decode cX9_found 30 = .ok (.iconst 0, 1) := by decide +kernel
theorem dX9_found_31 : decode cX9_found 31 = .ok (.iconst 0, 1) := by decide +kernel
theorem dX9_found_32 : decode cX9_found 32 = .ok (.invokevirtual 126, 3) := by decide +kernel
theorem dX9_found_35 : decode cX9_found 35 = .ok (.aload_n 0, 1) := by decide +kernel
theorem dX9_found_36 : decode cX9_found 36 = .ok (.iload_n 1, 1) := by decide +kernel
theorem dX9_found_37 : decode cX9_found 37 = .ok (.iload_n 3, 1) := by decide +kernel
theorem dX9_found_38 : decode cX9_found 38 = .ok (.bipush 12, 2) := by decide +kernel
theorem dX9_found_40 : decode cX9_found 40 = .ok (.iconst 0, 1) := by decide +kernel
theorem dX9_found_41 : decode cX9_found 41 = .ok (.iconst 0, 1) := by decide +kernel
theorem dX9_found_42 : decode cX9_found 42 = .ok (.iconst 0, 1) := by decide +kernel
theorem dX9_found_43 : decode cX9_found 43 = .ok (.iconst 0, 1) := by decide +kernel
theorem dX9_found_44 : decode cX9_found 44 = .ok (.invokevirtual 126, 3) := by decide +kernel
theorem dX9_found_47 : decode cX9_found 47 = .ok (.aload_n 0, 1) := by decide +kernel
theorem dX9_found_48 : decode cX9_found 48 = .ok (.iload_n 1, 1) := by decide +kernel
theorem dX9_found_49 : decode cX9_found 49 = .ok (.aload_n 0, 1) := by decide +kernel
theorem dX9_found_50 : decode cX9_found 50 = .ok (.getfield 31, 3) := by decide +kernel
theorem dX9_found_53 : decode cX9_found 53 = .ok (.iload_n 1, 1) := by decide +kernel
theorem dX9_found_54 : decode cX9_found 54 = .ok (.iaload, 1) := by decide +kernel
theorem dX9_found_55 : decode cX9_found 55 = .ok (.iload_n 2, 1) := by decide +kernel
theorem dX9_found_56 : decode cX9_found 56 = .ok (.invokevirtual 167, 3) := by decide +kernel
theorem dX9_found_59 : decode cX9_found 59 = .ok (.return_, 1) := by decide +kernel
theorem dX9_begin_0 : decode cX9_begin 0 = .ok (.aload_n 0, 1) := by decide +kernel
theorem dX9_begin_1 : decode cX9_begin 1 = .ok (.getfield 13, 3) := by decide +kernel
theorem dX9_begin_4 : decode cX9_begin 4 = .ok (.iload_n 1, 1) := by decide +kernel
theorem dX9_begin_5 : decode cX9_begin 5 = .ok (.iload_n 2, 1) := by decide +kernel
theorem dX9_begin_6 : decode cX9_begin 6 = .ok (.iastore, 1) := by decide +kernel
theorem dX9_begin_7 : decode cX9_begin 7 = .ok (.aload_n 0, 1) := by decide +kernel
theorem dX9_begin_8 : decode cX9_begin 8 = .ok (.getfield 16, 3) := by decide +kernel
theorem dX9_begin_11 : decode cX9_begin 11 = .ok (.iload_n 1, 1) := by decide +kernel
theorem dX9_begin_12 : decode cX9_begin 12 = .ok (.iload_n 3, 1) := by decide +kernel
theorem dX9_begin_13 : decode cX9_begin 13 = .ok (.iastore, 1) := by decide +kernel
theorem dX9_begin_14 : decode cX9_begin 14 = .ok (.aload_n 0, 1) := by decide +kernel
theorem dX9_begin_15 : decode cX9_begin 15 = .ok (.iload_n 1, 1) := by decide +kernel
theorem dX9_begin_16 : decode cX9_begin 16 = .ok (.aload_n 0, 1) := by decide +kernel
theorem dX9_begin_17 : decode cX9_begin 17 = .ok (.getfield 22, 3) := by decide +kernel
theorem dX9_begin_20 : decode cX9_begin 20 = .ok (.iload_n 1, 1) := by decide +kernel
theorem dX9_begin_21 : decode cX9_begin 21 = .ok (.iaload, 1) := by decide +kernel
theorem dX9_begin_22 : decode cX9_begin 22 = .ok (.invokevirtual 132, 3) := by decide +kernel
theorem dX9_begin_25 : decode cX9_begin 25 = .ok (.aload_n 0, 1) := by decide +kernel
theorem dX9_begin_26 : decode cX9_begin 26 = .ok (.getfield 37, 3) := by decide +kernel
theorem dX9_begin_29 : decode cX9_begin 29 = .ok (.iload_n 1, 1) := by decide +kernel
theorem dX9_begin_30 : decode cX9_begin 30 = .ok (.iconst 0, 1) := by decide +kernel
theorem dX9_begin_31 : decode cX9_begin 31 = .ok (.iastore, 1) := by decide +kernel
theorem dX9_begin_32 : decode cX9_begin 32 = .ok (.aload_n 0, 1) := by decide +kernel
theorem dX9_begin_33 : decode cX9_begin 33 = .ok (.dup, 1) := by decide +kernel
theorem dX9_begin_34 : decode cX9_begin 34 = .ok (.getfield 171, 3) := by decide +kernel
theorem dX9_begin_37 : decode cX9_begin 37 = .ok (.iconst 1, 1) := by decide +kernel
theorem dX9_begin_38 : decode cX9_begin 38 = .ok (.iadd, 1) := by decide +kernel
theorem dX9_begin_39 : decode cX9_begin 39 = .ok (.putfield 171, 3) := by decide +kernel
theorem dX9_begin_42 : decode cX9_begin 42 = .ok (.iconst 0, 1) := by decide +kernel
theorem dX9_begin_43 : decode cX9_begin 43 = .ok (.istore 4, 2) := by decide +kernel
theorem dX9_begin_45 : decode cX9_begin 45 = .ok (.iload 4, 2) := by decide +kernel
theorem dX9_begin_47 : decode cX9_begin 47 = .ok (.aload_n 0, 1) := by decide +kernel
theorem dX9_begin_48 : decode cX9_begin 48 = .ok (.getfield 95, 3) := by decide +kernel
theorem dX9_begin_51 : decode cX9_begin 51 = .ok (.if_icmp .ge 27, 3) := by decide +kernel
theorem dX9_begin_54 : decode cX9_begin 54 = .ok (.aload_n 0, 1) := by decide +kernel
theorem dX9_begin_55 : decode cX9_begin 55 = .ok (.getfield 46, 3) := by decide +kernel
theorem dX9_begin_58 : decode cX9_begin 58 = .ok (.bipush 7, 2) := by decide +kernel
theorem dX9_begin_60 : decode cX9_begin 60 = .ok (.iload_n 1, 1) := by decide +kernel
theorem dX9_begin_61 : decode cX9_begin 61 = .ok (.imul, 1) := by decide +kernel
theorem dX9_begin_62 : decode cX9_begin 62 = .ok (.iload 4, 2) := by decide +kernel
theorem dX9_begin_64 : decode cX9_begin 64 = .ok (.iadd, 1) := by decide +kernel
theorem dX9_begin_65 : decode cX9_begin 65 = .ok (.aload_n 0, 1) := by decide +kernel
theorem dX9_begin_66 : decode cX9_begin 66 = .ok (.getfield 22, 3) := by decide +kernel
theorem dX9_begin_69 : decode cX9_begin 69 = .ok (.iload_n 1, 1) := by decide +kernel
theorem dX9_begin_70 : decode cX9_begin 70 = .ok (.iaload, 1) := by decide +kernel
theorem dX9_begin_71 : decode cX9_begin 71 = .ok (.iastore, 1) := by decide +kernel
theorem dX9_begin_72 : decode cX9_begin 72 = .ok (.iinc 4 1, 3) := by decide +kernel
theorem dX9_begin_75 : decode cX9_begin 75 = .ok (.goto (-30), 3) := by decide +kernel
theorem dX9_begin_78 : decode cX9_begin 78 = .ok (.return_, 1) := by decide +kernel
theorem dX9_come_0 : decode cX9_come 0 = .ok (.aload_n 0, 1) := by decide +kernel
theorem dX9_come_1 : decode cX9_come 1 = .ok (.getfield 74, 3) := by decide +kernel
theorem dX9_come_4 : decode cX9_come 4 = .ok (.iload_n 1, 1) := by decide +kernel
theorem dX9_come_5 : decode cX9_come 5 = .ok (.iaload, 1) := by decide +kernel
theorem dX9_come_6 : decode cX9_come 6 = .ok (.istore_n 2, 1) := by decide +kernel
theorem dX9_come_7 : decode cX9_come 7 = .ok (.aload_n 0, 1) := by decide +kernel
theorem dX9_come_8 : decode cX9_come 8 = .ok (.getfield 71, 3) := by decide +kernel
theorem dX9_come_11 : decode cX9_come 11 = .ok (.iload_n 1, 1) := by decide +kernel
theorem dX9_come_12 : decode cX9_come 12 = .ok (.iaload, 1) := by decide +kernel
theorem dX9_come_13 : decode cX9_come 13 = .ok (.istore_n 3, 1) := by decide +kernel
theorem dX9_come_14 : decode cX9_come 14 = .ok (.aload_n 0, 1) := by decide +kernel
theorem dX9_come_15 : decode cX9_come 15 = .ok (.getfield 77, 3) := by decide +kernel
theorem dX9_come_18 : decode cX9_come 18 = .ok (.iload_n 1, 1) := by decide +kernel
theorem dX9_come_19 : decode cX9_come 19 = .ok (.iaload, 1) := by decide +kernel
theorem dX9_come_20 : decode cX9_come 20 = .ok (.tableswitch 406 1 12 #[64, 122, 222, 302, 339, 376, 406, 406, 406, 406, 406, 396], 64) := by decide +kernel
theorem dX9_come_84 : decode cX9_come 84 = .ok (.aload_n 0, 1) := by decide +kernel
theorem dX9_come_85 : decode cX9_come 85 = .ok (.iload_n 2, 1) := by decide +kernel
theorem dX9_come_86 : decode cX9_come 86 = .ok (.invokevirtual 145, 3) := by decide +kernel
theorem dX9_come_89 : decode cX9_come 89 = .ok (.iload_n 2, 1) := by decide +kernel
theorem dX9_come_90 : decode cX9_come 90 = .ok (.if_icmp .ne 39, 3) := by decide +kernel
theorem dX9_come_93 : decode cX9_come 93 = .ok (.aload_n 0, 1) := by decide +kernel
theorem dX9_come_94 : decode cX9_come 94 = .ok (.iload_n 2, 1) := by decide +kernel
theorem dX9_come_95 : decode cX9_come 95 = .ok (.invokevirtual 142, 3) := by decide +kernel
theorem dX9_come_98 : decode cX9_come 98 = .ok (.ifCond .ne 31, 3) := by decide +kernel
theorem dX9_come_101 : decode cX9_come 101 = .ok (.aload_n 0, 1) := by decide +kernel
theorem dX9_come_102 : decode cX9_come 102 = .ok (.getfield 22, 3) := by decide +kernel
theorem dX9_come_105 : decode cX9_come 105 = .ok (.iload_n 2, 1) := by decide +kernel
theorem dX9_come_106 : decode cX9_come 106 = .ok (.iaload, 1) := by decide +kernel
theorem dX9_come_107 : decode cX9_come 107 = .ok (.bipush 60, 2) := by decide +kernel
theorem dX9_come_109 : decode cX9_come 109 = .ok (.if_icmp .ge 20, 3) := by decide +kernel
theorem dX9_come_112 : decode cX9_come 112 = .ok (.aload_n 0, 1) := by decide +kernel
theorem dX9_come_113 : decode cX9_come 113 = .ok (.iload_n 2, 1) := by decide +kernel
theorem dX9_come_114 : decode cX9_come 114 = .ok (.aload_n 0, 1) := by decide +kernel
theorem dX9_come_115 : decode cX9_come 115 = .ok (.getfield 89, 3) := by decide +kernel
theorem dX9_come_118 : decode cX9_come 118 = .ok (.bipush 60, 2) := by decide +kernel
theorem dX9_come_120 : decode cX9_come 120 = .ok (.iload_n 1, 1) := by decide +kernel
theorem dX9_come_121 : decode cX9_come 121 = .ok (.imul, 1) := by decide +kernel
theorem dX9_come_122 : decode cX9_come 122 = .ok (.iaload, 1) := by decide +kernel
theorem dX9_come_123 : decode cX9_come 123 = .ok (.invokevirtual 149, 3) := by decide +kernel
theorem dX9_come_126 : decode cX9_come 126 = .ok (.goto 307, 3) := by decide +kernel
theorem dX9_come_129 : decode cX9_come 129 = .ok (.aload_n 0, 1) := by decide +kernel
theorem dX9_come_130 : decode cX9_come 130 = .ok (.dup, 1) := by decide +kernel
theorem dX9_come_131 : decode cX9_come 131 = .ok (.getfield 108, 3) := by decide +kernel
theorem dX9_come_134 : decode cX9_come 134 = .ok (.iconst 1, 1) := by decide +kernel
theorem dX9_come_135 : decode cX9_come 135 = .ok (.iadd, 1) := by decide +kernel
theorem dX9_come_136 : decode cX9_come 136 = .ok (.putfield 108, 3) := by decide +kernel
theorem dX9_come_139 : decode cX9_come 139 = .ok (.goto 294, 3) := by decide +kernel
theorem dX9_come_142 : decode cX9_come 142 = .ok (.aload_n 0, 1) := by decide +kernel
theorem dX9_come_143 : decode cX9_come 143 = .ok (.getfield 80, 3) := by decide +kernel
theorem dX9_come_146 : decode cX9_come 146 = .ok (.iload_n 1, 1) := by decide +kernel
theorem dX9_come_147 : decode cX9_come 147 = .ok (.iaload, 1) := by decide +kernel
theorem dX9_come_148 : decode cX9_come 148 = .ok (.aload_n 0, 1) := by decide +kernel
theorem dX9_come_149 : decode cX9_come 149 = .ok (.getfield 13, 3) := by decide +kernel
theorem dX9_come_152 : decode cX9_come 152 = .ok (.iload_n 2, 1) := by decide +kernel
theorem dX9_come_153 : decode cX9_come 153 = .ok (.iaload, 1) := by decide +kernel
theorem dX9_come_154 : decode cX9_come 154 = .ok (.if_icmp .ne 279, 3) := by decide +kernel
theorem dX9_come_157 : decode cX9_come 157 = .ok (.aload_n 0, 1) := by decide +kernel
theorem dX9_come_158 : decode cX9_come 158 = .ok (.iload_n 2, 1) := by decide +kernel
theorem dX9_come_159 : decode cX9_come 159 = .ok (.invokevirtual 142, 3) := by decide +kernel
theorem dX9_come_162 : decode cX9_come 162 = .ok (.ifCond .ne 271, 3) := by decide +kernel
theorem dX9_come_165 : decode cX9_come 165 = .ok (.aload_n 0, 1) := by decide +kernel
theorem dX9_come_166 : decode cX9_come 166 = .ok (.getfield 22, 3) := by decide +kernel
theorem dX9_come_169 : decode cX9_come 169 = .ok (.iload_n 2, 1) := by decide +kernel
theorem dX9_come_170 : decode cX9_come 170 = .ok (.iaload, 1) := by decide +kernel
theorem dX9_come_171 : decode cX9_come 171 = .ok (.aload_n 0, 1) := by decide +kernel
theorem dX9_come_172 : decode cX9_come 172 = .ok (.getfield 83, 3) := by decide +kernel
theorem dX9_come_175 : decode cX9_come 175 = .ok (.iload_n 1, 1) := by decide +kernel
theorem dX9_come_176 : decode cX9_come 176 = .ok (.iaload, 1) := by decide +kernel
theorem dX9_come_177 : decode cX9_come 177 = .ok (.if_icmp .eq 6, 3) := by decide +kernel
theorem dX9_come_180 : decode cX9_come 180 = .ok (.goto 253, 3) := by decide +kernel
theorem dX9_come_183 : decode cX9_come 183 = .ok (.aload_n 0, 1) := by decide +kernel
theorem dX9_come_184 : decode cX9_come 184 = .ok (.getfield 19, 3) := by decide +kernel
theorem dX9_come_187 : decode cX9_come 187 = .ok (.bipush 60, 2) := by decide +kernel
theorem dX9_come_189 : decode cX9_come 189 = .ok (.iload_n 2, 1) := by decide +kernel
theorem dX9_come_190 : decode cX9_come 190 = .ok (.imul, 1) := by decide +kernel
theorem dX9_come_191 : decode cX9_come 191 = .ok (.aload_n 0, 1) := by decide +kernel
theorem dX9_come_192 : decode cX9_come 192 = .ok (.getfield 22, 3) := by decide +kernel
theorem dX9_come_195 : decode cX9_come 195 = .ok (.iload_n 2, 1) := by decide +kernel
theorem dX9_come_196 : decode cX9_come 196 = .ok (.iaload, 1) := by decide +kernel
theorem dX9_come_197 : decode cX9_come 197 = .ok (.iadd, 1) := by decide +kernel
theorem dX9_come_198 : decode cX9_come 198 = .ok (.aload_n 0, 1) := by decide +kernel
theorem dX9_come_199 : decode cX9_come 199 = .ok (.getfield 89, 3) := by decide +kernel
theorem dX9_come_202 : decode cX9_come 202 = .ok (.bipush 60, 2) := by decide +kernel
theorem dX9_come_204 : decode cX9_come 204 = .ok (.iload_n 1, 1) := by decide +kernel
theorem dX9_come_205 : decode cX9_come 205 = .ok (.imul, 1) := by decide +kernel
theorem dX9_come_206 : decode cX9_come 206 = .ok (.iaload, 1) := by decide +kernel
theorem dX9_come_207 : decode cX9_come 207 = .ok (.iastore, 1) := by decide +kernel
theorem dX9_come_208 : decode cX9_come 208 = .ok (.aload_n 0, 1) := by decide +kernel
theorem dX9_come_209 : decode cX9_come 209 = .ok (.getfield 22, 3) := by decide +kernel
theorem dX9_come_212 : decode cX9_come 212 = .ok (.iload_n 2, 1) := by decide +kernel
theorem dX9_come_213 : decode cX9_come 213 = .ok (.dup2, 1) := by decide +kernel
theorem dX9_come_214 : decode cX9_come 214 = .ok (.iaload, 1) := by decide +kernel
theorem dX9_come_215 : decode cX9_come 215 = .ok (.iconst 1, 1) := by decide +kernel
theorem dX9_come_216 : decode cX9_come 216 = .ok (.iadd, 1) := by decide +kernel
theorem dX9_come_217 : decode cX9_come 217 = .ok (.iastore, 1) := by decide +kernel
theorem dX9_come_218 : decode cX9_come 218 = .ok (.aload_n 0, 1) := by decide +kernel
theorem dX9_come_219 : decode cX9_come 219 = .ok (.iload_n 2, 1) := by decide +kernel
theorem dX9_come_220 : decode cX9_come 220 = .ok (.iload_n 3, 1) := by decide +kernel
theorem dX9_come_221 : decode cX9_come 221 = .ok (.iconst 3, 1) := by decide +kernel
theorem dX9_come_222 : decode cX9_come 222 = .ok (.aload_n 0, 1) := by decide +kernel
theorem dX9_come_223 : decode cX9_come 223 = .ok (.getfield 80, 3) := by decide +kernel
theorem dX9_come_226 : decode cX9_come 226 = .ok (.iload_n 1, 1) := by decide +kernel
theorem dX9_come_227 : decode cX9_come 227 = .ok (.iaload, 1) := by decide +kernel
theorem dX9_come_228 : decode cX9_come 228 = .ok (.aload_n 0, 1) := by decide +kernel
theorem dX9_come_229 : decode cX9_come 229 = .ok (.getfield 22, 3) := by decide +kernel
theorem dX9_come_232 : decode cX9_come 232 = .ok (.iload_n 2, 1) := by decide +kernel
theorem dX9_come_233 : decode cX9_come 233 = .ok (.iaload, 1) := by decide +kernel
theorem dX9_come_234 : decode cX9_come 234 = .ok (.iconst 0, 1) := by decide +kernel
theorem dX9_come_235 : decode cX9_come 235 = .ok (.iconst 0, 1) := by decide +kernel
theorem dX9_come_236 : decode cX9_come 236 = .ok (.invokevirtual 111, 3) := by decide +kernel
theorem dX9_come_239 : decode cX9_come 239 = .ok (.goto 194, 3) := by decide +kernel
theorem dX9_come_242 : decode cX9_come 242 = .ok (.aload_n 0, 1) := by decide +kernel
theorem dX9_come_243 : decode cX9_come 243 = .ok (.iload_n 2, 1) := by decide +kernel
theorem dX9_come_244 : decode cX9_come 244 = .ok (.invokevirtual 145, 3) := by decide +kernel
theorem dX9_come_247 : decode cX9_come 247 = .ok (.iload_n 2, 1) := by decide +kernel
theorem dX9_come_248 : decode cX9_come 248 = .ok (.if_icmp .ne 185, 3) := by decide +kernel
theorem dX9_come_251 : decode cX9_come 251 = .ok (.aload_n 0, 1) := by decide +kernel
theorem dX9_come_252 : decode cX9_come 252 = .ok (.getfield 80, 3) := by decide +kernel
theorem dX9_come_255 : decode cX9_come 255 = .ok (.iload_n 1, 1) := by decide +kernel
theorem dX9_come_256 : decode cX9_come 256 = .ok (.iaload, 1) := by decide +kernel
theorem dX9_come_257 : decode cX9_come 257 = .ok (.aload_n 0, 1) := by decide +kernel
theorem dX9_come_258 : decode cX9_come 258 = .ok (.getfield 13, 3) := by decide +kernel
theorem dX9_come_261 : decode cX9_come 261 = .ok (.iload_n 2, 1) := by decide +kernel
theorem dX9_come_262 : decode cX9_come 262 = .ok (.iaload, 1) := by decide +kernel
theorem dX9_come_263 : decode cX9_come 263 = .ok (.if_icmp .ne 170, 3) := by decide +kernel
theorem dX9_come_266 : decode cX9_come 266 = .ok (.aload_n 0, 1) := by decide +kernel
theorem dX9_come_267 : decode cX9_come 267 = .ok (.iload_n 2, 1) := by decide +kernel
theorem dX9_come_268 : decode cX9_come 268 = .ok (.invokevirtual 142, 3) := by decide +kernel
theorem dX9_come_271 : decode cX9_come 271 = .ok (.ifCond .eq 6, 3) := by decide +kernel
theorem dX9_come_274 : decode cX9_come 274 = .ok (.goto 159, 3) := by decide +kernel
theorem dX9_come_277 : decode cX9_come 277 = .ok (.aload_n 0, 1) := by decide +kernel
theorem dX9_come_278 : decode cX9_come 278 = .ok (.getfield 83, 3) := by decide +kernel
theorem dX9_come_281 : decode cX9_come 281 = .ok (.iload_n 1, 1) := by decide +kernel
theorem dX9_come_282 : decode cX9_come 282 = .ok (.iaload, 1) := by decide +kernel
theorem dX9_come_283 : decode cX9_come 283 = .ok (.aload_n 0, 1) := by decide +kernel
theorem dX9_come_284 : decode cX9_come 284 = .ok (.getfield 46, 3) := by decide +kernel
theorem dX9_come_287 : decode cX9_come 287 = .ok (.bipush 7, 2) := by decide +kernel
theorem dX9_come_289 : decode cX9_come 289 = .ok (.iload_n 2, 1) := by decide +kernel
theorem dX9_come_290 : decode cX9_come 290 = .ok (.imul, 1) := by decide +kernel
theorem dX9_come_291 : decode cX9_come 291 = .ok (.iload_n 3, 1) := by decide +kernel
theorem dX9_come_292 : decode cX9_come 292 = .ok (.iadd, 1) := by decide +kernel
theorem dX9_come_293 : decode cX9_come 293 = .ok (.iaload, 1) := by decide +kernel
theorem dX9_come_294 : decode cX9_come 294 = .ok (.if_icmp .le 20, 3) := by decide +kernel
theorem dX9_come_297 : decode cX9_come 297 = .ok (.aload_n 0, 1) := by decide +kernel
theorem dX9_come_298 : decode cX9_come 298 = .ok (.getfield 46, 3) := by decide +kernel
theorem dX9_come_301 : decode cX9_come 301 = .ok (.bipush 7, 2) := by decide +kernel
theorem dX9_come_303 : decode cX9_come 303 = .ok (.iload_n 2, 1) := by decide +kernel
theorem dX9_come_304 : decode cX9_come 304 = .ok (.imul, 1) := by decide +kernel
theorem dX9_come_305 : decode cX9_come 305 = .ok (.iload_n 3, 1) := by decide +kernel
theorem dX9_come_306 : decode cX9_come 306 = .ok (.iadd, 1) := by decide +kernel
theorem dX9_come_307 : decode cX9_come 307 = .ok (.aload_n 0, 1) := by decide +kernel
theorem dX9_come_308 : decode cX9_come 308 = .ok (.getfield 83, 3) := by decide +kernel
theorem dX9_come_311 : decode cX9_come 311 = .ok (.iload_n 1, 1) := by decide +kernel
theorem dX9_come_312 : decode cX9_come 312 = .ok (.iaload, 1) := by decide +kernel
theorem dX9_come_313 : decode cX9_come 313 = .ok (.iastore, 1) := by decide +kernel
theorem dX9_come_314 : decode cX9_come 314 = .ok (.aload_n 0, 1) := by decide +kernel
theorem dX9_come_315 : decode cX9_come 315 = .ok (.iload_n 2, 1) := by decide +kernel
theorem dX9_come_316 : decode cX9_come 316 = .ok (.invokevirtual 129, 3) := by decide +kernel
theorem dX9_come_319 : decode cX9_come 319 = .ok (.goto 114, 3) := by decide +kernel
theorem dX9_come_322 : decode cX9_come 322 = .ok (.aload_n 0, 1) := by decide +kernel
theorem dX9_come_323 : decode cX9_come 323 = .ok (.getfield 80, 3) := by decide +kernel
theorem dX9_come_326 : decode cX9_come 326 = .ok (.iload_n 1, 1) := by decide +kernel
theorem dX9_come_327 : decode cX9_come 327 = .ok (.iaload, 1) := by decide +kernel
theorem dX9_come_328 : decode cX9_come 328 = .ok (.aload_n 0, 1) := by decide +kernel
theorem dX9_come_329 : decode cX9_come 329 = .ok (.getfield 13, 3) := by decide +kernel
theorem dX9_come_332 : decode cX9_come 332 = .ok (.iload_n 2, 1) := by decide +kernel
theorem dX9_come_333 : decode cX9_come 333 = .ok (.iaload, 1) := by decide +kernel
theorem dX9_come_334 : decode cX9_come 334 = .ok (.if_icmp .ne 99, 3) := by decide +kernel
theorem dX9_come_337 : decode cX9_come 337 = .ok (.aload_n 0, 1) := by decide +kernel
theorem dX9_come_338 : decode cX9_come 338 = .ok (.iload_n 2, 1) := by decide +kernel
theorem dX9_come_339 : decode cX9_come 339 = .ok (.invokevirtual 142, 3) := by decide +kernel
theorem dX9_come_342 : decode cX9_come 342 = .ok (.ifCond .ne 91, 3) := by decide +kernel
theorem dX9_come_345 : decode cX9_come 345 = .ok (.aload_n 0, 1) := by decide +kernel
theorem dX9_come_346 : decode cX9_come 346 = .ok (.iload_n 2, 1) := by decide +kernel
theorem dX9_come_347 : decode cX9_come 347 = .ok (.aload_n 0, 1) := by decide +kernel
theorem dX9_come_348 : decode cX9_come 348 = .ok (.getfield 83, 3) := by decide +kernel
theorem dX9_come_351 : decode cX9_come 351 = .ok (.iload_n 1, 1) := by decide +kernel
theorem dX9_come_352 : decode cX9_come 352 = .ok (.iaload, 1) := by decide +kernel
theorem dX9_come_353 : decode cX9_come 353 = .ok (.invokevirtual 132, 3) := by decide +kernel
theorem dX9_come_356 : decode cX9_come 356 = .ok (.goto 77, 3) := by decide +kernel
theorem dX9_come_359 : decode cX9_come 359 = .ok (.iload_n 3, 1) := by decide +kernel
theorem dX9_come_360 : decode cX9_come 360 = .ok (.iload_n 2, 1) := by decide +kernel
theorem dX9_come_361 : decode cX9_come 361 = .ok (.if_icmp .le 6, 3) := by decide +kernel
theorem dX9_come_364 : decode cX9_come 364 = .ok (.goto 69, 3) := by decide +kernel
theorem dX9_come_367 : decode cX9_come 367 = .ok (.aload_n 0, 1) := by decide +kernel
theorem dX9_come_368 : decode cX9_come 368 = .ok (.iload_n 2, 1) := by decide +kernel
theorem dX9_come_369 : decode cX9_come 369 = .ok (.iload_n 3, 1) := by decide +kernel
theorem dX9_come_370 : decode cX9_come 370 = .ok (.bipush 6, 2) := by decide +kernel
theorem dX9_come_372 : decode cX9_come 372 = .ok (.iconst 0, 1) := by decide +kernel
theorem dX9_come_373 : decode cX9_come 373 = .ok (.iconst 0, 1) := by decide +kernel
theorem dX9_come_374 : decode cX9_come 374 = .ok (.iconst 0, 1) := by decide +kernel
theorem dX9_come_375 : decode cX9_come 375 = .ok (.iconst 0, 1) := by decide +kernel
theorem dX9_come_376 : decode cX9_come 376 = .ok (.invokevirtual 111, 3) := by decide +kernel
theorem dX9_come_379 : decode cX9_come 379 = .ok (.aload_n 0, 1) := by decide +kernel
theorem dX9_come_380 : decode cX9_come 380 = .ok (.getfield 37, 3) := by decide +kernel
theorem dX9_come_383 : decode cX9_come 383 = .ok (.iload_n 2, 1) := by decide +kernel
theorem dX9_come_384 : decode cX9_come 384 = .ok (.iaload, 1) := by decide +kernel
theorem dX9_come_385 : decode cX9_come 385 = .ok (.ifCond .ne 48, 3) := by decide +kernel
theorem dX9_come_388 : decode cX9_come 388 = .ok (.aload_n 0, 1) := by decide +kernel
theorem dX9_come_389 : decode cX9_come 389 = .ok (.iload_n 2, 1) := by decide +kernel
theorem dX9_come_390 : decode cX9_come 390 = .ok (.invokevirtual 174, 3) := by decide +kernel
theorem dX9_come_393 : decode cX9_come 393 = .ok (.goto 40, 3) := by decide +kernel
theorem dX9_come_396 : decode cX9_come 396 = .ok (.aload_n 0, 1) := by decide +kernel
theorem dX9_come_397 : decode cX9_come 397 = .ok (.getfield 37, 3) := by decide +kernel
theorem dX9_come_400 : decode cX9_come 400 = .ok (.iload_n 2, 1) := by decide +kernel
theorem dX9_come_401 : decode cX9_come 401 = .ok (.iaload, 1) := by decide +kernel
theorem dX9_come_402 : decode cX9_come 402 = .ok (.iconst 1, 1) := by decide +kernel
theorem dX9_come_403 : decode cX9_come 403 = .ok (.if_icmp .ne 30, 3) := by decide +kernel
theorem dX9_come_406 : decode cX9_come 406 = .ok (.aload_n 0, 1) := by decide +kernel
theorem dX9_come_407 : decode cX9_come 407 = .ok (.getfield 37, 3) := by decide +kernel
theorem dX9_come_410 : decode cX9_come 410 = .ok (.iload_n 2, 1) := by decide +kernel
theorem dX9_come_411 : decode cX9_come 411 = .ok (.iconst 2, 1) := by decide +kernel
theorem dX9_come_412 : decode cX9_come 412 = .ok (.iastore, 1) := by decide +kernel
theorem dX9_come_413 : decode cX9_come 413 = .ok (.goto 20, 3) := by decide +kernel
theorem dX9_come_416 : decode cX9_come 416 = .ok (.aload_n 0, 1) := by decide +kernel
theorem dX9_come_417 : decode cX9_come 417 = .ok (.getfield 7, 3) := by decide +kernel
theorem dX9_come_420 : decode cX9_come 420 = .ok (.iload_n 2, 1) := by decide +kernel
theorem dX9_come_421 : decode cX9_come 421 = .ok (.iconst 2, 1) := by decide +kernel
theorem dX9_come_422 : decode cX9_come 422 = .ok (.iastore, 1) := by decide +kernel
theorem dX9_come_423 : decode cX9_come 423 = .ok (.goto 10, 3) := by decide +kernel
theorem dX9_come_426 : decode cX9_come 426 = .ok (.aload_n 0, 1) := by decide +kernel
theorem dX9_come_427 : decode cX9_come 427 = .ok (.iload_n 1, 1) := by decide +kernel
theorem dX9_come_428 : decode cX9_come 428 = .ok (.iload_n 2, 1) := by decide +kernel
theorem dX9_come_429 : decode cX9_come 429 = .ok (.iload_n 3, 1) := by decide +kernel
theorem dX9_come_430 : decode cX9_come 430 = .ok (.invokevirtual 177, 3) := by decide +kernel
theorem dX9_come_433 : decode cX9_come 433 = .ok (.return_, 1) := by decide +kernel
theorem dX9_comeOfView_0 : decode cX9_comeOfView 0 = .ok (.aload_n 0, 1) := by decide +kernel
theorem dX9_comeOfView_1 : decode cX9_comeOfView 1 = .ok (.getfield 77, 3) := by decide +kernel
theorem dX9_comeOfView_4 : decode cX9_comeOfView 4 = .ok (.iload_n 1, 1) := by decide +kernel
theorem dX9_comeOfView_5 : decode cX9_comeOfView 5 = .ok (.iaload, 1) := by decide +kernel
theorem dX9_comeOfView_6 : decode cX9_comeOfView 6 = .ok (.tableswitch 446 7 10 #[30, 104, 264, 370], 30) := by decide +kernel
theorem dX9_comeOfView_36 : decode cX9_comeOfView 36 = .ok (.aload_n 0, 1) := by decide +kernel
theorem dX9_comeOfView_37 : decode cX9_comeOfView 37 = .ok (.getfield 80, 3) := by decide +kernel
theorem dX9_comeOfView_40 : decode cX9_comeOfView 40 = .ok (.iload_n 1, 1) := by decide +kernel
theorem dX9_comeOfView_41 : decode cX9_comeOfView 41 = .ok (.iaload, 1) := by decide +kernel
theorem dX9_comeOfView_42 : decode cX9_comeOfView 42 = .ok (.aload_n 0, 1) := by decide +kernel
theorem dX9_comeOfView_43 : decode cX9_comeOfView 43 = .ok (.getfield 31, 3) := by decide +kernel
theorem dX9_comeOfView_46 : decode cX9_comeOfView 46 = .ok (.iload_n 2, 1) := by decide +kernel
theorem dX9_comeOfView_47 : decode cX9_comeOfView 47 = .ok (.iaload, 1) := by decide +kernel
theorem dX9_comeOfView_48 : decode cX9_comeOfView 48 = .ok (.if_icmp .gt 6, 3) := by decide +kernel
theorem dX9_comeOfView_51 : decode cX9_comeOfView 51 = .ok (.goto 433, 3) := by decide +kernel
theorem dX9_comeOfView_54 : decode cX9_comeOfView 54 = .ok (.aload_n 0, 1) := by decide +kernel
theorem dX9_comeOfView_55 : decode cX9_comeOfView 55 = .ok (.getfield 31, 3) := by decide +kernel
theorem dX9_comeOfView_58 : decode cX9_comeOfView 58 = .ok (.iload_n 2, 1) := by decide +kernel
theorem dX9_comeOfView_59 : decode cX9_comeOfView 59 = .ok (.aload_n 0, 1) := by decide +kernel
theorem dX9_comeOfView_60 : decode cX9_comeOfView 60 = .ok (.getfield 80, 3) := by decide +kernel
theorem dX9_comeOfView_63 : decode cX9_comeOfView 63 = .ok (.iload_n 1, 1) := by decide +kernel
theorem dX9_comeOfView_64 : decode cX9_comeOfView 64 = .ok (.iaload, 1) := by decide +kernel
theorem dX9_comeOfView_65 : decode cX9_comeOfView 65 = .ok (.iastore, 1) := by decide +kernel
theorem dX9_comeOfView_66 : decode cX9_comeOfView 66 = .ok (.aload_n 0, 1) := by decide +kernel
theorem dX9_comeOfView_67 : decode cX9_comeOfView 67 = .ok (.getfield 37, 3) := by decide +kernel
theorem dX9_comeOfView_70 : decode cX9_comeOfView 70 = .ok (.iload_n 2, 1) := by decide +kernel
theorem dX9_comeOfView_71 : decode cX9_comeOfView 71 = .ok (.iconst 0, 1) := by decide +kernel
theorem dX9_comeOfView_72 : decode cX9_comeOfView 72 = .ok (.iastore, 1) := by decide +kernel
theorem dX9_comeOfView_73 : decode cX9_comeOfView 73 = .ok (.aload_n 0, 1) := by decide +kernel
theorem dX9_comeOfView_74 : decode cX9_comeOfView 74 = .ok (.getfield 43, 3) := by decide +kernel
theorem dX9_comeOfView_77 : decode cX9_comeOfView 77 = .ok (.iload_n 2, 1) := by decide +kernel
theorem dX9_comeOfView_78 : decode cX9_comeOfView 78 = .ok (.iload_n 3, 1) := by decide +kernel
theorem dX9_comeOfView_79 : decode cX9_comeOfView 79 = .ok (.iastore, 1) := by decide +kernel
theorem dX9_comeOfView_80 : decode cX9_comeOfView 80 = .ok (.aload_n 0, 1) := by decide +kernel
theorem dX9_comeOfView_81 : decode cX9_comeOfView 81 = .ok (.iload_n 2, 1) := by decide +kernel
theorem dX9_comeOfView_82 : decode cX9_comeOfView 82 = .ok (.iload_n 3, 1) := by decide +kernel
theorem dX9_comeOfView_83 : decode cX9_comeOfView 83 = .ok (.bipush 8, 2) := by decide +kernel
theorem dX9_comeOfView_85 : decode cX9_comeOfView 85 = .ok (.aload_n 0, 1) := by decide +kernel
theorem dX9_comeOfView_86 : decode cX9_comeOfView 86 = .ok (.getfield 80, 3) := by decide +kernel
theorem dX9_comeOfView_89 : decode cX9_comeOfView 89 = .ok (.iload_n 1, 1) := by decide +kernel
theorem dX9_comeOfView_90 : decode cX9_comeOfView 90 = .ok (.iaload, 1) := by decide +kernel
theorem dX9_comeOfView_91 : decode cX9_comeOfView 91 = .ok (.aload_n 0, 1) := by decide +kernel
theorem dX9_comeOfView_92 : decode cX9_comeOfView 92 = .ok (.getfield 28, 3) := by decide +kernel
theorem dX9_comeOfView_95 : decode cX9_comeOfView 95 = .ok (.iload_n 2, 1) := by decide +kernel
theorem dX9_comeOfView_96 : decode cX9_comeOfView 96 = .ok (.iaload, 1) := by decide +kernel
theorem dX9_comeOfView_97 : decode cX9_comeOfView 97 = .ok (.aload_n 0, 1) := by decide +kernel
theorem dX9_comeOfView_98 : decode cX9_comeOfView 98 = .ok (.getfield 22, 3) := by decide +kernel
theorem dX9_comeOfView_101 : decode cX9_comeOfView 101 = .ok (.iload_n 2, 1) := by decide +kernel
theorem dX9_comeOfView_102 : decode cX9_comeOfView 102 = .ok (.iaload, 1) := by decide +kernel
theorem dX9_comeOfView_103 : decode cX9_comeOfView 103 = .ok (.iconst 0, 1) := by decide +kernel
theorem dX9_comeOfView_104 : decode cX9_comeOfView 104 = .ok (.invokevirtual 111, 3) := by decide +kernel
theorem dX9_comeOfView_107 : decode cX9_comeOfView 107 = .ok (.goto 377, 3) := by decide +kernel
theorem dX9_comeOfView_110 : decode cX9_comeOfView 110 = .ok (.aload_n 0, 1) := by decide +kernel
theorem dX9_comeOfView_111 : decode cX9_comeOfView 111 = .ok (.getfield 37, 3) := by decide +kernel
theorem dX9_comeOfView_114 : decode cX9_comeOfView 114 = .ok (.iload_n 2, 1) := by decide +kernel
theorem dX9_comeOfView_115 : decode cX9_comeOfView 115 = .ok (.iaload, 1) := by decide +kernel
theorem dX9_comeOfView_116 : decode cX9_comeOfView 116 = .ok (.iconst 3, 1) := by decide +kernel
theorem dX9_comeOfView_117 : decode cX9_comeOfView 117 = .ok (.if_icmp .ne 367, 3) := by decide +kernel
theorem dX9_comeOfView_120 : decode cX9_comeOfView 120 = .ok (.aload_n 0, 1) := by decide +kernel
theorem dX9_comeOfView_121 : decode cX9_comeOfView 121 = .ok (.getfield 80, 3) := by decide +kernel
theorem dX9_comeOfView_124 : decode cX9_comeOfView 124 = .ok (.iload_n 1, 1) := by decide +kernel
theorem dX9_comeOfView_125 : decode cX9_comeOfView 125 = .ok (.iaload, 1) := by decide +kernel
theorem dX9_comeOfView_126 : decode cX9_comeOfView 126 = .ok (.aload_n 0, 1) := by decide +kernel
theorem dX9_comeOfView_127 : decode cX9_comeOfView 127 = .ok (.getfield 31, 3) := by decide +kernel
theorem dX9_comeOfView_130 : decode cX9_comeOfView 130 = .ok (.iload_n 2, 1) := by decide +kernel
theorem dX9_comeOfView_131 : decode cX9_comeOfView 131 = .ok (.iaload, 1) := by decide +kernel
theorem dX9_comeOfView_132 : decode cX9_comeOfView 132 = .ok (.if_icmp .ne 352, 3) := by decide +kernel
theorem dX9_comeOfView_135 : decode cX9_comeOfView 135 = .ok (.aload_n 0, 1) := by decide +kernel
theorem dX9_comeOfView_136 : decode cX9_comeOfView 136 = .ok (.getfield 40, 3) := by decide +kernel
theorem dX9_comeOfView_139 : decode cX9_comeOfView 139 = .ok (.iload_n 2, 1) := by decide +kernel
theorem dX9_comeOfView_140 : decode cX9_comeOfView 140 = .ok (.iaload, 1) := by decide +kernel
theorem dX9_comeOfView_141 : decode cX9_comeOfView 141 = .ok (.iload_n 3, 1) := by decide +kernel
theorem dX9_comeOfView_142 : decode cX9_comeOfView 142 = .ok (.invokestatic 99, 3) := by decide +kernel
theorem dX9_comeOfView_145 : decode cX9_comeOfView 145 = .ok (.ifCond .ne 6, 3) := by decide +kernel
theorem dX9_comeOfView_148 : decode cX9_comeOfView 148 = .ok (.goto 336, 3) := by decide +kernel
theorem dX9_comeOfView_151 : decode cX9_comeOfView 151 = .ok (.aload_n 0, 1) := by decide +kernel
theorem dX9_comeOfView_152 : decode cX9_comeOfView 152 = .ok (.getfield 49, 3) := by decide +kernel
theorem dX9_comeOfView_155 : decode cX9_comeOfView 155 = .ok (.iload_n 2, 1) := by decide +kernel
theorem dX9_comeOfView_156 : decode cX9_comeOfView 156 = .ok (.dup2, 1) := by decide +kernel
theorem dX9_comeOfView_157 : decode cX9_comeOfView 157 = .ok (.iaload, 1) := by decide +kernel
theorem dX9_comeOfView_158 : decode cX9_comeOfView 158 = .ok (.iconst 1, 1) := by decide +kernel
theorem dX9_comeOfView_159 : decode cX9_comeOfView 159 = .ok (.iload_n 3, 1) := by decide +kernel
theorem dX9_comeOfView_160 : decode cX9_comeOfView 160 = .ok (.ishl, 1) := by decide +kernel
theorem dX9_comeOfView_161 : decode cX9_comeOfView 161 = .ok (.ior, 1) := by decide +kernel
theorem dX9_comeOfView_162 : decode cX9_comeOfView 162 = .ok (.iastore, 1) := by decide +kernel
theorem dX9_comeOfView_163 : decode cX9_comeOfView 163 = .ok (.aload_n 0, 1) := by decide +kernel
theorem dX9_comeOfView_164 : decode cX9_comeOfView 164 = .ok (.getfield 52, 3) := by decide +kernel
theorem dX9_comeOfView_167 : decode cX9_comeOfView 167 = .ok (.bipush 7, 2) := by decide +kernel
theorem dX9_comeOfView_169 : decode cX9_comeOfView 169 = .ok (.iload_n 2, 1) := by decide +kernel
theorem dX9_comeOfView_170 : decode cX9_comeOfView 170 = .ok (.imul, 1) := by decide +kernel
theorem dX9_comeOfView_171 : decode cX9_comeOfView 171 = .ok (.iload_n 3, 1) := by decide +kernel
theorem dX9_comeOfView_172 : decode cX9_comeOfView 172 = .ok (.iadd, 1) := by decide +kernel
theorem dX9_comeOfView_173 : decode cX9_comeOfView 173 = .ok (.aload_n 0, 1) := by decide +kernel
theorem dX9_comeOfView_174 : decode cX9_comeOfView 174 = .ok (.getfield 83, 3) := by decide +kernel
theorem dX9_comeOfView_177 : decode cX9_comeOfView 177 = .ok (.iload_n 1, 1) := by decide +kernel
theorem dX9_comeOfView_178 : decode cX9_comeOfView 178 = .ok (.iaload, 1) := by decide +kernel
theorem dX9_comeOfView_179 : decode cX9_comeOfView 179 = .ok (.iastore, 1) := by decide +kernel
theorem dX9_comeOfView_180 : decode cX9_comeOfView 180 = .ok (.aload_n 0, 1) := by decide +kernel
theorem dX9_comeOfView_181 : decode cX9_comeOfView 181 = .ok (.getfield 55, 3) := by decide +kernel
theorem dX9_comeOfView_184 : decode cX9_comeOfView 184 = .ok (.bipush 7, 2) := by decide +kernel
theorem dX9_comeOfView_186 : decode cX9_comeOfView 186 = .ok (.iload_n 2, 1) := by decide +kernel
theorem dX9_comeOfView_187 : decode cX9_comeOfView 187 = .ok (.imul, 1) := by decide +kernel
theorem dX9_comeOfView_188 : decode cX9_comeOfView 188 = .ok (.iload_n 3, 1) := by decide +kernel
theorem dX9_comeOfView_189 : decode cX9_comeOfView 189 = .ok (.iadd, 1) := by decide +kernel
theorem dX9_comeOfView_190 : decode cX9_comeOfView 190 = .ok (.aload_n 0, 1) := by decide +kernel
theorem dX9_comeOfView_191 : decode cX9_comeOfView 191 = .ok (.getfield 86, 3) := by decide +kernel
theorem dX9_comeOfView_194 : decode cX9_comeOfView 194 = .ok (.iload_n 1, 1) := by decide +kernel
theorem dX9_comeOfView_195 : decode cX9_comeOfView 195 = .ok (.iaload, 1) := by decide +kernel
theorem dX9_comeOfView_196 : decode cX9_comeOfView 196 = .ok (.iastore, 1) := by decide +kernel
theorem dX9_comeOfView_197 : decode cX9_comeOfView 197 = .ok (.iconst 0, 1) := by decide +kernel
theorem dX9_comeOfView_198 : decode cX9_comeOfView 198 = .ok (.istore 4, 2) := by decide +kernel
theorem dX9_comeOfView_200 : decode cX9_comeOfView 200 = .ok (.iload 4, 2) := by decide +kernel
theorem dX9_comeOfView_202 : decode cX9_comeOfView 202 = .ok (.aload_n 0, 1) := by decide +kernel
theorem dX9_comeOfView_203 : decode cX9_comeOfView 203 = .ok (.getfield 86, 3) := by decide +kernel
theorem dX9_comeOfView_206 : decode cX9_comeOfView 206 = .ok (.iload_n 1, 1) := by decide +kernel
theorem dX9_comeOfView_207 : decode cX9_comeOfView 207 = .ok (.iaload, 1) := by decide +kernel
theorem dX9_comeOfView_208 : decode cX9_comeOfView 208 = .ok (.if_icmp .ge 39, 3) := by decide +kernel
theorem dX9_comeOfView_211 : decode cX9_comeOfView 211 = .ok (.aload_n 0, 1) := by decide +kernel
theorem dX9_comeOfView_212 : decode cX9_comeOfView 212 = .ok (.getfield 58, 3) := by decide +kernel
theorem dX9_comeOfView_215 : decode cX9_comeOfView 215 = .ok (.sipush 420, 3) := by decide +kernel
theorem dX9_comeOfView_218 : decode cX9_comeOfView 218 = .ok (.iload_n 2, 1) := by decide +kernel
theorem dX9_comeOfView_219 : decode cX9_comeOfView 219 = .ok (.imul, 1) := by decide +kernel
theorem dX9_comeOfView_220 : decode cX9_comeOfView 220 = .ok (.bipush 60, 2) := by decide +kernel
theorem dX9_comeOfView_222 : decode cX9_comeOfView 222 = .ok (.iload_n 3, 1) := by decide +kernel
theorem dX9_comeOfView_223 : decode cX9_comeOfView 223 = .ok (.imul, 1) := by decide +kernel
theorem dX9_comeOfView_224 : decode cX9_comeOfView 224 = .ok (.iadd, 1) := by decide +kernel
theorem dX9_comeOfView_225 : decode cX9_comeOfView 225 = .ok (.iload 4, 2) := by decide +kernel
theorem dX9_comeOfView_227 : decode cX9_comeOfView 227 = .ok (.iadd, 1) := by decide +kernel
theorem dX9_comeOfView_228 : decode cX9_comeOfView 228 = .ok (.aload_n 0, 1) := by decide +kernel
theorem dX9_comeOfView_229 : decode cX9_comeOfView 229 = .ok (.getfield 89, 3) := by decide +kernel
theorem dX9_comeOfView_232 : decode cX9_comeOfView 232 = .ok (.bipush 60, 2) := by decide +kernel
theorem dX9_comeOfView_234 : decode cX9_comeOfView 234 = .ok (.iload_n 1, 1) := by decide +kernel
theorem dX9_comeOfView_235 : decode cX9_comeOfView 235 = .ok (.imul, 1) := by decide +kernel
theorem dX9_comeOfView_236 : decode cX9_comeOfView 236 = .ok (.iload 4, 2) := by decide +kernel
theorem dX9_comeOfView_238 : decode cX9_comeOfView 238 = .ok (.iadd, 1) := by decide +kernel
theorem dX9_comeOfView_239 : decode cX9_comeOfView 239 = .ok (.iaload, 1) := by decide +kernel
theorem dX9_comeOfView_240 : decode cX9_comeOfView 240 = .ok (.iastore, 1) := by decide +kernel
theorem dX9_comeOfView_241 : decode cX9_comeOfView 241 = .ok (.iinc 4 1, 3) := by decide +kernel
theorem dX9_comeOfView_244 : decode cX9_comeOfView 244 = .ok (.goto (-44), 3) := by decide +kernel
theorem dX9_comeOfView_247 : decode cX9_comeOfView 247 = .ok (.aload_n 0, 1) := by decide +kernel
theorem dX9_comeOfView_248 : decode cX9_comeOfView 248 = .ok (.getfield 49, 3) := by decide +kernel
theorem dX9_comeOfView_251 : decode cX9_comeOfView 251 = .ok (.iload_n 2, 1) := by decide +kernel
theorem dX9_comeOfView_252 : decode cX9_comeOfView 252 = .ok (.iaload, 1) := by decide +kernel
theorem dX9_comeOfView_253 : decode cX9_comeOfView 253 = .ok (.aload_n 0, 1) := by decide +kernel
theorem dX9_comeOfView_254 : decode cX9_comeOfView 254 = .ok (.getfield 40, 3) := by decide +kernel
theorem dX9_comeOfView_257 : decode cX9_comeOfView 257 = .ok (.iload_n 2, 1) := by decide +kernel
theorem dX9_comeOfView_258 : decode cX9_comeOfView 258 = .ok (.iaload, 1) := by decide +kernel
theorem dX9_comeOfView_259 : decode cX9_comeOfView 259 = .ok (.if_icmp .ne 225, 3) := by decide +kernel
theorem dX9_comeOfView_262 : decode cX9_comeOfView 262 = .ok (.aload_n 0, 1) := by decide +kernel
theorem dX9_comeOfView_263 : decode cX9_comeOfView 263 = .ok (.iload_n 2, 1) := by decide +kernel
theorem dX9_comeOfView_264 : decode cX9_comeOfView 264 = .ok (.invokevirtual 161, 3) := by decide +kernel
theorem dX9_comeOfView_267 : decode cX9_comeOfView 267 = .ok (.goto 217, 3) := by decide +kernel
theorem dX9_comeOfView_270 : decode cX9_comeOfView 270 = .ok (.aload_n 0, 1) := by decide +kernel
theorem dX9_comeOfView_271 : decode cX9_comeOfView 271 = .ok (.getfield 80, 3) := by decide +kernel
theorem dX9_comeOfView_274 : decode cX9_comeOfView 274 = .ok (.iload_n 1, 1) := by decide +kernel
theorem dX9_comeOfView_275 : decode cX9_comeOfView 275 = .ok (.iaload, 1) := by decide +kernel
theorem dX9_comeOfView_276 : decode cX9_comeOfView 276 = .ok (.aload_n 0, 1) := by decide +kernel
theorem dX9_comeOfView_277 : decode cX9_comeOfView 277 = .ok (.getfield 31, 3) := by decide +kernel
theorem dX9_comeOfView_280 : decode cX9_comeOfView 280 = .ok (.iload_n 2, 1) := by decide +kernel
theorem dX9_comeOfView_281 : decode cX9_comeOfView 281 = .ok (.iaload, 1) := by decide +kernel
theorem dX9_comeOfView_282 : decode cX9_comeOfView 282 = .ok (.if_icmp .eq 6, 3) := by decide +kernel
theorem dX9_comeOfView_285 : decode cX9_comeOfView 285 = .ok (.goto 199, 3) := by decide +kernel
theorem dX9_comeOfView_288 : decode cX9_comeOfView 288 = .ok (.aload_n 0, 1) := by decide +kernel
theorem dX9_comeOfView_289 : decode cX9_comeOfView 289 = .ok (.getfield 22, 3) := by decide +kernel
theorem dX9_comeOfView_292 : decode cX9_comeOfView 292 = .ok (.iload_n 2, 1) := by decide +kernel
theorem dX9_comeOfView_293 : decode cX9_comeOfView 293 = .ok (.aload_n 0, 1) := by decide +kernel
theorem dX9_comeOfView_294 : decode cX9_comeOfView 294 = .ok (.getfield 86, 3) := by decide +kernel
theorem dX9_comeOfView_297 : decode cX9_comeOfView 297 = .ok (.iload_n 1, 1) := by decide +kernel
theorem dX9_comeOfView_298 : decode cX9_comeOfView 298 = .ok (.iaload, 1) := by decide +kernel
theorem dX9_comeOfView_299 : decode cX9_comeOfView 299 = .ok (.iastore, 1) := by decide +kernel
theorem dX9_comeOfView_300 : decode cX9_comeOfView 300 = .ok (.iconst 0, 1) := by decide +kernel
theorem dX9_comeOfView_301 : decode cX9_comeOfView 301 = .ok (.istore 4, 2) := by decide +kernel
theorem dX9_comeOfView_303 : decode cX9_comeOfView 303 = .ok (.iload 4, 2) := by decide +kernel
theorem dX9_comeOfView_305 : decode cX9_comeOfView 305 = .ok (.aload_n 0, 1) := by decide +kernel
theorem dX9_comeOfView_306 : decode cX9_comeOfView 306 = .ok (.getfield 86, 3) := by decide +kernel
theorem dX9_comeOfView_309 : decode cX9_comeOfView 309 = .ok (.iload_n 1, 1) := by decide +kernel
theorem dX9_comeOfView_310 : decode cX9_comeOfView 310 = .ok (.iaload, 1) := by decide +kernel
theorem dX9_comeOfView_311 : decode cX9_comeOfView 311 = .ok (.if_icmp .ge 33, 3) := by decide +kernel
theorem dX9_comeOfView_314 : decode cX9_comeOfView 314 = .ok (.aload_n 0, 1) := by decide +kernel
theorem dX9_comeOfView_315 : decode cX9_comeOfView 315 = .ok (.getfield 19, 3) := by decide +kernel
theorem dX9_comeOfView_318 : decode cX9_comeOfView 318 = .ok (.bipush 60, 2) := by decide +kernel
theorem dX9_comeOfView_320 : decode cX9_comeOfView 320 = .ok (.iload_n 2, 1) := by decide +kernel
theorem dX9_comeOfView_321 : decode cX9_comeOfView 321 = .ok (.imul, 1) := by decide +kernel
theorem dX9_comeOfView_322 : decode cX9_comeOfView 322 = .ok (.iload 4, 2) := by decide +kernel
theorem dX9_comeOfView_324 : decode cX9_comeOfView 324 = .ok (.iadd, 1) := by decide +kernel
theorem dX9_comeOfView_325 : decode cX9_comeOfView 325 = .ok (.aload_n 0, 1) := by decide +kernel
theorem dX9_comeOfView_326 : decode cX9_comeOfView 326 = .ok (.getfield 89, 3) := by decide +kernel
theorem dX9_comeOfView_329 : decode cX9_comeOfView 329 = .ok (.bipush 60, 2) := by decide +kernel
theorem dX9_comeOfView_331 : decode cX9_comeOfView 331 = .ok (.iload_n 1, 1) := by decide +kernel
theorem dX9_comeOfView_332 : decode cX9_comeOfView 332 = .ok (.imul, 1) := by decide +kernel
theorem dX9_comeOfView_333 : decode cX9_comeOfView 333 = .ok (.iload 4, 2) := by decide +kernel
theorem dX9_comeOfView_335 : decode cX9_comeOfView 335 = .ok (.iadd, 1) := by decide +kernel
theorem dX9_comeOfView_336 : decode cX9_comeOfView 336 = .ok (.iaload, 1) := by decide +kernel
theorem dX9_comeOfView_337 : decode cX9_comeOfView 337 = .ok (.iastore, 1) := by decide +kernel
theorem dX9_comeOfView_338 : decode cX9_comeOfView 338 = .ok (.iinc 4 1, 3) := by decide +kernel
theorem dX9_comeOfView_341 : decode cX9_comeOfView 341 = .ok (.goto (-38), 3) := by decide +kernel
theorem dX9_comeOfView_344 : decode cX9_comeOfView 344 = .ok (.aload_n 0, 1) := by decide +kernel
theorem dX9_comeOfView_345 : decode cX9_comeOfView 345 = .ok (.getfield 28, 3) := by decide +kernel
theorem dX9_comeOfView_348 : decode cX9_comeOfView 348 = .ok (.iload_n 2, 1) := by decide +kernel
theorem dX9_comeOfView_349 : decode cX9_comeOfView 349 = .ok (.aload_n 0, 1) := by decide +kernel
theorem dX9_comeOfView_350 : decode cX9_comeOfView 350 = .ok (.getfield 80, 3) := by decide +kernel
theorem dX9_comeOfView_353 : decode cX9_comeOfView 353 = .ok (.iload_n 1, 1) := by decide +kernel
theorem dX9_comeOfView_354 : decode cX9_comeOfView 354 = .ok (.iaload, 1) := by decide +kernel
theorem dX9_comeOfView_355 : decode cX9_comeOfView 355 = .ok (.iastore, 1) := by decide +kernel
theorem dX9_comeOfView_356 : decode cX9_comeOfView 356 = .ok (.aload_n 0, 1) := by decide +kernel
theorem dX9_comeOfView_357 : decode cX9_comeOfView 357 = .ok (.iload_n 2, 1) := by decide +kernel
theorem dX9_comeOfView_358 : decode cX9_comeOfView 358 = .ok (.iload_n 3, 1) := by decide +kernel
theorem dX9_comeOfView_359 : decode cX9_comeOfView 359 = .ok (.bipush 10, 2) := by decide +kernel
theorem dX9_comeOfView_361 : decode cX9_comeOfView 361 = .ok (.aload_n 0, 1) := by decide +kernel
theorem dX9_comeOfView_362 : decode cX9_comeOfView 362 = .ok (.getfield 80, 3) := by decide +kernel
theorem dX9_comeOfView_365 : decode cX9_comeOfView 365 = .ok (.iload_n 1, 1) := by decide +kernel
theorem dX9_comeOfView_366 : decode cX9_comeOfView 366 = .ok (.iaload, 1) := by decide +kernel
theorem dX9_comeOfView_367 : decode cX9_comeOfView 367 = .ok (.iconst 0, 1) := by decide +kernel
theorem dX9_comeOfView_368 : decode cX9_comeOfView 368 = .ok (.iconst 0, 1) := by decide +kernel
theorem dX9_comeOfView_369 : decode cX9_comeOfView 369 = .ok (.iconst 0, 1) := by decide +kernel
theorem dX9_comeOfView_370 : decode cX9_comeOfView 370 = .ok (.invokevirtual 111, 3) := by decide +kernel
theorem dX9_comeOfView_373 : decode cX9_comeOfView 373 = .ok (.goto 111, 3) := by decide +kernel
theorem dX9_comeOfView_376 : decode cX9_comeOfView 376 = .ok (.aload_n 0, 1) := by decide +kernel
theorem dX9_comeOfView_377 : decode cX9_comeOfView 377 = .ok (.getfield 37, 3) := by decide +kernel
theorem dX9_comeOfView_380 : decode cX9_comeOfView 380 = .ok (.iload_n 2, 1) := by decide +kernel
theorem dX9_comeOfView_381 : decode cX9_comeOfView 381 = .ok (.iaload, 1) := by decide +kernel
theorem dX9_comeOfView_382 : decode cX9_comeOfView 382 = .ok (.iconst 4, 1) := by decide +kernel
theorem dX9_comeOfView_383 : decode cX9_comeOfView 383 = .ok (.if_icmp .ne 101, 3) := by decide +kernel
theorem dX9_comeOfView_386 : decode cX9_comeOfView 386 = .ok (.aload_n 0, 1) := by decide +kernel
theorem dX9_comeOfView_387 : decode cX9_comeOfView 387 = .ok (.getfield 80, 3) := by decide +kernel
theorem dX9_comeOfView_390 : decode cX9_comeOfView 390 = .ok (.iload_n 1, 1) := by decide +kernel
theorem dX9_comeOfView_391 : decode cX9_comeOfView 391 = .ok (.iaload, 1) := by decide +kernel
theorem dX9_comeOfView_392 : decode cX9_comeOfView 392 = .ok (.aload_n 0, 1) := by decide +kernel
theorem dX9_comeOfView_393 : decode cX9_comeOfView 393 = .ok (.getfield 31, 3) := by decide +kernel
theorem dX9_comeOfView_396 : decode cX9_comeOfView 396 = .ok (.iload_n 2, 1) := by decide +kernel
theorem dX9_comeOfView_397 : decode cX9_comeOfView 397 = .ok (.iaload, 1) := by decide +kernel
theorem dX9_comeOfView_398 : decode cX9_comeOfView 398 = .ok (.if_icmp .ne 86, 3) := by decide +kernel
theorem dX9_comeOfView_401 : decode cX9_comeOfView 401 = .ok (.aload_n 0, 1) := by decide +kernel
theorem dX9_comeOfView_402 : decode cX9_comeOfView 402 = .ok (.getfield 40, 3) := by decide +kernel
theorem dX9_comeOfView_405 : decode cX9_comeOfView 405 = .ok (.iload_n 2, 1) := by decide +kernel
theorem dX9_comeOfView_406 : decode cX9_comeOfView 406 = .ok (.iaload, 1) := by decide +kernel
theorem dX9_comeOfView_407 : decode cX9_comeOfView 407 = .ok (.iload_n 3, 1) := by decide +kernel
theorem dX9_comeOfView_408 : decode cX9_comeOfView 408 = .ok (.invokestatic 99, 3) := by decide +kernel
theorem dX9_comeOfView_411 : decode cX9_comeOfView 411 = .ok (.ifCond .ne 6, 3) := by decide +kernel
theorem dX9_comeOfView_414 : decode cX9_comeOfView 414 = .ok (.goto 70, 3) := by decide +kernel
theorem dX9_comeOfView_417 : decode cX9_comeOfView 417 = .ok (.aload_n 0, 1) := by decide +kernel
theorem dX9_comeOfView_418 : decode cX9_comeOfView 418 = .ok (.getfield 49, 3) := by decide +kernel
theorem dX9_comeOfView_421 : decode cX9_comeOfView 421 = .ok (.iload_n 2, 1) := by decide +kernel
theorem dX9_comeOfView_422 : decode cX9_comeOfView 422 = .ok (.dup2, 1) := by decide +kernel
theorem dX9_comeOfView_423 : decode cX9_comeOfView 423 = .ok (.iaload, 1) := by decide +kernel
theorem dX9_comeOfView_424 : decode cX9_comeOfView 424 = .ok (.iconst 1, 1) := by decide +kernel
theorem dX9_comeOfView_425 : decode cX9_comeOfView 425 = .ok (.iload_n 3, 1) := by decide +kernel
theorem dX9_comeOfView_426 : decode cX9_comeOfView 426 = .ok (.ishl, 1) := by decide +kernel
theorem dX9_comeOfView_427 : decode cX9_comeOfView 427 = .ok (.ior, 1) := by decide +kernel
theorem dX9_comeOfView_428 : decode cX9_comeOfView 428 = .ok (.iastore, 1) := by decide +kernel
theorem dX9_comeOfView_429 : decode cX9_comeOfView 429 = .ok (.aload_n 0, 1) := by decide +kernel
theorem dX9_comeOfView_430 : decode cX9_comeOfView 430 = .ok (.getfield 49, 3) := by decide +kernel
theorem dX9_comeOfView_433 : decode cX9_comeOfView 433 = .ok (.iload_n 2, 1) := by decide +kernel
theorem dX9_comeOfView_434 : decode cX9_comeOfView 434 = .ok (.iaload, 1) := by decide +kernel
theorem dX9_comeOfView_435 : decode cX9_comeOfView 435 = .ok (.aload_n 0, 1) := by decide +kernel
theorem dX9_comeOfView_436 : decode cX9_comeOfView 436 = .ok (.getfield 40, 3) := by decide +kernel
theorem dX9_comeOfView_439 : decode cX9_comeOfView 439 = .ok (.iload_n 2, 1) := by decide +kernel
theorem dX9_comeOfView_440 : decode cX9_comeOfView 440 = .ok (.iaload, 1) := by decide +kernel
theorem dX9_comeOfView_441 : decode cX9_comeOfView 441 = .ok (.if_icmp .ne 43, 3) := by decide +kernel
theorem dX9_comeOfView_444 : decode cX9_comeOfView 444 = .ok (.aload_n 0, 1) := by decide +kernel
theorem dX9_comeOfView_445 : decode cX9_comeOfView 445 = .ok (.iload_n 2, 1) := by decide +kernel
theorem dX9_comeOfView_446 : decode cX9_comeOfView 446 = .ok (.invokevirtual 164, 3) := by decide +kernel
theorem dX9_comeOfView_449 : decode cX9_comeOfView 449 = .ok (.goto 35, 3) := by decide +kernel
theorem dX9_comeOfView_452 : decode cX9_comeOfView 452 = .ok (.aload_n 0, 1) := by decide +kernel
theorem dX9_comeOfView_453 : decode cX9_comeOfView 453 = .ok (.getfield 80, 3) := by decide +kernel
theorem dX9_comeOfView_456 : decode cX9_comeOfView 456 = .ok (.iload_n 1, 1) := by decide +kernel
theorem dX9_comeOfView_457 : decode cX9_comeOfView 457 = .ok (.iaload, 1) := by decide +kernel
theorem dX9_comeOfView_458 : decode cX9_comeOfView 458 = .ok (.aload_n 0, 1) := by decide +kernel
theorem dX9_comeOfView_459 : decode cX9_comeOfView 459 = .ok (.getfield 31, 3) := by decide +kernel
theorem dX9_comeOfView_462 : decode cX9_comeOfView 462 = .ok (.iload_n 2, 1) := by decide +kernel
theorem dX9_comeOfView_463 : decode cX9_comeOfView 463 = .ok (.iaload, 1) := by decide +kernel
theorem dX9_comeOfView_464 : decode cX9_comeOfView 464 = .ok (.if_icmp .ne 20, 3) := by decide +kernel
theorem dX9_comeOfView_467 : decode cX9_comeOfView 467 = .ok (.aload_n 0, 1) := by decide +kernel
theorem dX9_comeOfView_468 : decode cX9_comeOfView 468 = .ok (.iload_n 2, 1) := by decide +kernel
theorem dX9_comeOfView_469 : decode cX9_comeOfView 469 = .ok (.aload_n 0, 1) := by decide +kernel
theorem dX9_comeOfView_470 : decode cX9_comeOfView 470 = .ok (.getfield 80, 3) := by decide +kernel
theorem dX9_comeOfView_473 : decode cX9_comeOfView 473 = .ok (.iload_n 1, 1) := by decide +kernel
theorem dX9_comeOfView_474 : decode cX9_comeOfView 474 = .ok (.iaload, 1) := by decide +kernel
theorem dX9_comeOfView_475 : decode cX9_comeOfView 475 = .ok (.aload_n 0, 1) := by decide +kernel
theorem dX9_comeOfView_476 : decode cX9_comeOfView 476 = .ok (.getfield 83, 3) := by decide +kernel
theorem dX9_comeOfView_479 : decode cX9_comeOfView 479 = .ok (.iload_n 1, 1) := by decide +kernel
theorem dX9_comeOfView_480 : decode cX9_comeOfView 480 = .ok (.iaload, 1) := by decide +kernel
theorem dX9_comeOfView_481 : decode cX9_comeOfView 481 = .ok (.invokevirtual 167, 3) := by decide +kernel
theorem dX9_comeOfView_484 : decode cX9_comeOfView 484 = .ok (.return_, 1) := by decide +kernel
theorem dX9_deliver_0 : decode cX9_deliver 0 = .ok (.aload_n 0, 1) := by decide +kernel
theorem dX9_deliver_1 : decode cX9_deliver 1 = .ok (.iload_n 1, 1) := by decide +kernel
theorem dX9_deliver_2 : decode cX9_deliver 2 = .ok (.invokevirtual 135, 3) := by decide +kernel
theorem dX9_deliver_5 : decode cX9_deliver 5 = .ok (.ifCond .eq 11, 3) := by decide +kernel
theorem dX9_deliver_8 : decode cX9_deliver 8 = .ok (.aload_n 0, 1) := by decide +kernel
theorem dX9_deliver_9 : decode cX9_deliver 9 = .ok (.iload_n 2, 1) := by decide +kernel
theorem dX9_deliver_10 : decode cX9_deliver 10 = .ok (.invokevirtual 135, 3) := by decide +kernel
theorem dX9_deliver_13 : decode cX9_deliver 13 = .ok (.ifCond .ne 5, 3) := by decide +kernel
theorem dX9_deliver_16 : decode cX9_deliver 16 = .ok (.iconst (-1), 1) := by decide +kernel
theorem dX9_deliver_17 : decode cX9_deliver 17 = .ok (.ireturn, 1) := by decide +kernel
theorem dX9_deliver_18 : decode cX9_deliver 18 = .ok (.aload_n 0, 1) := by decide +kernel
theorem dX9_deliver_19 : decode cX9_deliver 19 = .ok (.iload_n 1, 1) := by decide +kernel
theorem dX9_deliver_20 : decode cX9_deliver 20 = .ok (.iload_n 2, 1) := by decide +kernel
theorem dX9_deliver_21 : decode cX9_deliver 21 = .ok (.invokevirtual 180, 3) := by decide +kernel
theorem dX9_deliver_24 : decode cX9_deliver 24 = .ok (.istore_n 3, 1) := by decide +kernel
theorem dX9_deliver_25 : decode cX9_deliver 25 = .ok (.iload_n 3, 1) := by decide +kernel
theorem dX9_deliver_26 : decode cX9_deliver 26 = .ok (.iconst (-1), 1) := by decide +kernel
theorem dX9_deliver_27 : decode cX9_deliver 27 = .ok (.if_icmp .ne 5, 3) := by decide +kernel
theorem dX9_deliver_30 : decode cX9_deliver 30 = .ok (.iconst 0, 1) := by decide +kernel
theorem dX9_deliver_31 : decode cX9_deliver 31 = .ok (.ireturn, 1) := by decide +kernel
theorem dX9_deliver_32 : decode cX9_deliver 32 = .ok (.aload_n 0, 1) := by decide +kernel
theorem dX9_deliver_33 : decode cX9_deliver 33 = .ok (.getfield 67, 3) := by decide +kernel
theorem dX9_deliver_36 : decode cX9_deliver 36 = .ok (.iload_n 3, 1) := by decide +kernel
theorem dX9_deliver_37 : decode cX9_deliver 37 = .ok (.iconst 0, 1) := by decide +kernel
theorem dX9_deliver_38 : decode cX9_deliver 38 = .ok (.bastore, 1) := by decide +kernel
theorem dX9_deliver_39 : decode cX9_deliver 39 = .ok (.aload_n 0, 1) := by decide +kernel
theorem dX9_deliver_40 : decode cX9_deliver 40 = .ok (.dup, 1) := by decide +kernel
theorem dX9_deliver_41 : decode cX9_deliver 41 = .ok (.getfield 105, 3) := by decide +kernel
theorem dX9_deliver_44 : decode cX9_deliver 44 = .ok (.iconst 1, 1) := by decide +kernel
theorem dX9_deliver_45 : decode cX9_deliver 45 = .ok (.isub, 1) := by decide +kernel
theorem dX9_deliver_46 : decode cX9_deliver 46 = .ok (.putfield 105, 3) := by decide +kernel
theorem dX9_deliver_49 : decode cX9_deliver 49 = .ok (.aload_n 0, 1) := by decide +kernel
theorem dX9_deliver_50 : decode cX9_deliver 50 = .ok (.getfield 7, 3) := by decide +kernel
theorem dX9_deliver_53 : decode cX9_deliver 53 = .ok (.iload_n 2, 1) := by decide +kernel
theorem dX9_deliver_54 : decode cX9_deliver 54 = .ok (.iaload, 1) := by decide +kernel
theorem dX9_deliver_55 : decode cX9_deliver 55 = .ok (.ifCond .eq 23, 3) := by decide +kernel
theorem dX9_deliver_58 : decode cX9_deliver 58 = .ok (.aload_n 0, 1) := by decide +kernel
theorem dX9_deliver_59 : decode cX9_deliver 59 = .ok (.dup, 1) := by decide +kernel
theorem dX9_deliver_60 : decode cX9_deliver 60 = .ok (.getfield 108, 3) := by decide +kernel
theorem dX9_deliver_63 : decode cX9_deliver 63 = .ok (.iconst 1, 1) := by decide +kernel
theorem dX9_deliver_64 : decode cX9_deliver 64 = .ok (.iadd, 1) := by decide +kernel
theorem dX9_deliver_65 : decode cX9_deliver 65 = .ok (.putfield 108, 3) := by decide +kernel
theorem dX9_deliver_68 : decode cX9_deliver 68 = .ok (.bipush 20, 2) := by decide +kernel
theorem dX9_deliver_70 : decode cX9_deliver 70 = .ok (.aload_n 0, 1) := by decide +kernel
theorem dX9_deliver_71 : decode cX9_deliver 71 = .ok (.getfield 77, 3) := by decide +kernel
theorem dX9_deliver_74 : decode cX9_deliver 74 = .ok (.iload_n 3, 1) := by decide +kernel
theorem dX9_deliver_75 : decode cX9_deliver 75 = .ok (.iaload, 1) := by decide +kernel
theorem dX9_deliver_76 : decode cX9_deliver 76 = .ok (.iadd, 1) := by decide +kernel
theorem dX9_deliver_77 : decode cX9_deliver 77 = .ok (.ireturn, 1) := by decide +kernel
theorem dX9_deliver_78 : decode cX9_deliver 78 = .ok (.aload_n 0, 1) := by decide +kernel
theorem dX9_deliver_79 : decode cX9_deliver 79 = .ok (.getfield 77, 3) := by decide +kernel
theorem dX9_deliver_82 : decode cX9_deliver 82 = .ok (.iload_n 3, 1) := by decide +kernel
theorem dX9_deliver_83 : decode cX9_deliver 83 = .ok (.iaload, 1) := by decide +kernel
theorem dX9_deliver_84 : decode cX9_deliver 84 = .ok (.istore 4, 2) := by decide +kernel
theorem dX9_deliver_86 : decode cX9_deliver 86 = .ok (.aload_n 0, 1) := by decide +kernel
theorem dX9_deliver_87 : decode cX9_deliver 87 = .ok (.iload_n 3, 1) := by decide +kernel
theorem dX9_deliver_88 : decode cX9_deliver 88 = .ok (.invokevirtual 184, 3) := by decide +kernel
theorem dX9_deliver_91 : decode cX9_deliver 91 = .ok (.aload_n 0, 1) := by decide +kernel
theorem dX9_deliver_92 : decode cX9_deliver 92 = .ok (.sipush 500, 3) := by decide +kernel
theorem dX9_deliver_95 : decode cX9_deliver 95 = .ok (.invokevirtual 187, 3) := by decide +kernel
theorem dX9_deliver_98 : decode cX9_deliver 98 = .ok (.iload 4, 2) := by decide +kernel
theorem dX9_deliver_100 : decode cX9_deliver 100 = .ok (.ireturn, 1) := by decide +kernel
theorem dX9_keepLetter_0 : decode cX9_keepLetter 0 = .ok (.aload_n 0, 1) := by decide +kernel
theorem dX9_keepLetter_1 : decode cX9_keepLetter 1 = .ok (.getfield 71, 3) := by decide +kernel
theorem dX9_keepLetter_4 : decode cX9_keepLetter 4 = .ok (.sipush 500, 3) := by decide +kernel
theorem dX9_keepLetter_7 : decode cX9_keepLetter 7 = .ok (.aload_n 0, 1) := by decide +kernel
theorem dX9_keepLetter_8 : decode cX9_keepLetter 8 = .ok (.getfield 71, 3) := by decide +kernel
theorem dX9_keepLetter_11 : decode cX9_keepLetter 11 = .ok (.iload_n 1, 1) := by decide +kernel
theorem dX9_keepLetter_12 : decode cX9_keepLetter 12 = .ok (.iaload, 1) := by decide +kernel
theorem dX9_keepLetter_13 : decode cX9_keepLetter 13 = .ok (.iastore, 1) := by decide +kernel
theorem dX9_keepLetter_14 : decode cX9_keepLetter 14 = .ok (.aload_n 0, 1) := by decide +kernel
theorem dX9_keepLetter_15 : decode cX9_keepLetter 15 = .ok (.getfield 74, 3) := by decide +kernel
theorem dX9_keepLetter_18 : decode cX9_keepLetter 18 = .ok (.sipush 500, 3) := by decide +kernel
theorem dX9_keepLetter_21 : decode cX9_keepLetter 21 = .ok (.aload_n 0, 1) := by decide +kernel
theorem dX9_keepLetter_22 : decode cX9_keepLetter 22 = .ok (.getfield 74, 3) := by decide +kernel
theorem dX9_keepLetter_25 : decode cX9_keepLetter 25 = .ok (.iload_n 1, 1) := by decide +kernel
theorem dX9_keepLetter_26 : decode cX9_keepLetter 26 = .ok (.iaload, 1) := by decide +kernel
theorem dX9_keepLetter_27 : decode cX9_keepLetter 27 = .ok (.iastore, 1) := by decide +kernel
theorem dX9_keepLetter_28 : decode cX9_keepLetter 28 = .ok (.aload_n 0, 1) := by decide +kernel
theorem dX9_keepLetter_29 : decode cX9_keepLetter 29 = .ok (.getfield 77, 3) := by decide +kernel
theorem dX9_keepLetter_32 : decode cX9_keepLetter 32 = .ok (.sipush 500, 3) := by decide +kernel
theorem dX9_keepLetter_35 : decode cX9_keepLetter 35 = .ok (.aload_n 0, 1) := by decide +kernel
theorem dX9_keepLetter_36 : decode cX9_keepLetter 36 = .ok (.getfield 77, 3) := by decide +kernel
theorem dX9_keepLetter_39 : decode cX9_keepLetter 39 = .ok (.iload_n 1, 1) := by decide +kernel
theorem dX9_keepLetter_40 : decode cX9_keepLetter 40 = .ok (.iaload, 1) := by decide +kernel
theorem dX9_keepLetter_41 : decode cX9_keepLetter 41 = .ok (.iastore, 1) := by decide +kernel
theorem dX9_keepLetter_42 : decode cX9_keepLetter 42 = .ok (.aload_n 0, 1) := by decide +kernel
theorem dX9_keepLetter_43 : decode cX9_keepLetter 43 = .ok (.getfield 80, 3) := by decide +kernel
theorem dX9_keepLetter_46 : decode cX9_keepLetter 46 = .ok (.sipush 500, 3) := by decide +kernel
theorem dX9_keepLetter_49 : decode cX9_keepLetter 49 = .ok (.aload_n 0, 1) := by decide +kernel
theorem dX9_keepLetter_50 : decode cX9_keepLetter 50 = .ok (.getfield 80, 3) := by decide +kernel
theorem dX9_keepLetter_53 : decode cX9_keepLetter 53 = .ok (.iload_n 1, 1) := by decide +kernel
theorem dX9_keepLetter_54 : decode cX9_keepLetter 54 = .ok (.iaload, 1) := by decide +kernel
theorem dX9_keepLetter_55 : decode cX9_keepLetter 55 = .ok (.iastore, 1) := by decide +kernel
theorem dX9_keepLetter_56 : decode cX9_keepLetter 56 = .ok (.aload_n 0, 1) := by decide +kernel
theorem dX9_keepLetter_57 : decode cX9_keepLetter 57 = .ok (.getfield 83, 3) := by decide +kernel
theorem dX9_keepLetter_60 : decode cX9_keepLetter 60 = .ok (.sipush 500, 3) := by decide +kernel
theorem dX9_keepLetter_63 : decode cX9_keepLetter 63 = .ok (.aload_n 0, 1) := by decide +kernel
theorem dX9_keepLetter_64 : decode cX9_keepLetter 64 = .ok (.getfield 83, 3) := by decide +kernel
theorem dX9_keepLetter_67 : decode cX9_keepLetter 67 = .ok (.iload_n 1, 1) := by decide +kernel
theorem dX9_keepLetter_68 : decode cX9_keepLetter 68 = .ok (.iaload, 1) := by decide +kernel
theorem dX9_keepLetter_69 : decode cX9_keepLetter 69 = .ok (.iastore, 1) := by decide +kernel
theorem dX9_keepLetter_70 : decode cX9_keepLetter 70 = .ok (.aload_n 0, 1) := by decide +kernel
theorem dX9_keepLetter_71 : decode cX9_keepLetter 71 = .ok (.getfield 86, 3) := by decide +kernel
theorem dX9_keepLetter_74 : decode cX9_keepLetter 74 = .ok (.sipush 500, 3) := by decide +kernel
theorem dX9_keepLetter_77 : decode cX9_keepLetter 77 = .ok (.aload_n 0, 1) := by decide +kernel
theorem dX9_keepLetter_78 : decode cX9_keepLetter 78 = .ok (.getfield 86, 3) := by decide +kernel
theorem dX9_keepLetter_81 : decode cX9_keepLetter 81 = .ok (.iload_n 1, 1) := by decide +kernel
theorem dX9_keepLetter_82 : decode cX9_keepLetter 82 = .ok (.iaload, 1) := by decide +kernel
theorem dX9_keepLetter_83 : decode cX9_keepLetter 83 = .ok (.iastore, 1) := by decide +kernel
theorem dX9_keepLetter_84 : decode cX9_keepLetter 84 = .ok (.iconst 0, 1) := by decide +kernel
theorem dX9_keepLetter_85 : decode cX9_keepLetter 85 = .ok (.istore_n 2, 1) := by decide +kernel
theorem dX9_keepLetter_86 : decode cX9_keepLetter 86 = .ok (.iload_n 2, 1) := by decide +kernel
theorem dX9_keepLetter_87 : decode cX9_keepLetter 87 = .ok (.bipush 60, 2) := by decide +kernel
theorem dX9_keepLetter_89 : decode cX9_keepLetter 89 = .ok (.if_icmp .ge 30, 3) := by decide +kernel
theorem dX9_keepLetter_92 : decode cX9_keepLetter 92 = .ok (.aload_n 0, 1) := by decide +kernel
theorem dX9_keepLetter_93 : decode cX9_keepLetter 93 = .ok (.getfield 89, 3) := by decide +kernel
theorem dX9_keepLetter_96 : decode cX9_keepLetter 96 = .ok (.sipush 30000, 3) := by decide +kernel
theorem dX9_keepLetter_99 : decode cX9_keepLetter 99 = .ok (.iload_n 2, 1) := by decide +kernel
theorem dX9_keepLetter_100 : decode cX9_keepLetter 100 = .ok (.iadd, 1) := by decide +kernel
theorem dX9_keepLetter_101 : decode cX9_keepLetter 101 = .ok (.aload_n 0, 1) := by decide +kernel
theorem dX9_keepLetter_102 : decode cX9_keepLetter 102 = .ok (.getfield 89, 3) := by decide +kernel
theorem dX9_keepLetter_105 : decode cX9_keepLetter 105 = .ok (.bipush 60, 2) := by decide +kernel
theorem dX9_keepLetter_107 : decode cX9_keepLetter 107 = .ok (.iload_n 1, 1) := by decide +kernel
theorem dX9_keepLetter_108 : decode cX9_keepLetter 108 = .ok (.imul, 1) := by decide +kernel
theorem dX9_keepLetter_109 : decode cX9_keepLetter 109 = .ok (.iload_n 2, 1) := by decide +kernel
theorem dX9_keepLetter_110 : decode cX9_keepLetter 110 = .ok (.iadd, 1) := by decide +kernel
theorem dX9_keepLetter_111 : decode cX9_keepLetter 111 = .ok (.iaload, 1) := by decide +kernel
theorem dX9_keepLetter_112 : decode cX9_keepLetter 112 = .ok (.iastore, 1) := by decide +kernel
theorem dX9_keepLetter_113 : decode cX9_keepLetter 113 = .ok (.iinc 2 1, 3) := by decide +kernel
theorem dX9_keepLetter_116 : decode cX9_keepLetter 116 = .ok (.goto (-30), 3) := by decide +kernel
theorem dX9_keepLetter_119 : decode cX9_keepLetter 119 = .ok (.return_, 1) := by decide +kernel
theorem dX9_suspect_0 : decode cX9_suspect 0 = .ok (.aload_n 0, 1) := by decide +kernel
theorem dX9_suspect_1 : decode cX9_suspect 1 = .ok (.iload_n 1, 1) := by decide +kernel
theorem dX9_suspect_2 : decode cX9_suspect 2 = .ok (.invokevirtual 135, 3) := by decide +kernel
theorem dX9_suspect_5 : decode cX9_suspect 5 = .ok (.ifCond .eq 11, 3) := by decide +kernel
theorem dX9_suspect_8 : decode cX9_suspect 8 = .ok (.aload_n 0, 1) := by decide +kernel
theorem dX9_suspect_9 : decode cX9_suspect 9 = .ok (.iload_n 2, 1) := by decide +kernel
theorem dX9_suspect_10 : decode cX9_suspect 10 = .ok (.invokevirtual 135, 3) := by decide +kernel
theorem dX9_suspect_13 : decode cX9_suspect 13 = .ok (.ifCond .ne 5, 3) := by decide +kernel
theorem dX9_suspect_16 : decode cX9_suspect 16 = .ok (.iconst (-1), 1) := by decide +kernel
theorem dX9_suspect_17 : decode cX9_suspect 17 = .ok (.ireturn, 1) := by decide +kernel
theorem dX9_suspect_18 : decode cX9_suspect 18 = .ok (.aload_n 0, 1) := by decide +kernel
theorem dX9_suspect_19 : decode cX9_suspect 19 = .ok (.getfield 7, 3) := by decide +kernel
theorem dX9_suspect_22 : decode cX9_suspect 22 = .ok (.iload_n 1, 1) := by decide +kernel
theorem dX9_suspect_23 : decode cX9_suspect 23 = .ok (.iaload, 1) := by decide +kernel
theorem dX9_suspect_24 : decode cX9_suspect 24 = .ok (.ifCond .ne 21, 3) := by decide +kernel
theorem dX9_suspect_27 : decode cX9_suspect 27 = .ok (.iload_n 1, 1) := by decide +kernel
theorem dX9_suspect_28 : decode cX9_suspect 28 = .ok (.iload_n 2, 1) := by decide +kernel
theorem dX9_suspect_29 : decode cX9_suspect 29 = .ok (.if_icmp .eq 16, 3) := by decide +kernel
theorem dX9_suspect_32 : decode cX9_suspect 32 = .ok (.aload_n 0, 1) := by decide +kernel
theorem dX9_suspect_33 : decode cX9_suspect 33 = .ok (.getfield 34, 3) := by decide +kernel
theorem dX9_suspect_36 : decode cX9_suspect 36 = .ok (.iload_n 1, 1) := by decide +kernel
theorem dX9_suspect_37 : decode cX9_suspect 37 = .ok (.iaload, 1) := by decide +kernel
theorem dX9_suspect_38 : decode cX9_suspect 38 = .ok (.iload_n 2, 1) := by decide +kernel
theorem dX9_suspect_39 : decode cX9_suspect 39 = .ok (.invokestatic 99, 3) := by decide +kernel
theorem dX9_suspect_42 : decode cX9_suspect 42 = .ok (.ifCond .eq 5, 3) := by decide +kernel
theorem dX9_suspect_45 : decode cX9_suspect 45 = .ok (.iconst 0, 1) := by decide +kernel
theorem dX9_suspect_46 : decode cX9_suspect 46 = .ok (.ireturn, 1) := by decide +kernel
theorem dX9_suspect_47 : decode cX9_suspect 47 = .ok (.aload_n 0, 1) := by decide +kernel
theorem dX9_suspect_48 : decode cX9_suspect 48 = .ok (.getfield 34, 3) := by decide +kernel
theorem dX9_suspect_51 : decode cX9_suspect 51 = .ok (.iload_n 1, 1) := by decide +kernel
theorem dX9_suspect_52 : decode cX9_suspect 52 = .ok (.dup2, 1) := by decide +kernel
theorem dX9_suspect_53 : decode cX9_suspect 53 = .ok (.iaload, 1) := by decide +kernel
theorem dX9_suspect_54 : decode cX9_suspect 54 = .ok (.iconst 1, 1) := by decide +kernel
theorem dX9_suspect_55 : decode cX9_suspect 55 = .ok (.iload_n 2, 1) := by decide +kernel
theorem dX9_suspect_56 : decode cX9_suspect 56 = .ok (.ishl, 1) := by decide +kernel
theorem dX9_suspect_57 : decode cX9_suspect 57 = .ok (.ior, 1) := by decide +kernel
theorem dX9_suspect_58 : decode cX9_suspect 58 = .ok (.iastore, 1) := by decide +kernel
theorem dX9_suspect_59 : decode cX9_suspect 59 = .ok (.aload_n 0, 1) := by decide +kernel
theorem dX9_suspect_60 : decode cX9_suspect 60 = .ok (.getfield 37, 3) := by decide +kernel
theorem dX9_suspect_63 : decode cX9_suspect 63 = .ok (.iload_n 1, 1) := by decide +kernel
theorem dX9_suspect_64 : decode cX9_suspect 64 = .ok (.iaload, 1) := by decide +kernel
theorem dX9_suspect_65 : decode cX9_suspect 65 = .ok (.iconst 3, 1) := by decide +kernel
theorem dX9_suspect_66 : decode cX9_suspect 66 = .ok (.if_icmp .lt 24, 3) := by decide +kernel
theorem dX9_suspect_69 : decode cX9_suspect 69 = .ok (.aload_n 0, 1) := by decide +kernel
theorem dX9_suspect_70 : decode cX9_suspect 70 = .ok (.getfield 40, 3) := by decide +kernel
theorem dX9_suspect_73 : decode cX9_suspect 73 = .ok (.iload_n 1, 1) := by decide +kernel
theorem dX9_suspect_74 : decode cX9_suspect 74 = .ok (.iaload, 1) := by decide +kernel
theorem dX9_suspect_75 : decode cX9_suspect 75 = .ok (.iload_n 2, 1) := by decide +kernel
theorem dX9_suspect_76 : decode cX9_suspect 76 = .ok (.invokestatic 99, 3) := by decide +kernel
theorem dX9_suspect_79 : decode cX9_suspect 79 = .ok (.ifCond .eq 11, 3) := by decide +kernel
theorem dX9_suspect_82 : decode cX9_suspect 82 = .ok (.aload_n 0, 1) := by decide +kernel
theorem dX9_suspect_83 : decode cX9_suspect 83 = .ok (.iload_n 1, 1) := by decide +kernel
theorem dX9_suspect_84 : decode cX9_suspect 84 = .ok (.invokevirtual 152, 3) := by decide +kernel
theorem dX9_suspect_87 : decode cX9_suspect 87 = .ok (.goto 74, 3) := by decide +kernel
theorem dX9_suspect_90 : decode cX9_suspect 90 = .ok (.aload_n 0, 1) := by decide +kernel
theorem dX9_suspect_91 : decode cX9_suspect 91 = .ok (.iload_n 1, 1) := by decide +kernel
theorem dX9_suspect_92 : decode cX9_suspect 92 = .ok (.invokevirtual 142, 3) := by decide +kernel
theorem dX9_suspect_95 : decode cX9_suspect 95 = .ok (.ifCond .ne 33, 3) := by decide +kernel
theorem dX9_suspect_98 : decode cX9_suspect 98 = .ok (.aload_n 0, 1) := by decide +kernel
theorem dX9_suspect_99 : decode cX9_suspect 99 = .ok (.iload_n 1, 1) := by decide +kernel
theorem dX9_suspect_100 : decode cX9_suspect 100 = .ok (.invokevirtual 145, 3) := by decide +kernel
theorem dX9_suspect_103 : decode cX9_suspect 103 = .ok (.iload_n 1, 1) := by decide +kernel
theorem dX9_suspect_104 : decode cX9_suspect 104 = .ok (.if_icmp .ne 24, 3) := by decide +kernel
theorem dX9_suspect_107 : decode cX9_suspect 107 = .ok (.aload_n 0, 1) := by decide +kernel
theorem dX9_suspect_108 : decode cX9_suspect 108 = .ok (.getfield 16, 3) := by decide +kernel
theorem dX9_suspect_111 : decode cX9_suspect 111 = .ok (.iload_n 1, 1) := by decide +kernel
theorem dX9_suspect_112 : decode cX9_suspect 112 = .ok (.iaload, 1) := by decide +kernel
theorem dX9_suspect_113 : decode cX9_suspect 113 = .ok (.iload_n 2, 1) := by decide +kernel
theorem dX9_suspect_114 : decode cX9_suspect 114 = .ok (.invokestatic 99, 3) := by decide +kernel
theorem dX9_suspect_117 : decode cX9_suspect 117 = .ok (.ifCond .eq 11, 3) := by decide +kernel
theorem dX9_suspect_120 : decode cX9_suspect 120 = .ok (.aload_n 0, 1) := by decide +kernel
theorem dX9_suspect_121 : decode cX9_suspect 121 = .ok (.iload_n 1, 1) := by decide +kernel
theorem dX9_suspect_122 : decode cX9_suspect 122 = .ok (.invokevirtual 152, 3) := by decide +kernel
theorem dX9_suspect_125 : decode cX9_suspect 125 = .ok (.goto 36, 3) := by decide +kernel
theorem dX9_suspect_128 : decode cX9_suspect 128 = .ok (.aload_n 0, 1) := by decide +kernel
theorem dX9_suspect_129 : decode cX9_suspect 129 = .ok (.iload_n 1, 1) := by decide +kernel
theorem dX9_suspect_130 : decode cX9_suspect 130 = .ok (.invokevirtual 145, 3) := by decide +kernel
theorem dX9_suspect_133 : decode cX9_suspect 133 = .ok (.iload_n 2, 1) := by decide +kernel
theorem dX9_suspect_134 : decode cX9_suspect 134 = .ok (.if_icmp .eq 13, 3) := by decide +kernel
theorem dX9_suspect_137 : decode cX9_suspect 137 = .ok (.aload_n 0, 1) := by decide +kernel
theorem dX9_suspect_138 : decode cX9_suspect 138 = .ok (.getfield 43, 3) := by decide +kernel
theorem dX9_suspect_141 : decode cX9_suspect 141 = .ok (.iload_n 1, 1) := by decide +kernel
theorem dX9_suspect_142 : decode cX9_suspect 142 = .ok (.iaload, 1) := by decide +kernel
theorem dX9_suspect_143 : decode cX9_suspect 143 = .ok (.iload_n 2, 1) := by decide +kernel
theorem dX9_suspect_144 : decode cX9_suspect 144 = .ok (.if_icmp .ne 17, 3) := by decide +kernel
theorem dX9_suspect_147 : decode cX9_suspect 147 = .ok (.aload_n 0, 1) := by decide +kernel
theorem dX9_suspect_148 : decode cX9_suspect 148 = .ok (.getfield 37, 3) := by decide +kernel
theorem dX9_suspect_151 : decode cX9_suspect 151 = .ok (.iload_n 1, 1) := by decide +kernel
theorem dX9_suspect_152 : decode cX9_suspect 152 = .ok (.iaload, 1) := by decide +kernel
theorem dX9_suspect_153 : decode cX9_suspect 153 = .ok (.ifCond .ne 8, 3) := by decide +kernel
theorem dX9_suspect_156 : decode cX9_suspect 156 = .ok (.aload_n 0, 1) := by decide +kernel
theorem dX9_suspect_157 : decode cX9_suspect 157 = .ok (.iload_n 1, 1) := by decide +kernel
theorem dX9_suspect_158 : decode cX9_suspect 158 = .ok (.invokevirtual 174, 3) := by decide +kernel
theorem dX9_suspect_161 : decode cX9_suspect 161 = .ok (.iconst 1, 1) := by decide +kernel
theorem dX9_suspect_162 : decode cX9_suspect 162 = .ok (.ireturn, 1) := by decide +kernel
theorem dX9_crash_0 : decode cX9_crash 0 = .ok (.aload_n 0, 1) := by decide +kernel
theorem dX9_crash_1 : decode cX9_crash 1 = .ok (.iload_n 1, 1) := by decide +kernel
theorem dX9_crash_2 : decode cX9_crash 2 = .ok (.invokevirtual 135, 3) := by decide +kernel
theorem dX9_crash_5 : decode cX9_crash 5 = .ok (.ifCond .eq 12, 3) := by decide +kernel
theorem dX9_crash_8 : decode cX9_crash 8 = .ok (.aload_n 0, 1) := by decide +kernel
theorem dX9_crash_9 : decode cX9_crash 9 = .ok (.getfield 7, 3) := by decide +kernel
theorem dX9_crash_12 : decode cX9_crash 12 = .ok (.iload_n 1, 1) := by decide +kernel
theorem dX9_crash_13 : decode cX9_crash 13 = .ok (.iaload, 1) := by decide +kernel
theorem dX9_crash_14 : decode cX9_crash 14 = .ok (.ifCond .eq 5, 3) := by decide +kernel
theorem dX9_crash_17 : decode cX9_crash 17 = .ok (.iconst 0, 1) := by decide +kernel
theorem dX9_crash_18 : decode cX9_crash 18 = .ok (.ireturn, 1) := by decide +kernel
theorem dX9_crash_19 : decode cX9_crash 19 = .ok (.aload_n 0, 1) := by decide +kernel
theorem dX9_crash_20 : decode cX9_crash 20 = .ok (.getfield 7, 3) := by decide +kernel
theorem dX9_crash_23 : decode cX9_crash 23 = .ok (.iload_n 1, 1) := by decide +kernel
theorem dX9_crash_24 : decode cX9_crash 24 = .ok (.iconst 1, 1) := by decide +kernel
theorem dX9_crash_25 : decode cX9_crash 25 = .ok (.iastore, 1) := by decide +kernel
theorem dX9_crash_26 : decode cX9_crash 26 = .ok (.iconst 1, 1) := by decide +kernel
theorem dX9_crash_27 : decode cX9_crash 27 = .ok (.ireturn, 1) := by decide +kernel
theorem dX9_timeout_0 : decode cX9_timeout 0 = .ok (.aload_n 0, 1) := by decide +kernel
theorem dX9_timeout_1 : decode cX9_timeout 1 = .ok (.iload_n 1, 1) := by decide +kernel
theorem dX9_timeout_2 : decode cX9_timeout 2 = .ok (.invokevirtual 135, 3) := by decide +kernel
theorem dX9_timeout_5 : decode cX9_timeout 5 = .ok (.ifCond .ne 5, 3) := by decide +kernel
theorem dX9_timeout_8 : decode cX9_timeout 8 = .ok (.iconst (-1), 1) := by decide +kernel
theorem dX9_timeout_9 : decode cX9_timeout 9 = .ok (.ireturn, 1) := by decide +kernel
theorem dX9_timeout_10 : decode cX9_timeout 10 = .ok (.aload_n 0, 1) := by decide +kernel
theorem dX9_timeout_11 : decode cX9_timeout 11 = .ok (.getfield 7, 3) := by decide +kernel
theorem dX9_timeout_14 : decode cX9_timeout 14 = .ok (.iload_n 1, 1) := by decide +kernel
theorem dX9_timeout_15 : decode cX9_timeout 15 = .ok (.iaload, 1) := by decide +kernel
theorem dX9_timeout_16 : decode cX9_timeout 16 = .ok (.ifCond .ne 12, 3) := by decide +kernel
theorem dX9_timeout_19 : decode cX9_timeout 19 = .ok (.aload_n 0, 1) := by decide +kernel
theorem dX9_timeout_20 : decode cX9_timeout 20 = .ok (.getfield 37, 3) := by decide +kernel
theorem dX9_timeout_23 : decode cX9_timeout 23 = .ok (.iload_n 1, 1) := by decide +kernel
theorem dX9_timeout_24 : decode cX9_timeout 24 = .ok (.iaload, 1) := by decide +kernel
theorem dX9_timeout_25 : decode cX9_timeout 25 = .ok (.ifCond .ne 5, 3) := by decide +kernel
theorem dX9_timeout_28 : decode cX9_timeout 28 = .ok (.iconst 0, 1) := by decide +kernel
theorem dX9_timeout_29 : decode cX9_timeout 29 = .ok (.ireturn, 1) := by decide +kernel
theorem dX9_timeout_30 : decode cX9_timeout 30 = .ok (.aload_n 0, 1) := by decide +kernel
theorem dX9_timeout_31 : decode cX9_timeout 31 = .ok (.getfield 37, 3) := by decide +kernel
theorem dX9_timeout_34 : decode cX9_timeout 34 = .ok (.iload_n 1, 1) := by decide +kernel
theorem dX9_timeout_35 : decode cX9_timeout 35 = .ok (.iaload, 1) := by decide +kernel
theorem dX9_timeout_36 : decode cX9_timeout 36 = .ok (.iconst 2, 1) := by decide +kernel
theorem dX9_timeout_37 : decode cX9_timeout 37 = .ok (.if_icmp .ne 11, 3) := by decide +kernel
theorem dX9_timeout_40 : decode cX9_timeout 40 = .ok (.aload_n 0, 1) := by decide +kernel
theorem dX9_timeout_41 : decode cX9_timeout 41 = .ok (.iload_n 1, 1) := by decide +kernel
theorem dX9_timeout_42 : decode cX9_timeout 42 = .ok (.invokevirtual 174, 3) := by decide +kernel
theorem dX9_timeout_45 : decode cX9_timeout 45 = .ok (.goto 8, 3) := by decide +kernel
theorem dX9_timeout_48 : decode cX9_timeout 48 = .ok (.aload_n 0, 1) := by decide +kernel
theorem dX9_timeout_49 : decode cX9_timeout 49 = .ok (.iload_n 1, 1) := by decide +kernel
theorem dX9_timeout_50 : decode cX9_timeout 50 = .ok (.invokevirtual 152, 3) := by decide +kernel
theorem dX9_timeout_53 : decode cX9_timeout 53 = .ok (.iconst 1, 1) := by decide +kernel
theorem dX9_timeout_54 : decode cX9_timeout 54 = .ok (.ireturn, 1) := by decide +kernel
theorem dX9_node_0 : decode cX9_node 0 = .ok (.aload_n 0, 1) := by decide +kernel
theorem dX9_node_1 : decode cX9_node 1 = .ok (.iload_n 1, 1) := by decide +kernel
theorem dX9_node_2 : decode cX9_node 2 = .ok (.invokevirtual 135, 3) := by decide +kernel
theorem dX9_node_5 : decode cX9_node 5 = .ok (.ifCond .ne 5, 3) := by decide +kernel
theorem dX9_node_8 : decode cX9_node 8 = .ok (.iconst (-1), 1) := by decide +kernel
theorem dX9_node_9 : decode cX9_node 9 = .ok (.ireturn, 1) := by decide +kernel
theorem dX9_node_10 : decode cX9_node 10 = .ok (.iload_n 2, 1) := by decide +kernel
theorem dX9_node_11 : decode cX9_node 11 = .ok (.tableswitch 165 0 11 #[61, 68, 75, 82, 89, 95, 102, 109, 116, 123, 130, 144], 61) := by decide +kernel
theorem dX9_node_72 : decode cX9_node 72 = .ok (.aload_n 0, 1) := by decide +kernel
theorem dX9_node_73 : decode cX9_node 73 = .ok (.getfield 7, 3) := by decide +kernel
theorem dX9_node_76 : decode cX9_node 76 = .ok (.iload_n 1, 1) := by decide +kernel
theorem dX9_node_77 : decode cX9_node 77 = .ok (.iaload, 1) := by decide +kernel
theorem dX9_node_78 : decode cX9_node 78 = .ok (.ireturn, 1) := by decide +kernel
theorem dX9_node_79 : decode cX9_node 79 = .ok (.aload_n 0, 1) := by decide +kernel
theorem dX9_node_80 : decode cX9_node 80 = .ok (.getfield 37, 3) := by decide +kernel
theorem dX9_node_83 : decode cX9_node 83 = .ok (.iload_n 1, 1) := by decide +kernel
theorem dX9_node_84 : decode cX9_node 84 = .ok (.iaload, 1) := by decide +kernel
theorem dX9_node_85 : decode cX9_node 85 = .ok (.ireturn, 1) := by decide +kernel
theorem dX9_node_86 : decode cX9_node 86 = .ok (.aload_n 0, 1) := by decide +kernel
theorem dX9_node_87 : decode cX9_node 87 = .ok (.getfield 13, 3) := by decide +kernel
theorem dX9_node_90 : decode cX9_node 90 = .ok (.iload_n 1, 1) := by decide +kernel
theorem dX9_node_91 : decode cX9_node 91 = .ok (.iaload, 1) := by decide +kernel
theorem dX9_node_92 : decode cX9_node 92 = .ok (.ireturn, 1) := by decide +kernel
theorem dX9_node_93 : decode cX9_node 93 = .ok (.aload_n 0, 1) := by decide +kernel
theorem dX9_node_94 : decode cX9_node 94 = .ok (.getfield 16, 3) := by decide +kernel
theorem dX9_node_97 : decode cX9_node 97 = .ok (.iload_n 1, 1) := by decide +kernel
theorem dX9_node_98 : decode cX9_node 98 = .ok (.iaload, 1) := by decide +kernel
theorem dX9_node_99 : decode cX9_node 99 = .ok (.ireturn, 1) := by decide +kernel
theorem dX9_node_100 : decode cX9_node 100 = .ok (.aload_n 0, 1) := by decide +kernel
theorem dX9_node_101 : decode cX9_node 101 = .ok (.iload_n 1, 1) := by decide +kernel
theorem dX9_node_102 : decode cX9_node 102 = .ok (.invokevirtual 145, 3) := by decide +kernel
theorem dX9_node_105 : decode cX9_node 105 = .ok (.ireturn, 1) := by decide +kernel
theorem dX9_node_106 : decode cX9_node 106 = .ok (.aload_n 0, 1) := by decide +kernel
theorem dX9_node_107 : decode cX9_node 107 = .ok (.getfield 31, 3) := by decide +kernel
theorem dX9_node_110 : decode cX9_node 110 = .ok (.iload_n 1, 1) := by decide +kernel
theorem dX9_node_111 : decode cX9_node 111 = .ok (.iaload, 1) := by decide +kernel
theorem dX9_node_112 : decode cX9_node 112 = .ok (.ireturn, 1) := by decide +kernel
theorem dX9_node_113 : decode cX9_node 113 = .ok (.aload_n 0, 1) := by decide +kernel
theorem dX9_node_114 : decode cX9_node 114 = .ok (.getfield 34, 3) := by decide +kernel
theorem dX9_node_117 : decode cX9_node 117 = .ok (.iload_n 1, 1) := by decide +kernel
theorem dX9_node_118 : decode cX9_node 118 = .ok (.iaload, 1) := by decide +kernel
theorem dX9_node_119 : decode cX9_node 119 = .ok (.ireturn, 1) := by decide +kernel
theorem dX9_node_120 : decode cX9_node 120 = .ok (.aload_n 0, 1) := by decide +kernel
theorem dX9_node_121 : decode cX9_node 121 = .ok (.getfield 22, 3) := by decide +kernel
theorem dX9_node_124 : decode cX9_node 124 = .ok (.iload_n 1, 1) := by decide +kernel
theorem dX9_node_125 : decode cX9_node 125 = .ok (.iaload, 1) := by decide +kernel
theorem dX9_node_126 : decode cX9_node 126 = .ok (.ireturn, 1) := by decide +kernel
theorem dX9_node_127 : decode cX9_node 127 = .ok (.aload_n 0, 1) := by decide +kernel
theorem dX9_node_128 : decode cX9_node 128 = .ok (.getfield 25, 3) := by decide +kernel
theorem dX9_node_131 : decode cX9_node 131 = .ok (.iload_n 1, 1) := by decide +kernel
theorem dX9_node_132 : decode cX9_node 132 = .ok (.iaload, 1) := by decide +kernel
theorem dX9_node_133 : decode cX9_node 133 = .ok (.ireturn, 1) := by decide +kernel
theorem dX9_node_134 : decode cX9_node 134 = .ok (.aload_n 0, 1) := by decide +kernel
theorem dX9_node_135 : decode cX9_node 135 = .ok (.getfield 28, 3) := by decide +kernel
theorem dX9_node_138 : decode cX9_node 138 = .ok (.iload_n 1, 1) := by decide +kernel
theorem dX9_node_139 : decode cX9_node 139 = .ok (.iaload, 1) := by decide +kernel
theorem dX9_node_140 : decode cX9_node 140 = .ok (.ireturn, 1) := by decide +kernel
theorem dX9_node_141 : decode cX9_node 141 = .ok (.aload_n 0, 1) := by decide +kernel
theorem dX9_node_142 : decode cX9_node 142 = .ok (.iload_n 1, 1) := by decide +kernel
theorem dX9_node_143 : decode cX9_node 143 = .ok (.invokevirtual 142, 3) := by decide +kernel
theorem dX9_node_146 : decode cX9_node 146 = .ok (.ifCond .eq 7, 3) := by decide +kernel
theorem dX9_node_149 : decode cX9_node 149 = .ok (.iconst 1, 1) := by decide +kernel
theorem dX9_node_150 : decode cX9_node 150 = .ok (.goto 4, 3) := by decide +kernel
theorem dX9_node_153 : decode cX9_node 153 = .ok (.iconst 0, 1) := by decide +kernel
theorem dX9_node_154 : decode cX9_node 154 = .ok (.ireturn, 1) := by decide +kernel
theorem dX9_node_155 : decode cX9_node 155 = .ok (.aload_n 0, 1) := by decide +kernel
theorem dX9_node_156 : decode cX9_node 156 = .ok (.getfield 37, 3) := by decide +kernel
theorem dX9_node_159 : decode cX9_node 159 = .ok (.iload_n 1, 1) := by decide +kernel
theorem dX9_node_160 : decode cX9_node 160 = .ok (.iaload, 1) := by decide +kernel
theorem dX9_node_161 : decode cX9_node 161 = .ok (.iconst 3, 1) := by decide +kernel
theorem dX9_node_162 : decode cX9_node 162 = .ok (.if_icmp .lt 12, 3) := by decide +kernel
theorem dX9_node_165 : decode cX9_node 165 = .ok (.aload_n 0, 1) := by decide +kernel
theorem dX9_node_166 : decode cX9_node 166 = .ok (.getfield 40, 3) := by decide +kernel
theorem dX9_node_169 : decode cX9_node 169 = .ok (.iload_n 1, 1) := by decide +kernel
theorem dX9_node_170 : decode cX9_node 170 = .ok (.iaload, 1) := by decide +kernel
theorem dX9_node_171 : decode cX9_node 171 = .ok (.goto 4, 3) := by decide +kernel
theorem dX9_node_174 : decode cX9_node 174 = .ok (.iconst 0, 1) := by decide +kernel
theorem dX9_node_175 : decode cX9_node 175 = .ok (.ireturn, 1) := by decide +kernel
theorem dX9_node_176 : decode cX9_node 176 = .ok (.iconst (-1), 1) := by decide +kernel
theorem dX9_node_177 : decode cX9_node 177 = .ok (.ireturn, 1) := by decide +kernel
theorem dX9_held_0 : decode cX9_held 0 = .ok (.aload_n 0, 1) := by decide +kernel
theorem dX9_held_1 : decode cX9_held 1 = .ok (.iload_n 1, 1) := by decide +kernel
theorem dX9_held_2 : decode cX9_held 2 = .ok (.invokevirtual 135, 3) := by decide +kernel
theorem dX9_held_5 : decode cX9_held 5 = .ok (.ifCond .eq 31, 3) := by decide +kernel
theorem dX9_held_8 : decode cX9_held 8 = .ok (.iload_n 2, 1) := by decide +kernel
theorem dX9_held_9 : decode cX9_held 9 = .ok (.ifCond .lt 27, 3) := by decide +kernel
theorem dX9_held_12 : decode cX9_held 12 = .ok (.iload_n 2, 1) := by decide +kernel
theorem dX9_held_13 : decode cX9_held 13 = .ok (.aload_n 0, 1) := by decide +kernel
theorem dX9_held_14 : decode cX9_held 14 = .ok (.getfield 22, 3) := by decide +kernel
theorem dX9_held_17 : decode cX9_held 17 = .ok (.iload_n 1, 1) := by decide +kernel
theorem dX9_held_18 : decode cX9_held 18 = .ok (.iaload, 1) := by decide +kernel
theorem dX9_held_19 : decode cX9_held 19 = .ok (.if_icmp .ge 17, 3) := by decide +kernel
theorem dX9_held_22 : decode cX9_held 22 = .ok (.aload_n 0, 1) := by decide +kernel
theorem dX9_held_23 : decode cX9_held 23 = .ok (.getfield 19, 3) := by decide +kernel
theorem dX9_held_26 : decode cX9_held 26 = .ok (.bipush 60, 2) := by decide +kernel
theorem dX9_held_28 : decode cX9_held 28 = .ok (.iload_n 1, 1) := by decide +kernel
theorem dX9_held_29 : decode cX9_held 29 = .ok (.imul, 1) := by decide +kernel
theorem dX9_held_30 : decode cX9_held 30 = .ok (.iload_n 2, 1) := by decide +kernel
theorem dX9_held_31 : decode cX9_held 31 = .ok (.iadd, 1) := by decide +kernel
theorem dX9_held_32 : decode cX9_held 32 = .ok (.iaload, 1) := by decide +kernel
theorem dX9_held_33 : decode cX9_held 33 = .ok (.goto 5, 3) := by decide +kernel
theorem dX9_held_36 : decode cX9_held 36 = .ok (.ldc 190, 2) := by decide +kernel
theorem dX9_held_38 : decode cX9_held 38 = .ok (.ireturn, 1) := by decide +kernel
theorem dX9_depth_0 : decode cX9_depth 0 = .ok (.aload_n 0, 1) := by decide +kernel
theorem dX9_depth_1 : decode cX9_depth 1 = .ok (.iload_n 1, 1) := by decide +kernel
theorem dX9_depth_2 : decode cX9_depth 2 = .ok (.invokevirtual 135, 3) := by decide +kernel
theorem dX9_depth_5 : decode cX9_depth 5 = .ok (.ifCond .eq 12, 3) := by decide +kernel
theorem dX9_depth_8 : decode cX9_depth 8 = .ok (.aload_n 0, 1) := by decide +kernel
theorem dX9_depth_9 : decode cX9_depth 9 = .ok (.getfield 64, 3) := by decide +kernel
theorem dX9_depth_12 : decode cX9_depth 12 = .ok (.iload_n 1, 1) := by decide +kernel
theorem dX9_depth_13 : decode cX9_depth 13 = .ok (.iaload, 1) := by decide +kernel
theorem dX9_depth_14 : decode cX9_depth 14 = .ok (.goto 4, 3) := by decide +kernel
theorem dX9_depth_17 : decode cX9_depth 17 = .ok (.iconst (-1), 1) := by decide +kernel
theorem dX9_depth_18 : decode cX9_depth 18 = .ok (.ireturn, 1) := by decide +kernel
theorem dX9_top_0 : decode cX9_top 0 = .ok (.aload_n 0, 1) := by decide +kernel
theorem dX9_top_1 : decode cX9_top 1 = .ok (.iload_n 1, 1) := by decide +kernel
theorem dX9_top_2 : decode cX9_top 2 = .ok (.invokevirtual 135, 3) := by decide +kernel
theorem dX9_top_5 : decode cX9_top 5 = .ok (.ifCond .eq 40, 3) := by decide +kernel
theorem dX9_top_8 : decode cX9_top 8 = .ok (.iload_n 2, 1) := by decide +kernel
theorem dX9_top_9 : decode cX9_top 9 = .ok (.ifCond .lt 36, 3) := by decide +kernel
theorem dX9_top_12 : decode cX9_top 12 = .ok (.iload_n 2, 1) := by decide +kernel
theorem dX9_top_13 : decode cX9_top 13 = .ok (.aload_n 0, 1) := by decide +kernel
theorem dX9_top_14 : decode cX9_top 14 = .ok (.getfield 64, 3) := by decide +kernel
theorem dX9_top_17 : decode cX9_top 17 = .ok (.iload_n 1, 1) := by decide +kernel
theorem dX9_top_18 : decode cX9_top 18 = .ok (.iaload, 1) := by decide +kernel
theorem dX9_top_19 : decode cX9_top 19 = .ok (.if_icmp .ge 26, 3) := by decide +kernel
theorem dX9_top_22 : decode cX9_top 22 = .ok (.aload_n 0, 1) := by decide +kernel
theorem dX9_top_23 : decode cX9_top 23 = .ok (.getfield 61, 3) := by decide +kernel
theorem dX9_top_26 : decode cX9_top 26 = .ok (.bipush 20, 2) := by decide +kernel
theorem dX9_top_28 : decode cX9_top 28 = .ok (.iload_n 1, 1) := by decide +kernel
theorem dX9_top_29 : decode cX9_top 29 = .ok (.imul, 1) := by decide +kernel
theorem dX9_top_30 : decode cX9_top 30 = .ok (.aload_n 0, 1) := by decide +kernel
theorem dX9_top_31 : decode cX9_top 31 = .ok (.getfield 64, 3) := by decide +kernel
theorem dX9_top_34 : decode cX9_top 34 = .ok (.iload_n 1, 1) := by decide +kernel
theorem dX9_top_35 : decode cX9_top 35 = .ok (.iaload, 1) := by decide +kernel
theorem dX9_top_36 : decode cX9_top 36 = .ok (.iadd, 1) := by decide +kernel
theorem dX9_top_37 : decode cX9_top 37 = .ok (.iconst 1, 1) := by decide +kernel
theorem dX9_top_38 : decode cX9_top 38 = .ok (.isub, 1) := by decide +kernel
theorem dX9_top_39 : decode cX9_top 39 = .ok (.iload_n 2, 1) := by decide +kernel
theorem dX9_top_40 : decode cX9_top 40 = .ok (.isub, 1) := by decide +kernel
theorem dX9_top_41 : decode cX9_top 41 = .ok (.iaload, 1) := by decide +kernel
theorem dX9_top_42 : decode cX9_top 42 = .ok (.goto 4, 3) := by decide +kernel
theorem dX9_top_45 : decode cX9_top 45 = .ok (.iconst 0, 1) := by decide +kernel
theorem dX9_top_46 : decode cX9_top 46 = .ok (.ireturn, 1) := by decide +kernel
theorem dX9_flying_0 : decode cX9_flying 0 = .ok (.iload_n 1, 1) := by decide +kernel
theorem dX9_flying_1 : decode cX9_flying 1 = .ok (.iconst (-1), 1) := by decide +kernel
theorem dX9_flying_2 : decode cX9_flying 2 = .ok (.if_icmp .ne 8, 3) := by decide +kernel
theorem dX9_flying_5 : decode cX9_flying 5 = .ok (.aload_n 0, 1) := by decide +kernel
theorem dX9_flying_6 : decode cX9_flying 6 = .ok (.getfield 105, 3) := by decide +kernel
theorem dX9_flying_9 : decode cX9_flying 9 = .ok (.ireturn, 1) := by decide +kernel
theorem dX9_flying_10 : decode cX9_flying 10 = .ok (.aload_n 0, 1) := by decide +kernel
theorem dX9_flying_11 : decode cX9_flying 11 = .ok (.iload_n 1, 1) := by decide +kernel
theorem dX9_flying_12 : decode cX9_flying 12 = .ok (.invokevirtual 135, 3) := by decide +kernel
theorem dX9_flying_15 : decode cX9_flying 15 = .ok (.ifCond .eq 11, 3) := by decide +kernel
theorem dX9_flying_18 : decode cX9_flying 18 = .ok (.aload_n 0, 1) := by decide +kernel
theorem dX9_flying_19 : decode cX9_flying 19 = .ok (.iload_n 2, 1) := by decide +kernel
theorem dX9_flying_20 : decode cX9_flying 20 = .ok (.invokevirtual 135, 3) := by decide +kernel
theorem dX9_flying_23 : decode cX9_flying 23 = .ok (.ifCond .ne 5, 3) := by decide +kernel
theorem dX9_flying_26 : decode cX9_flying 26 = .ok (.iconst (-1), 1) := by decide +kernel
theorem dX9_flying_27 : decode cX9_flying 27 = .ok (.ireturn, 1) := by decide +kernel
theorem dX9_flying_28 : decode cX9_flying 28 = .ok (.iconst 0, 1) := by decide +kernel
theorem dX9_flying_29 : decode cX9_flying 29 = .ok (.istore_n 3, 1) := by decide +kernel
theorem dX9_flying_30 : decode cX9_flying 30 = .ok (.iconst 0, 1) := by decide +kernel
theorem dX9_flying_31 : decode cX9_flying 31 = .ok (.istore 4, 2) := by decide +kernel
theorem dX9_flying_33 : decode cX9_flying 33 = .ok (.iload 4, 2) := by decide +kernel
theorem dX9_flying_35 : decode cX9_flying 35 = .ok (.sipush 500, 3) := by decide +kernel
theorem dX9_flying_38 : decode cX9_flying 38 = .ok (.if_icmp .ge 49, 3) := by decide +kernel
theorem dX9_flying_41 : decode cX9_flying 41 = .ok (.iload_n 3, 1) := by decide +kernel
theorem dX9_flying_42 : decode cX9_flying 42 = .ok (.aload_n 0, 1) := by decide +kernel
theorem dX9_flying_43 : decode cX9_flying 43 = .ok (.getfield 67, 3) := by decide +kernel
theorem dX9_flying_46 : decode cX9_flying 46 = .ok (.iload 4, 2) := by decide +kernel
theorem dX9_flying_48 : decode cX9_flying 48 = .ok (.baload, 1) := by decide +kernel
theorem dX9_flying_49 : decode cX9_flying 49 = .ok (.ifCond .eq 29, 3) := by decide +kernel
theorem dX9_flying_52 : decode cX9_flying 52 = .ok (.aload_n 0, 1) := by decide +kernel
theorem dX9_flying_53 : decode cX9_flying 53 = .ok (.getfield 71, 3) := by decide +kernel
theorem dX9_flying_56 : decode cX9_flying 56 = .ok (.iload 4, 2) := by decide +kernel
theorem dX9_flying_58 : decode cX9_flying 58 = .ok (.iaload, 1) := by decide +kernel
theorem dX9_flying_59 : decode cX9_flying 59 = .ok (.iload_n 1, 1) := by decide +kernel
theorem dX9_flying_60 : decode cX9_flying 60 = .ok (.if_icmp .ne 18, 3) := by decide +kernel
theorem dX9_flying_63 : decode cX9_flying 63 = .ok (.aload_n 0, 1) := by decide +kernel
theorem dX9_flying_64 : decode cX9_flying 64 = .ok (.getfield 74, 3) := by decide +kernel
theorem dX9_flying_67 : decode cX9_flying 67 = .ok (.iload 4, 2) := by decide +kernel
theorem dX9_flying_69 : decode cX9_flying 69 = .ok (.iaload, 1) := by decide +kernel
theorem dX9_flying_70 : decode cX9_flying 70 = .ok (.iload_n 2, 1) := by decide +kernel
theorem dX9_flying_71 : decode cX9_flying 71 = .ok (.if_icmp .ne 7, 3) := by decide +kernel
theorem dX9_flying_74 : decode cX9_flying 74 = .ok (.iconst 1, 1) := by decide +kernel
theorem dX9_flying_75 : decode cX9_flying 75 = .ok (.goto 4, 3) := by decide +kernel
theorem dX9_flying_78 : decode cX9_flying 78 = .ok (.iconst 0, 1) := by decide +kernel
theorem dX9_flying_79 : decode cX9_flying 79 = .ok (.iadd, 1) := by decide +kernel
theorem dX9_flying_80 : decode cX9_flying 80 = .ok (.istore_n 3, 1) := by decide +kernel
theorem dX9_flying_81 : decode cX9_flying 81 = .ok (.iinc 4 1, 3) := by decide +kernel
theorem dX9_flying_84 : decode cX9_flying 84 = .ok (.goto (-51), 3) := by decide +kernel
theorem dX9_flying_87 : decode cX9_flying 87 = .ok (.iload_n 3, 1) := by decide +kernel
theorem dX9_flying_88 : decode cX9_flying 88 = .ok (.ireturn, 1) := by decide +kernel
theorem dX9_letter_0 : decode cX9_letter 0 = .ok (.aload_n 0, 1) := by decide +kernel
theorem dX9_letter_1 : decode cX9_letter 1 = .ok (.iload_n 1, 1) := by decide +kernel
theorem dX9_letter_2 : decode cX9_letter 2 = .ok (.invokevirtual 135, 3) := by decide +kernel
theorem dX9_letter_5 : decode cX9_letter 5 = .ok (.ifCond .eq 11, 3) := by decide +kernel
theorem dX9_letter_8 : decode cX9_letter 8 = .ok (.aload_n 0, 1) := by decide +kernel
theorem dX9_letter_9 : decode cX9_letter 9 = .ok (.iload_n 2, 1) := by decide +kernel
theorem dX9_letter_10 : decode cX9_letter 10 = .ok (.invokevirtual 135, 3) := by decide +kernel
theorem dX9_letter_13 : decode cX9_letter 13 = .ok (.ifCond .ne 5, 3) := by decide +kernel
theorem dX9_letter_16 : decode cX9_letter 16 = .ok (.iconst (-1), 1) := by decide +kernel
theorem dX9_letter_17 : decode cX9_letter 17 = .ok (.ireturn, 1) := by decide +kernel
theorem dX9_letter_18 : decode cX9_letter 18 = .ok (.aload_n 0, 1) := by decide +kernel
theorem dX9_letter_19 : decode cX9_letter 19 = .ok (.iload_n 1, 1) := by decide +kernel
theorem dX9_letter_20 : decode cX9_letter 20 = .ok (.iload_n 2, 1) := by decide +kernel
theorem dX9_letter_21 : decode cX9_letter 21 = .ok (.invokevirtual 180, 3) := by decide +kernel
theorem dX9_letter_24 : decode cX9_letter 24 = .ok (.istore 4, 2) := by decide +kernel
theorem dX9_letter_26 : decode cX9_letter 26 = .ok (.iload 4, 2) := by decide +kernel
theorem dX9_letter_28 : decode cX9_letter 28 = .ok (.iconst (-1), 1) := by decide +kernel
theorem dX9_letter_29 : decode cX9_letter 29 = .ok (.if_icmp .ne 5, 3) := by decide +kernel
theorem dX9_letter_32 : decode cX9_letter 32 = .ok (.iconst (-1), 1) := by decide +kernel
theorem dX9_letter_33 : decode cX9_letter 33 = .ok (.ireturn, 1) := by decide +kernel
theorem dX9_letter_34 : decode cX9_letter 34 = .ok (.iload_n 3, 1) := by decide +kernel
theorem dX9_letter_35 : decode cX9_letter 35 = .ok (.tableswitch 61 0 3 #[29, 37, 45, 53], 29) := by decide +kernel
theorem dX9_letter_64 : decode cX9_letter 64 = .ok (.aload_n 0, 1) := by decide +kernel
theorem dX9_letter_65 : decode cX9_letter 65 = .ok (.getfield 77, 3) := by decide +kernel
theorem dX9_letter_68 : decode cX9_letter 68 = .ok (.iload 4, 2) := by decide +kernel
theorem dX9_letter_70 : decode cX9_letter 70 = .ok (.iaload, 1) := by decide +kernel
theorem dX9_letter_71 : decode cX9_letter 71 = .ok (.ireturn, 1) := by decide +kernel
theorem dX9_letter_72 : decode cX9_letter 72 = .ok (.aload_n 0, 1) := by decide +kernel
theorem dX9_letter_73 : decode cX9_letter 73 = .ok (.getfield 80, 3) := by decide +kernel
theorem dX9_letter_76 : decode cX9_letter 76 = .ok (.iload 4, 2) := by decide +kernel
theorem dX9_letter_78 : decode cX9_letter 78 = .ok (.iaload, 1) := by decide +kernel
theorem dX9_letter_79 : decode cX9_letter 79 = .ok (.ireturn, 1) := by decide +kernel
theorem dX9_letter_80 : decode cX9_letter 80 = .ok (.aload_n 0, 1) := by decide +kernel
theorem dX9_letter_81 : decode cX9_letter 81 = .ok (.getfield 83, 3) := by decide +kernel
theorem dX9_letter_84 : decode cX9_letter 84 = .ok (.iload 4, 2) := by decide +kernel
theorem dX9_letter_86 : decode cX9_letter 86 = .ok (.iaload, 1) := by decide +kernel
theorem dX9_letter_87 : decode cX9_letter 87 = .ok (.ireturn, 1) := by decide +kernel
theorem dX9_letter_88 : decode cX9_letter 88 = .ok (.aload_n 0, 1) := by decide +kernel
theorem dX9_letter_89 : decode cX9_letter 89 = .ok (.getfield 86, 3) := by decide +kernel
theorem dX9_letter_92 : decode cX9_letter 92 = .ok (.iload 4, 2) := by decide +kernel
theorem dX9_letter_94 : decode cX9_letter 94 = .ok (.iaload, 1) := by decide +kernel
theorem dX9_letter_95 : decode cX9_letter 95 = .ok (.ireturn, 1) := by decide +kernel
theorem dX9_letter_96 : decode cX9_letter 96 = .ok (.iconst (-1), 1) := by decide +kernel
theorem dX9_letter_97 : decode cX9_letter 97 = .ok (.ireturn, 1) := by decide +kernel
theorem dX9_count_0 : decode cX9_count 0 = .ok (.iload_n 1, 1) := by decide +kernel
theorem dX9_count_1 : decode cX9_count 1 = .ok (.tableswitch 60 0 4 #[35, 40, 45, 50, 55], 35) := by decide +kernel
theorem dX9_count_36 : decode cX9_count 36 = .ok (.aload_n 0, 1) := by decide +kernel
theorem dX9_count_37 : decode cX9_count 37 = .ok (.getfield 102, 3) := by decide +kernel
theorem dX9_count_40 : decode cX9_count 40 = .ok (.ireturn, 1) := by decide +kernel
theorem dX9_count_41 : decode cX9_count 41 = .ok (.aload_n 0, 1) := by decide +kernel
theorem dX9_count_42 : decode cX9_count 42 = .ok (.getfield 108, 3) := by decide +kernel
theorem dX9_count_45 : decode cX9_count 45 = .ok (.ireturn, 1) := by decide +kernel
theorem dX9_count_46 : decode cX9_count 46 = .ok (.aload_n 0, 1) := by decide +kernel
theorem dX9_count_47 : decode cX9_count 47 = .ok (.getfield 115, 3) := by decide +kernel
theorem dX9_count_50 : decode cX9_count 50 = .ok (.ireturn, 1) := by decide +kernel
theorem dX9_count_51 : decode cX9_count 51 = .ok (.aload_n 0, 1) := by decide +kernel
theorem dX9_count_52 : decode cX9_count 52 = .ok (.getfield 171, 3) := by decide +kernel
theorem dX9_count_55 : decode cX9_count 55 = .ok (.ireturn, 1) := by decide +kernel
theorem dX9_count_56 : decode cX9_count 56 = .ok (.aload_n 0, 1) := by decide +kernel
theorem dX9_count_57 : decode cX9_count 57 = .ok (.getfield 158, 3) := by decide +kernel
theorem dX9_count_60 : decode cX9_count 60 = .ok (.ireturn, 1) := by decide +kernel
theorem dX9_count_61 : decode cX9_count 61 = .ok (.iconst (-1), 1) := by decide +kernel
theorem dX9_count_62 : decode cX9_count 62 = .ok (.ireturn, 1) := by decide +kernel
theorem dJ6_bitCount_0f7a4_0 : decode cJ6_bitCount_0f7a4 0 = .ok (.iload_n 0, 1) := by decide +kernel
theorem dJ6_bitCount_0f7a4_1 : decode cJ6_bitCount_0f7a4 1 = .ok (.iload_n 0, 1) := by decide +kernel
theorem dJ6_bitCount_0f7a4_2 : decode cJ6_bitCount_0f7a4 2 = .ok (.iconst 1, 1) := by decide +kernel
theorem dJ6_bitCount_0f7a4_3 : decode cJ6_bitCount_0f7a4 3 = .ok (.iushr, 1) := by decide +kernel
theorem dJ6_bitCount_0f7a4_4 : decode cJ6_bitCount_0f7a4 4 = .ok (.ldc_w 265, 3) := by decide +kernel
theorem dJ6_bitCount_0f7a4_7 : decode cJ6_bitCount_0f7a4 7 = .ok (.iand, 1) := by decide +kernel
theorem dJ6_bitCount_0f7a4_8 : decode cJ6_bitCount_0f7a4 8 = .ok (.isub, 1) := by decide +kernel
theorem dJ6_bitCount_0f7a4_9 : decode cJ6_bitCount_0f7a4 9 = .ok (.istore_n 0, 1) := by decide +kernel
theorem dJ6_bitCount_0f7a4_10 : decode cJ6_bitCount_0f7a4 10 = .ok (.iload_n 0, 1) := by decide +kernel
theorem dJ6_bitCount_0f7a4_11 : decode cJ6_bitCount_0f7a4 11 = .ok (.ldc_w 266, 3) := by decide +kernel
theorem dJ6_bitCount_0f7a4_14 : decode cJ6_bitCount_0f7a4 14 = .ok (.iand, 1) := by decide +kernel
theorem dJ6_bitCount_0f7a4_15 : decode cJ6_bitCount_0f7a4 15 = .ok (.iload_n 0, 1) := by decide +kernel
theorem dJ6_bitCount_0f7a4_16 : decode cJ6_bitCount_0f7a4 16 = .ok (.iconst 2, 1) := by decide +kernel
theorem dJ6_bitCount_0f7a4_17 : decode cJ6_bitCount_0f7a4 17 = .ok (.iushr, 1) := by decide +kernel
theorem dJ6_bitCount_0f7a4_18 : decode cJ6_bitCount_0f7a4 18 = .ok (.ldc_w 266, 3) := by decide +kernel
theorem dJ6_bitCount_0f7a4_21 : decode cJ6_bitCount_0f7a4 21 = .ok (.iand, 1) := by decide +kernel
theorem dJ6_bitCount_0f7a4_22 : decode cJ6_bitCount_0f7a4 22 = .ok (.iadd, 1) := by decide +kernel
theorem dJ6_bitCount_0f7a4_23 : decode cJ6_bitCount_0f7a4 23 = .ok (.istore_n 0, 1) := by decide +kernel
theorem dJ6_bitCount_0f7a4_24 : decode cJ6_bitCount_0f7a4 24 = .ok (.iload_n 0, 1) := by decide +kernel
theorem dJ6_bitCount_0f7a4_25 : decode cJ6_bitCount_0f7a4 25 = .ok (.iload_n 0, 1) := by decide +kernel
theorem dJ6_bitCount_0f7a4_26 : decode cJ6_bitCount_0f7a4 26 = .ok (.iconst 4, 1) := by decide +kernel
theorem dJ6_bitCount_0f7a4_27 : decode cJ6_bitCount_0f7a4 27 = .ok (.iushr, 1) := by decide +kernel
theorem dJ6_bitCount_0f7a4_28 : decode cJ6_bitCount_0f7a4 28 = .ok (.iadd, 1) := by decide +kernel
theorem dJ6_bitCount_0f7a4_29 : decode cJ6_bitCount_0f7a4 29 = .ok (.ldc_w 267, 3) := by decide +kernel
theorem dJ6_bitCount_0f7a4_32 : decode cJ6_bitCount_0f7a4 32 = .ok (.iand, 1) := by decide +kernel
theorem dJ6_bitCount_0f7a4_33 : decode cJ6_bitCount_0f7a4 33 = .ok (.istore_n 0, 1) := by decide +kernel
theorem dJ6_bitCount_0f7a4_34 : decode cJ6_bitCount_0f7a4 34 = .ok (.iload_n 0, 1) := by decide +kernel
theorem dJ6_bitCount_0f7a4_35 : decode cJ6_bitCount_0f7a4 35 = .ok (.iload_n 0, 1) := by decide +kernel
theorem dJ6_bitCount_0f7a4_36 : decode cJ6_bitCount_0f7a4 36 = .ok (.bipush 8, 2) := by decide +kernel
theorem dJ6_bitCount_0f7a4_38 : decode cJ6_bitCount_0f7a4 38 = .ok (.iushr, 1) := by decide +kernel
theorem dJ6_bitCount_0f7a4_39 : decode cJ6_bitCount_0f7a4 39 = .ok (.iadd, 1) := by decide +kernel
theorem dJ6_bitCount_0f7a4_40 : decode cJ6_bitCount_0f7a4 40 = .ok (.istore_n 0, 1) := by decide +kernel
theorem dJ6_bitCount_0f7a4_41 : decode cJ6_bitCount_0f7a4 41 = .ok (.iload_n 0, 1) := by decide +kernel
theorem dJ6_bitCount_0f7a4_42 : decode cJ6_bitCount_0f7a4 42 = .ok (.iload_n 0, 1) := by decide +kernel
theorem dJ6_bitCount_0f7a4_43 : decode cJ6_bitCount_0f7a4 43 = .ok (.bipush 16, 2) := by decide +kernel
theorem dJ6_bitCount_0f7a4_45 : decode cJ6_bitCount_0f7a4 45 = .ok (.iushr, 1) := by decide +kernel
theorem dJ6_bitCount_0f7a4_46 : decode cJ6_bitCount_0f7a4 46 = .ok (.iadd, 1) := by decide +kernel
theorem dJ6_bitCount_0f7a4_47 : decode cJ6_bitCount_0f7a4 47 = .ok (.istore_n 0, 1) := by decide +kernel
theorem dJ6_bitCount_0f7a4_48 : decode cJ6_bitCount_0f7a4 48 = .ok (.iload_n 0, 1) := by decide +kernel
theorem dJ6_bitCount_0f7a4_49 : decode cJ6_bitCount_0f7a4 49 = .ok (.bipush 63, 2) := by decide +kernel
theorem dJ6_bitCount_0f7a4_51 : decode cJ6_bitCount_0f7a4 51 = .ok (.iand, 1) := by decide +kernel
theorem dJ6_bitCount_0f7a4_52 : decode cJ6_bitCount_0f7a4 52 = .ok (.ireturn, 1) := by decide +kernel
theorem dJ9_floorMod_7cf53_0 : decode cJ9_floorMod_7cf53 0 = .ok (.iload_n 0, 1) := by decide +kernel
theorem dJ9_floorMod_7cf53_1 : decode cJ9_floorMod_7cf53 1 = .ok (.iload_n 1, 1) := by decide +kernel
theorem dJ9_floorMod_7cf53_2 : decode cJ9_floorMod_7cf53 2 = .ok (.irem, 1) := by decide +kernel
theorem dJ9_floorMod_7cf53_3 : decode cJ9_floorMod_7cf53 3 = .ok (.istore_n 2, 1) := by decide +kernel
theorem dJ9_floorMod_7cf53_4 : decode cJ9_floorMod_7cf53 4 = .ok (.iload_n 0, 1) := by decide +kernel
theorem dJ9_floorMod_7cf53_5 : decode cJ9_floorMod_7cf53 5 = .ok (.iload_n 1, 1) := by decide +kernel
theorem dJ9_floorMod_7cf53_6 : decode cJ9_floorMod_7cf53 6 = .ok (.ixor, 1) := by decide +kernel
theorem dJ9_floorMod_7cf53_7 : decode cJ9_floorMod_7cf53 7 = .ok (.ifCond .ge 11, 3) := by decide +kernel
theorem dJ9_floorMod_7cf53_10 : decode cJ9_floorMod_7cf53 10 = .ok (.iload_n 2, 1) := by decide +kernel
theorem dJ9_floorMod_7cf53_11 : decode cJ9_floorMod_7cf53 11 = .ok (.ifCond .eq 7, 3) := by decide +kernel
theorem dJ9_floorMod_7cf53_14 : decode cJ9_floorMod_7cf53 14 = .ok (.iload_n 2, 1) := by decide +kernel
theorem dJ9_floorMod_7cf53_15 : decode cJ9_floorMod_7cf53 15 = .ok (.iload_n 1, 1) := by decide +kernel
theorem dJ9_floorMod_7cf53_16 : decode cJ9_floorMod_7cf53 16 = .ok (.iadd, 1) := by decide +kernel
theorem dJ9_floorMod_7cf53_17 : decode cJ9_floorMod_7cf53 17 = .ok (.ireturn, 1) := by decide +kernel
theorem dJ9_floorMod_7cf53_18 : decode cJ9_floorMod_7cf53 18 = .ok (.iload_n 2, 1) := by decide +kernel
theorem dJ9_floorMod_7cf53_19 : decode cJ9_floorMod_7cf53 19 = .ok (.ireturn, 1) := by decide +kernel
theorem dJ9_max_7cf53_0 : decode cJ9_max_7cf53 0 = .ok (.iload_n 0, 1) := by decide +kernel
theorem dJ9_max_7cf53_1 : decode cJ9_max_7cf53 1 = .ok (.iload_n 1, 1) := by decide +kernel
theorem dJ9_max_7cf53_2 : decode cJ9_max_7cf53 2 = .ok (.if_icmp .lt 7, 3) := by decide +kernel
theorem dJ9_max_7cf53_5 : decode cJ9_max_7cf53 5 = .ok (.iload_n 0, 1) := by decide +kernel
theorem dJ9_max_7cf53_6 : decode cJ9_max_7cf53 6 = .ok (.goto 4, 3) := by decide +kernel
theorem dJ9_max_7cf53_9 : decode cJ9_max_7cf53 9 = .ok (.iload_n 1, 1) := by decide +kernel
theorem dJ9_max_7cf53_10 : decode cJ9_max_7cf53 10 = .ok (.ireturn, 1) := by decide +kernel
theorem dJ9_min_7cf53_0 : decode cJ9_min_7cf53 0 = .ok (.iload_n 0, 1) := by decide +kernel
theorem dJ9_min_7cf53_1 : decode cJ9_min_7cf53 1 = .ok (.iload_n 1, 1) := by decide +kernel
theorem dJ9_min_7cf53_2 : decode cJ9_min_7cf53 2 = .ok (.if_icmp .gt 7, 3) := by decide +kernel
theorem dJ9_min_7cf53_5 : decode cJ9_min_7cf53 5 = .ok (.iload_n 0, 1) := by decide +kernel
theorem dJ9_min_7cf53_6 : decode cJ9_min_7cf53 6 = .ok (.goto 4, 3) := by decide +kernel
theorem dJ9_min_7cf53_9 : decode cJ9_min_7cf53 9 = .ok (.iload_n 1, 1) := by decide +kernel
theorem dJ9_min_7cf53_10 : decode cJ9_min_7cf53 10 = .ok (.ireturn, 1) := by decide +kernel
theorem dJ7_fill_53178_0 : decode cJ7_fill_53178 0 = .ok (.iconst 0, 1) := by decide +kernel
theorem dJ7_fill_53178_1 : decode cJ7_fill_53178 1 = .ok (.istore_n 2, 1) := by decide +kernel
theorem dJ7_fill_53178_2 : decode cJ7_fill_53178 2 = .ok (.aload_n 0, 1) := by decide +kernel
theorem dJ7_fill_53178_3 : decode cJ7_fill_53178 3 = .ok (.arraylength, 1) := by decide +kernel
theorem dJ7_fill_53178_4 : decode cJ7_fill_53178 4 = .ok (.istore_n 3, 1) := by decide +kernel
theorem dJ7_fill_53178_5 : decode cJ7_fill_53178 5 = .ok (.iload_n 2, 1) := by decide +kernel
theorem dJ7_fill_53178_6 : decode cJ7_fill_53178 6 = .ok (.iload_n 3, 1) := by decide +kernel
theorem dJ7_fill_53178_7 : decode cJ7_fill_53178 7 = .ok (.if_icmp .ge 13, 3) := by decide +kernel
theorem dJ7_fill_53178_10 : decode cJ7_fill_53178 10 = .ok (.aload_n 0, 1) := by decide +kernel
theorem dJ7_fill_53178_11 : decode cJ7_fill_53178 11 = .ok (.iload_n 2, 1) := by decide +kernel
theorem dJ7_fill_53178_12 : decode cJ7_fill_53178 12 = .ok (.iload_n 1, 1) := by decide +kernel
theorem dJ7_fill_53178_13 : decode cJ7_fill_53178 13 = .ok (.iastore, 1) := by decide +kernel
theorem dJ7_fill_53178_14 : decode cJ7_fill_53178 14 = .ok (.iinc 2 1, 3) := by decide +kernel
theorem dJ7_fill_53178_17 : decode cJ7_fill_53178 17 = .ok (.goto (-12), 3) := by decide +kernel
theorem dJ7_fill_53178_20 : decode cJ7_fill_53178 20 = .ok (.return_, 1) := by decide +kernel
theorem dJ7_copyOf_59c91_0 : decode cJ7_copyOf_59c91 0 = .ok (.iload_n 1, 1) := by decide +kernel
theorem dJ7_copyOf_59c91_1 : decode cJ7_copyOf_59c91 1 = .ok (.aload_n 0, 1) := by decide +kernel
theorem dJ7_copyOf_59c91_2 : decode cJ7_copyOf_59c91 2 = .ok (.arraylength, 1) := by decide +kernel
theorem dJ7_copyOf_59c91_3 : decode cJ7_copyOf_59c91 3 = .ok (.if_icmp .ne 11, 3) := by decide +kernel
theorem dJ7_copyOf_59c91_6 : decode cJ7_copyOf_59c91 6 = .ok (.aload_n 0, 1) := by decide +kernel
theorem dJ7_copyOf_59c91_7 : decode cJ7_copyOf_59c91 7 = .ok (.invokevirtual 316, 3) := by decide +kernel
theorem dJ7_copyOf_59c91_10 : decode cJ7_copyOf_59c91 10 = .ok (.checkcast 317, 3) := by decide +kernel
theorem dJ7_copyOf_59c91_13 : decode cJ7_copyOf_59c91 13 = .ok (.areturn, 1) := by decide +kernel
theorem dJ7_copyOf_59c91_14 : decode cJ7_copyOf_59c91 14 = .ok (.iload_n 1, 1) := by decide +kernel
theorem dJ7_copyOf_59c91_15 : decode cJ7_copyOf_59c91 15 = .ok (.newarray .int, 2) := by decide +kernel
theorem dJ7_copyOf_59c91_17 : decode cJ7_copyOf_59c91 17 = .ok (.astore_n 2, 1) := by decide +kernel
theorem dJ7_copyOf_59c91_18 : decode cJ7_copyOf_59c91 18 = .ok (.aload_n 0, 1) := by decide +kernel
theorem dJ7_copyOf_59c91_19 : decode cJ7_copyOf_59c91 19 = .ok (.iconst 0, 1) := by decide +kernel
theorem dJ7_copyOf_59c91_20 : decode cJ7_copyOf_59c91 20 = .ok (.aload_n 2, 1) := by decide +kernel
theorem dJ7_copyOf_59c91_21 : decode cJ7_copyOf_59c91 21 = .ok (.iconst 0, 1) := by decide +kernel
theorem dJ7_copyOf_59c91_22 : decode cJ7_copyOf_59c91 22 = .ok (.aload_n 0, 1) := by decide +kernel
theorem dJ7_copyOf_59c91_23 : decode cJ7_copyOf_59c91 23 = .ok (.arraylength, 1) := by decide +kernel
theorem dJ7_copyOf_59c91_24 : decode cJ7_copyOf_59c91 24 = .ok (.iload_n 1, 1) := by decide +kernel
theorem dJ7_copyOf_59c91_25 : decode cJ7_copyOf_59c91 25 = .ok (.invokestatic 304, 3) := by decide +kernel
theorem dJ7_copyOf_59c91_28 : decode cJ7_copyOf_59c91 28 = .ok (.invokestatic 150, 3) := by decide +kernel
theorem dJ7_copyOf_59c91_31 : decode cJ7_copyOf_59c91 31 = .ok (.aload_n 2, 1) := by decide +kernel
theorem dJ7_copyOf_59c91_32 : decode cJ7_copyOf_59c91 32 = .ok (.areturn, 1) := by decide +kernel
theorem dL_cell_0 : decode cL_cell 0 = .ok (.iload_n 1, 1) := by decide +kernel
theorem dL_cell_1 : decode cL_cell 1 = .ok (.aload_n 0, 1) := by decide +kernel
theorem dL_cell_2 : decode cL_cell 2 = .ok (.arraylength, 1) := by decide +kernel
theorem dL_cell_3 : decode cL_cell 3 = .ok (.if_icmp .ge 9, 3) := by decide +kernel
theorem dL_cell_6 : decode cL_cell 6 = .ok (.aload_n 0, 1) := by decide +kernel
theorem dL_cell_7 : decode cL_cell 7 = .ok (.iload_n 1, 1) := by decide +kernel
theorem dL_cell_8 : decode cL_cell 8 = .ok (.iaload, 1) := by decide +kernel
theorem dL_cell_9 : decode cL_cell 9 = .ok (.goto 4, 3) := by decide +kernel
theorem dL_cell_12 : decode cL_cell 12 = .ok (.iconst 0, 1) := by decide +kernel
theorem dL_cell_13 : decode cL_cell 13 = .ok (.ireturn, 1) := by decide +kernel
theorem dL_law_0 : decode cL_law 0 = .ok (.new 7, 3) := by decide +kernel
theorem dL_law_3 : decode cL_law 3 = .ok (.dup, 1) := by decide +kernel
theorem dL_law_4 : decode cL_law 4 = .ok (.aload_n 0, 1) := by decide +kernel
theorem dL_law_5 : decode cL_law 5 = .ok (.iconst 0, 1) := by decide +kernel
theorem dL_law_6 : decode cL_law 6 = .ok (.invokestatic 9, 3) := by decide +kernel
theorem dL_law_9 : decode cL_law 9 = .ok (.invokespecial 15, 3) := by decide +kernel
theorem dL_law_12 : decode cL_law 12 = .ok (.astore_n 1, 1) := by decide +kernel
theorem dL_law_13 : decode cL_law 13 = .ok (.new 18, 3) := by decide +kernel
theorem dL_law_16 : decode cL_law 16 = .ok (.dup, 1) := by decide +kernel
theorem dL_law_17 : decode cL_law 17 = .ok (.aload_n 0, 1) := by decide +kernel
theorem dL_law_18 : decode cL_law 18 = .ok (.iconst 0, 1) := by decide +kernel
theorem dL_law_19 : decode cL_law 19 = .ok (.invokestatic 9, 3) := by decide +kernel
theorem dL_law_22 : decode cL_law 22 = .ok (.invokespecial 20, 3) := by decide +kernel
theorem dL_law_25 : decode cL_law 25 = .ok (.astore_n 2, 1) := by decide +kernel
theorem dL_law_26 : decode cL_law 26 = .ok (.iconst 1, 1) := by decide +kernel
theorem dL_law_27 : decode cL_law 27 = .ok (.istore_n 3, 1) := by decide +kernel
theorem dL_law_28 : decode cL_law 28 = .ok (.iload_n 3, 1) := by decide +kernel
theorem dL_law_29 : decode cL_law 29 = .ok (.aload_n 0, 1) := by decide +kernel
theorem dL_law_30 : decode cL_law 30 = .ok (.arraylength, 1) := by decide +kernel
theorem dL_law_31 : decode cL_law 31 = .ok (.iconst 4, 1) := by decide +kernel
theorem dL_law_32 : decode cL_law 32 = .ok (.isub, 1) := by decide +kernel
theorem dL_law_33 : decode cL_law 33 = .ok (.if_icmp .gt 443, 3) := by decide +kernel
theorem dL_law_36 : decode cL_law 36 = .ok (.aload_n 0, 1) := by decide +kernel
theorem dL_law_37 : decode cL_law 37 = .ok (.iload_n 3, 1) := by decide +kernel
theorem dL_law_38 : decode cL_law 38 = .ok (.iaload, 1) := by decide +kernel
theorem dL_law_39 : decode cL_law 39 = .ok (.bipush 15, 2) := by decide +kernel
theorem dL_law_41 : decode cL_law 41 = .ok (.iand, 1) := by decide +kernel
theorem dL_law_42 : decode cL_law 42 = .ok (.tableswitch 428 0 11 #[62, 95, 128, 161, 184, 207, 240, 273, 296, 329, 362, 405], 62) := by decide +kernel
theorem dL_law_104 : decode cL_law 104 = .ok (.aload_n 1, 1) := by decide +kernel
theorem dL_law_105 : decode cL_law 105 = .ok (.aload_n 0, 1) := by decide +kernel
theorem dL_law_106 : decode cL_law 106 = .ok (.iload_n 3, 1) := by decide +kernel
theorem dL_law_107 : decode cL_law 107 = .ok (.iconst 1, 1) := by decide +kernel
theorem dL_law_108 : decode cL_law 108 = .ok (.iadd, 1) := by decide +kernel
theorem dL_law_109 : decode cL_law 109 = .ok (.iaload, 1) := by decide +kernel
theorem dL_law_110 : decode cL_law 110 = .ok (.aload_n 0, 1) := by decide +kernel
theorem dL_law_111 : decode cL_law 111 = .ok (.iload_n 3, 1) := by decide +kernel
theorem dL_law_112 : decode cL_law 112 = .ok (.iconst 2, 1) := by decide +kernel
theorem dL_law_113 : decode cL_law 113 = .ok (.iadd, 1) := by decide +kernel
theorem dL_law_114 : decode cL_law 114 = .ok (.iaload, 1) := by decide +kernel
theorem dL_law_115 : decode cL_law 115 = .ok (.invokevirtual 21, 3) := by decide +kernel
theorem dL_law_118 : decode cL_law 118 = .ok (.aload_n 2, 1) := by decide +kernel
theorem dL_law_119 : decode cL_law 119 = .ok (.aload_n 0, 1) := by decide +kernel
theorem dL_law_120 : decode cL_law 120 = .ok (.iload_n 3, 1) := by decide +kernel
theorem dL_law_121 : decode cL_law 121 = .ok (.iconst 1, 1) := by decide +kernel
theorem dL_law_122 : decode cL_law 122 = .ok (.iadd, 1) := by decide +kernel
theorem dL_law_123 : decode cL_law 123 = .ok (.iaload, 1) := by decide +kernel
theorem dL_law_124 : decode cL_law 124 = .ok (.aload_n 0, 1) := by decide +kernel
theorem dL_law_125 : decode cL_law 125 = .ok (.iload_n 3, 1) := by decide +kernel
theorem dL_law_126 : decode cL_law 126 = .ok (.iconst 2, 1) := by decide +kernel
theorem dL_law_127 : decode cL_law 127 = .ok (.iadd, 1) := by decide +kernel
theorem dL_law_128 : decode cL_law 128 = .ok (.iaload, 1) := by decide +kernel
theorem dL_law_129 : decode cL_law 129 = .ok (.invokevirtual 25, 3) := by decide +kernel
theorem dL_law_132 : decode cL_law 132 = .ok (.if_icmp .eq 338, 3) := by decide +kernel
theorem dL_law_135 : decode cL_law 135 = .ok (.iconst 0, 1) := by decide +kernel
theorem dL_law_136 : decode cL_law 136 = .ok (.ireturn, 1) := by decide +kernel
theorem dL_law_137 : decode cL_law 137 = .ok (.aload_n 1, 1) := by decide +kernel
theorem dL_law_138 : decode cL_law 138 = .ok (.aload_n 0, 1) := by decide +kernel
theorem dL_law_139 : decode cL_law 139 = .ok (.iload_n 3, 1) := by decide +kernel
theorem dL_law_140 : decode cL_law 140 = .ok (.iconst 1, 1) := by decide +kernel
theorem dL_law_141 : decode cL_law 141 = .ok (.iadd, 1) := by decide +kernel
theorem dL_law_142 : decode cL_law 142 = .ok (.iaload, 1) := by decide +kernel
theorem dL_law_143 : decode cL_law 143 = .ok (.aload_n 0, 1) := by decide +kernel
theorem dL_law_144 : decode cL_law 144 = .ok (.iload_n 3, 1) := by decide +kernel
theorem dL_law_145 : decode cL_law 145 = .ok (.iconst 2, 1) := by decide +kernel
theorem dL_law_146 : decode cL_law 146 = .ok (.iadd, 1) := by decide +kernel
theorem dL_law_147 : decode cL_law 147 = .ok (.iaload, 1) := by decide +kernel
theorem dL_law_148 : decode cL_law 148 = .ok (.invokevirtual 26, 3) := by decide +kernel
theorem dL_law_151 : decode cL_law 151 = .ok (.aload_n 2, 1) := by decide +kernel
theorem dL_law_152 : decode cL_law 152 = .ok (.aload_n 0, 1) := by decide +kernel
theorem dL_law_153 : decode cL_law 153 = .ok (.iload_n 3, 1) := by decide +kernel
theorem dL_law_154 : decode cL_law 154 = .ok (.iconst 1, 1) := by decide +kernel
theorem dL_law_155 : decode cL_law 155 = .ok (.iadd, 1) := by decide +kernel
theorem dL_law_156 : decode cL_law 156 = .ok (.iaload, 1) := by decide +kernel
theorem dL_law_157 : decode cL_law 157 = .ok (.aload_n 0, 1) := by decide +kernel
theorem dL_law_158 : decode cL_law 158 = .ok (.iload_n 3, 1) := by decide +kernel
theorem dL_law_159 : decode cL_law 159 = .ok (.iconst 2, 1) := by decide +kernel
theorem dL_law_160 : decode cL_law 160 = .ok (.iadd, 1) := by decide +kernel
theorem dL_law_161 : decode cL_law 161 = .ok (.iaload, 1) := by decide +kernel
theorem dL_law_162 : decode cL_law 162 = .ok (.invokevirtual 29, 3) := by decide +kernel
theorem dL_law_165 : decode cL_law 165 = .ok (.if_icmp .eq 305, 3) := by decide +kernel
theorem dL_law_168 : decode cL_law 168 = .ok (.iconst 0, 1) := by decide +kernel
theorem dL_law_169 : decode cL_law 169 = .ok (.ireturn, 1) := by decide +kernel
theorem dL_law_170 : decode cL_law 170 = .ok (.aload_n 1, 1) := by decide +kernel
theorem dL_law_171 : decode cL_law 171 = .ok (.aload_n 0, 1) := by decide +kernel
theorem dL_law_172 : decode cL_law 172 = .ok (.iload_n 3, 1) := by decide +kernel
theorem dL_law_173 : decode cL_law 173 = .ok (.iconst 1, 1) := by decide +kernel
theorem dL_law_174 : decode cL_law 174 = .ok (.iadd, 1) := by decide +kernel
theorem dL_law_175 : decode cL_law 175 = .ok (.iaload, 1) := by decide +kernel
theorem dL_law_176 : decode cL_law 176 = .ok (.aload_n 0, 1) := by decide +kernel
theorem dL_law_177 : decode cL_law 177 = .ok (.iload_n 3, 1) := by decide +kernel
theorem dL_law_178 : decode cL_law 178 = .ok (.iconst 2, 1) := by decide +kernel
theorem dL_law_179 : decode cL_law 179 = .ok (.iadd, 1) := by decide +kernel
theorem dL_law_180 : decode cL_law 180 = .ok (.iaload, 1) := by decide +kernel
theorem dL_law_181 : decode cL_law 181 = .ok (.invokevirtual 30, 3) := by decide +kernel
theorem dL_law_184 : decode cL_law 184 = .ok (.aload_n 2, 1) := by decide +kernel
theorem dL_law_185 : decode cL_law 185 = .ok (.aload_n 0, 1) := by decide +kernel
theorem dL_law_186 : decode cL_law 186 = .ok (.iload_n 3, 1) := by decide +kernel
theorem dL_law_187 : decode cL_law 187 = .ok (.iconst 1, 1) := by decide +kernel
theorem dL_law_188 : decode cL_law 188 = .ok (.iadd, 1) := by decide +kernel
theorem dL_law_189 : decode cL_law 189 = .ok (.iaload, 1) := by decide +kernel
theorem dL_law_190 : decode cL_law 190 = .ok (.aload_n 0, 1) := by decide +kernel
theorem dL_law_191 : decode cL_law 191 = .ok (.iload_n 3, 1) := by decide +kernel
theorem dL_law_192 : decode cL_law 192 = .ok (.iconst 2, 1) := by decide +kernel
theorem dL_law_193 : decode cL_law 193 = .ok (.iadd, 1) := by decide +kernel
theorem dL_law_194 : decode cL_law 194 = .ok (.iaload, 1) := by decide +kernel
theorem dL_law_195 : decode cL_law 195 = .ok (.invokevirtual 33, 3) := by decide +kernel
theorem dL_law_198 : decode cL_law 198 = .ok (.if_icmp .eq 272, 3) := by decide +kernel
theorem dL_law_201 : decode cL_law 201 = .ok (.iconst 0, 1) := by decide +kernel
theorem dL_law_202 : decode cL_law 202 = .ok (.ireturn, 1) := by decide +kernel
theorem dL_law_203 : decode cL_law 203 = .ok (.aload_n 1, 1) := by decide +kernel
theorem dL_law_204 : decode cL_law 204 = .ok (.aload_n 0, 1) := by decide +kernel
theorem dL_law_205 : decode cL_law 205 = .ok (.iload_n 3, 1) := by decide +kernel
theorem dL_law_206 : decode cL_law 206 = .ok (.iconst 1, 1) := by decide +kernel
theorem dL_law_207 : decode cL_law 207 = .ok (.iadd, 1) := by decide +kernel
theorem dL_law_208 : decode cL_law 208 = .ok (.iaload, 1) := by decide +kernel
theorem dL_law_209 : decode cL_law 209 = .ok (.invokevirtual 34, 3) := by decide +kernel
theorem dL_law_212 : decode cL_law 212 = .ok (.aload_n 2, 1) := by decide +kernel
theorem dL_law_213 : decode cL_law 213 = .ok (.aload_n 0, 1) := by decide +kernel
theorem dL_law_214 : decode cL_law 214 = .ok (.iload_n 3, 1) := by decide +kernel
theorem dL_law_215 : decode cL_law 215 = .ok (.iconst 1, 1) := by decide +kernel
theorem dL_law_216 : decode cL_law 216 = .ok (.iadd, 1) := by decide +kernel
theorem dL_law_217 : decode cL_law 217 = .ok (.iaload, 1) := by decide +kernel
theorem dL_law_218 : decode cL_law 218 = .ok (.invokevirtual 38, 3) := by decide +kernel
theorem dL_law_221 : decode cL_law 221 = .ok (.if_icmp .eq 249, 3) := by decide +kernel
theorem dL_law_224 : decode cL_law 224 = .ok (.iconst 0, 1) := by decide +kernel
theorem dL_law_225 : decode cL_law 225 = .ok (.ireturn, 1) := by decide +kernel
theorem dL_law_226 : decode cL_law 226 = .ok (.aload_n 1, 1) := by decide +kernel
theorem dL_law_227 : decode cL_law 227 = .ok (.aload_n 0, 1) := by decide +kernel
theorem dL_law_228 : decode cL_law 228 = .ok (.iload_n 3, 1) := by decide +kernel
theorem dL_law_229 : decode cL_law 229 = .ok (.iconst 1, 1) := by decide +kernel
theorem dL_law_230 : decode cL_law 230 = .ok (.iadd, 1) := by decide +kernel
theorem dL_law_231 : decode cL_law 231 = .ok (.iaload, 1) := by decide +kernel
theorem dL_law_232 : decode cL_law 232 = .ok (.invokevirtual 39, 3) := by decide +kernel
theorem dL_law_235 : decode cL_law 235 = .ok (.aload_n 2, 1) := by decide +kernel
theorem dL_law_236 : decode cL_law 236 = .ok (.aload_n 0, 1) := by decide +kernel
theorem dL_law_237 : decode cL_law 237 = .ok (.iload_n 3, 1) := by decide +kernel
theorem dL_law_238 : decode cL_law 238 = .ok (.iconst 1, 1) := by decide +kernel
theorem dL_law_239 : decode cL_law 239 = .ok (.iadd, 1) := by decide +kernel
theorem dL_law_240 : decode cL_law 240 = .ok (.iaload, 1) := by decide +kernel
theorem dL_law_241 : decode cL_law 241 = .ok (.invokevirtual 43, 3) := by decide +kernel
theorem dL_law_244 : decode cL_law 244 = .ok (.if_icmp .eq 226, 3) := by decide +kernel
theorem dL_law_247 : decode cL_law 247 = .ok (.iconst 0, 1) := by decide +kernel
theorem dL_law_248 : decode cL_law 248 = .ok (.ireturn, 1) := by decide +kernel
theorem dL_law_249 : decode cL_law 249 = .ok (.aload_n 1, 1) := by decide +kernel
theorem dL_law_250 : decode cL_law 250 = .ok (.aload_n 0, 1) := by decide +kernel
theorem dL_law_251 : decode cL_law 251 = .ok (.iload_n 3, 1) := by decide +kernel
theorem dL_law_252 : decode cL_law 252 = .ok (.iconst 1, 1) := by decide +kernel
theorem dL_law_253 : decode cL_law 253 = .ok (.iadd, 1) := by decide +kernel
theorem dL_law_254 : decode cL_law 254 = .ok (.iaload, 1) := by decide +kernel
theorem dL_law_255 : decode cL_law 255 = .ok (.aload_n 0, 1) := by decide +kernel
theorem dL_law_256 : decode cL_law 256 = .ok (.iload_n 3, 1) := by decide +kernel
theorem dL_law_257 : decode cL_law 257 = .ok (.iconst 2, 1) := by decide +kernel
theorem dL_law_258 : decode cL_law 258 = .ok (.iadd, 1) := by decide +kernel
theorem dL_law_259 : decode cL_law 259 = .ok (.iaload, 1) := by decide +kernel
theorem dL_law_260 : decode cL_law 260 = .ok (.invokevirtual 44, 3) := by decide +kernel
theorem dL_law_263 : decode cL_law 263 = .ok (.aload_n 2, 1) := by decide +kernel
theorem dL_law_264 : decode cL_law 264 = .ok (.aload_n 0, 1) := by decide +kernel
theorem dL_law_265 : decode cL_law 265 = .ok (.iload_n 3, 1) := by decide +kernel
theorem dL_law_266 : decode cL_law 266 = .ok (.iconst 1, 1) := by decide +kernel
theorem dL_law_267 : decode cL_law 267 = .ok (.iadd, 1) := by decide +kernel
theorem dL_law_268 : decode cL_law 268 = .ok (.iaload, 1) := by decide +kernel
theorem dL_law_269 : decode cL_law 269 = .ok (.aload_n 0, 1) := by decide +kernel
theorem dL_law_270 : decode cL_law 270 = .ok (.iload_n 3, 1) := by decide +kernel
theorem dL_law_271 : decode cL_law 271 = .ok (.iconst 2, 1) := by decide +kernel
theorem dL_law_272 : decode cL_law 272 = .ok (.iadd, 1) := by decide +kernel
theorem dL_law_273 : decode cL_law 273 = .ok (.iaload, 1) := by decide +kernel
theorem dL_law_274 : decode cL_law 274 = .ok (.invokevirtual 47, 3) := by decide +kernel
theorem dL_law_277 : decode cL_law 277 = .ok (.if_icmp .eq 193, 3) := by decide +kernel
theorem dL_law_280 : decode cL_law 280 = .ok (.iconst 0, 1) := by decide +kernel
theorem dL_law_281 : decode cL_law 281 = .ok (.ireturn, 1) := by decide +kernel
theorem dL_law_282 : decode cL_law 282 = .ok (.aload_n 1, 1) := by decide +kernel
theorem dL_law_283 : decode cL_law 283 = .ok (.aload_n 0, 1) := by decide +kernel
theorem dL_law_284 : decode cL_law 284 = .ok (.iload_n 3, 1) := by decide +kernel
theorem dL_law_285 : decode cL_law 285 = .ok (.iconst 1, 1) := by decide +kernel
theorem dL_law_286 : decode cL_law 286 = .ok (.iadd, 1) := by decide +kernel
theorem dL_law_287 : decode cL_law 287 = .ok (.iaload, 1) := by decide +kernel
theorem dL_law_288 : decode cL_law 288 = .ok (.aload_n 0, 1) := by decide +kernel
theorem dL_law_289 : decode cL_law 289 = .ok (.iload_n 3, 1) := by decide +kernel
theorem dL_law_290 : decode cL_law 290 = .ok (.iconst 2, 1) := by decide +kernel
theorem dL_law_291 : decode cL_law 291 = .ok (.iadd, 1) := by decide +kernel
theorem dL_law_292 : decode cL_law 292 = .ok (.iaload, 1) := by decide +kernel
theorem dL_law_293 : decode cL_law 293 = .ok (.invokevirtual 48, 3) := by decide +kernel
theorem dL_law_296 : decode cL_law 296 = .ok (.aload_n 2, 1) := by decide +kernel
theorem dL_law_297 : decode cL_law 297 = .ok (.aload_n 0, 1) := by decide +kernel
theorem dL_law_298 : decode cL_law 298 = .ok (.iload_n 3, 1) := by decide +kernel
theorem dL_law_299 : decode cL_law 299 = .ok (.iconst 1, 1) := by decide +kernel
theorem dL_law_300 : decode cL_law 300 = .ok (.iadd, 1) := by decide +kernel
