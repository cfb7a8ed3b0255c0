theorem dX10_init_0 : decode cX10_init 0 = .ok (.aload_n 0, 1) := by decide +kernel
theorem dX10_init_1 : decode cX10_init 1 = .ok (.invokespecial 1, 3) := by decide +kernel
theorem dX10_init_4 : decode cX10_init 4 = .ok (.aload_n 0, 1) := by decide +kernel
theorem dX10_init_5 : decode cX10_init 5 = .ok (.bipush 40, 2) := by decide +kernel
theorem dX10_init_7 : decode cX10_init 7 = .ok (.newarray .boolean, 2) := by decide +kernel
theorem dX10_init_9 : decode cX10_init 9 = .ok (.putfield 7, 3) := by decide +kernel
theorem dX10_init_12 : decode cX10_init 12 = .ok (.aload_n 0, 1) := by decide +kernel
theorem dX10_init_13 : decode cX10_init 13 = .ok (.bipush 40, 2) := by decide +kernel
theorem dX10_init_15 : decode cX10_init 15 = .ok (.newarray .int, 2) := by decide +kernel
theorem dX10_init_17 : decode cX10_init 17 = .ok (.putfield 13, 3) := by decide +kernel
theorem dX10_init_20 : decode cX10_init 20 = .ok (.aload_n 0, 1) := by decide +kernel
theorem dX10_init_21 : decode cX10_init 21 = .ok (.bipush 80, 2) := by decide +kernel
theorem dX10_init_23 : decode cX10_init 23 = .ok (.newarray .int, 2) := by decide +kernel
theorem dX10_init_25 : decode cX10_init 25 = .ok (.putfield 17, 3) := by decide +kernel
theorem dX10_init_28 : decode cX10_init 28 = .ok (.aload_n 0, 1) := by decide +kernel
theorem dX10_init_29 : decode cX10_init 29 = .ok (.sipush 320, 3) := by decide +kernel
theorem dX10_init_32 : decode cX10_init 32 = .ok (.newarray .int, 2) := by decide +kernel
theorem dX10_init_34 : decode cX10_init 34 = .ok (.putfield 20, 3) := by decide +kernel
theorem dX10_init_37 : decode cX10_init 37 = .ok (.aload_n 0, 1) := by decide +kernel
theorem dX10_init_38 : decode cX10_init 38 = .ok (.bipush 40, 2) := by decide +kernel
theorem dX10_init_40 : decode cX10_init 40 = .ok (.newarray .int, 2) := by decide +kernel
theorem dX10_init_42 : decode cX10_init 42 = .ok (.putfield 23, 3) := by decide +kernel
theorem dX10_init_45 : decode cX10_init 45 = .ok (.aload_n 0, 1) := by decide +kernel
theorem dX10_init_46 : decode cX10_init 46 = .ok (.bipush 40, 2) := by decide +kernel
theorem dX10_init_48 : decode cX10_init 48 = .ok (.newarray .boolean, 2) := by decide +kernel
theorem dX10_init_50 : decode cX10_init 50 = .ok (.putfield 26, 3) := by decide +kernel
theorem dX10_init_53 : decode cX10_init 53 = .ok (.aload_n 0, 1) := by decide +kernel
theorem dX10_init_54 : decode cX10_init 54 = .ok (.bipush 40, 2) := by decide +kernel
theorem dX10_init_56 : decode cX10_init 56 = .ok (.newarray .int, 2) := by decide +kernel
theorem dX10_init_58 : decode cX10_init 58 = .ok (.putfield 29, 3) := by decide +kernel
theorem dX10_init_61 : decode cX10_init 61 = .ok (.aload_n 0, 1) := by decide +kernel
theorem dX10_init_62 : decode cX10_init 62 = .ok (.bipush 40, 2) := by decide +kernel
theorem dX10_init_64 : decode cX10_init 64 = .ok (.newarray .int, 2) := by decide +kernel
theorem dX10_init_66 : decode cX10_init 66 = .ok (.putfield 32, 3) := by decide +kernel
theorem dX10_init_69 : decode cX10_init 69 = .ok (.aload_n 0, 1) := by decide +kernel
theorem dX10_init_70 : decode cX10_init 70 = .ok (.bipush 40, 2) := by decide +kernel
theorem dX10_init_72 : decode cX10_init 72 = .ok (.newarray .boolean, 2) := by decide +kernel
theorem dX10_init_74 : decode cX10_init 74 = .ok (.putfield 35, 3) := by decide +kernel
theorem dX10_init_77 : decode cX10_init 77 = .ok (.aload_n 0, 1) := by decide +kernel
theorem dX10_init_78 : decode cX10_init 78 = .ok (.bipush 40, 2) := by decide +kernel
theorem dX10_init_80 : decode cX10_init 80 = .ok (.newarray .int, 2) := by decide +kernel
theorem dX10_init_82 : decode cX10_init 82 = .ok (.putfield 38, 3) := by decide +kernel
theorem dX10_init_85 : decode cX10_init 85 = .ok (.aload_n 0, 1) := by decide +kernel
theorem dX10_init_86 : decode cX10_init 86 = .ok (.bipush 40, 2) := by decide +kernel
theorem dX10_init_88 : decode cX10_init 88 = .ok (.newarray .boolean, 2) := by decide +kernel
theorem dX10_init_90 : decode cX10_init 90 = .ok (.putfield 41, 3) := by decide +kernel
theorem dX10_init_93 : decode cX10_init 93 = .ok (.aload_n 0, 1) := by decide +kernel
theorem dX10_init_94 : decode cX10_init 94 = .ok (.sipush 1600, 3) := by decide +kernel
theorem dX10_init_97 : decode cX10_init 97 = .ok (.newarray .boolean, 2) := by decide +kernel
theorem dX10_init_99 : decode cX10_init 99 = .ok (.putfield 44, 3) := by decide +kernel
theorem dX10_init_102 : decode cX10_init 102 = .ok (.aload_n 0, 1) := by decide +kernel
theorem dX10_init_103 : decode cX10_init 103 = .ok (.bipush 40, 2) := by decide +kernel
theorem dX10_init_105 : decode cX10_init 105 = .ok (.newarray .int, 2) := by decide +kernel
theorem dX10_init_107 : decode cX10_init 107 = .ok (.putfield 47, 3) := by decide +kernel
theorem dX10_init_110 : decode cX10_init 110 = .ok (.aload_n 0, 1) := by decide +kernel
theorem dX10_init_111 : decode cX10_init 111 = .ok (.bipush 40, 2) := by decide +kernel
theorem dX10_init_113 : decode cX10_init 113 = .ok (.newarray .int, 2) := by decide +kernel
theorem dX10_init_115 : decode cX10_init 115 = .ok (.putfield 50, 3) := by decide +kernel
theorem dX10_init_118 : decode cX10_init 118 = .ok (.aload_n 0, 1) := by decide +kernel
theorem dX10_init_119 : decode cX10_init 119 = .ok (.ldc 53, 2) := by decide +kernel
theorem dX10_init_121 : decode cX10_init 121 = .ok (.newarray .int, 2) := by decide +kernel
theorem dX10_init_123 : decode cX10_init 123 = .ok (.putfield 54, 3) := by decide +kernel
theorem dX10_init_126 : decode cX10_init 126 = .ok (.aload_n 0, 1) := by decide +kernel
theorem dX10_init_127 : decode cX10_init 127 = .ok (.iconst 4, 1) := by decide +kernel
theorem dX10_init_128 : decode cX10_init 128 = .ok (.newarray .int, 2) := by decide +kernel
theorem dX10_init_130 : decode cX10_init 130 = .ok (.putfield 57, 3) := by decide +kernel
theorem dX10_init_133 : decode cX10_init 133 = .ok (.aload_n 0, 1) := by decide +kernel
theorem dX10_init_134 : decode cX10_init 134 = .ok (.bipush 36, 2) := by decide +kernel
theorem dX10_init_136 : decode cX10_init 136 = .ok (.newarray .int, 2) := by decide +kernel
theorem dX10_init_138 : decode cX10_init 138 = .ok (.putfield 60, 3) := by decide +kernel
theorem dX10_init_141 : decode cX10_init 141 = .ok (.aload_n 0, 1) := by decide +kernel
theorem dX10_init_142 : decode cX10_init 142 = .ok (.iconst 2, 1) := by decide +kernel
theorem dX10_init_143 : decode cX10_init 143 = .ok (.newarray .int, 2) := by decide +kernel
theorem dX10_init_145 : decode cX10_init 145 = .ok (.putfield 63, 3) := by decide +kernel
theorem dX10_init_148 : decode cX10_init 148 = .ok (.aload_n 0, 1) := by decide +kernel
theorem dX10_init_149 : decode cX10_init 149 = .ok (.bipush 8, 2) := by decide +kernel
theorem dX10_init_151 : decode cX10_init 151 = .ok (.newarray .int, 2) := by decide +kernel
theorem dX10_init_153 : decode cX10_init 153 = .ok (.putfield 66, 3) := by decide +kernel
theorem dX10_init_156 : decode cX10_init 156 = .ok (.aload_n 0, 1) := by decide +kernel
theorem dX10_init_157 : decode cX10_init 157 = .ok (.bipush 80, 2) := by decide +kernel
theorem dX10_init_159 : decode cX10_init 159 = .ok (.newarray .int, 2) := by decide +kernel
theorem dX10_init_161 : decode cX10_init 161 = .ok (.putfield 69, 3) := by decide +kernel
theorem dX10_init_164 : decode cX10_init 164 = .ok (.aload_n 0, 1) := by decide +kernel
theorem dX10_init_165 : decode cX10_init 165 = .ok (.sipush 401, 3) := by decide +kernel
theorem dX10_init_168 : decode cX10_init 168 = .ok (.newarray .int, 2) := by decide +kernel
theorem dX10_init_170 : decode cX10_init 170 = .ok (.putfield 72, 3) := by decide +kernel
theorem dX10_init_173 : decode cX10_init 173 = .ok (.aload_n 0, 1) := by decide +kernel
theorem dX10_init_174 : decode cX10_init 174 = .ok (.bipush 40, 2) := by decide +kernel
theorem dX10_init_176 : decode cX10_init 176 = .ok (.newarray .int, 2) := by decide +kernel
theorem dX10_init_178 : decode cX10_init 178 = .ok (.putfield 75, 3) := by decide +kernel
theorem dX10_init_181 : decode cX10_init 181 = .ok (.aload_n 0, 1) := by decide +kernel
theorem dX10_init_182 : decode cX10_init 182 = .ok (.iconst 2, 1) := by decide +kernel
theorem dX10_init_183 : decode cX10_init 183 = .ok (.newarray .int, 2) := by decide +kernel
theorem dX10_init_185 : decode cX10_init 185 = .ok (.putfield 78, 3) := by decide +kernel
theorem dX10_init_188 : decode cX10_init 188 = .ok (.aload_n 0, 1) := by decide +kernel
theorem dX10_init_189 : decode cX10_init 189 = .ok (.bipush 8, 2) := by decide +kernel
theorem dX10_init_191 : decode cX10_init 191 = .ok (.newarray .int, 2) := by decide +kernel
theorem dX10_init_193 : decode cX10_init 193 = .ok (.putfield 81, 3) := by decide +kernel
theorem dX10_init_196 : decode cX10_init 196 = .ok (.aload_n 0, 1) := by decide +kernel
theorem dX10_init_197 : decode cX10_init 197 = .ok (.bipush 40, 2) := by decide +kernel
theorem dX10_init_199 : decode cX10_init 199 = .ok (.newarray .boolean, 2) := by decide +kernel
theorem dX10_init_201 : decode cX10_init 201 = .ok (.putfield 84, 3) := by decide +kernel
theorem dX10_init_204 : decode cX10_init 204 = .ok (.aload_n 0, 1) := by decide +kernel
theorem dX10_init_205 : decode cX10_init 205 = .ok (.bipush 40, 2) := by decide +kernel
theorem dX10_init_207 : decode cX10_init 207 = .ok (.newarray .int, 2) := by decide +kernel
theorem dX10_init_209 : decode cX10_init 209 = .ok (.putfield 87, 3) := by decide +kernel
theorem dX10_init_212 : decode cX10_init 212 = .ok (.aload_n 0, 1) := by decide +kernel
theorem dX10_init_213 : decode cX10_init 213 = .ok (.iconst 4, 1) := by decide +kernel
theorem dX10_init_214 : decode cX10_init 214 = .ok (.newarray .int, 2) := by decide +kernel
theorem dX10_init_216 : decode cX10_init 216 = .ok (.putfield 90, 3) := by decide +kernel
theorem dX10_init_219 : decode cX10_init 219 = .ok (.aload_n 0, 1) := by decide +kernel
theorem dX10_init_220 : decode cX10_init 220 = .ok (.iconst 4, 1) := by decide +kernel
theorem dX10_init_221 : decode cX10_init 221 = .ok (.newarray .int, 2) := by decide +kernel
theorem dX10_init_223 : decode cX10_init 223 = .ok (.putfield 93, 3) := by decide +kernel
theorem dX10_init_226 : decode cX10_init 226 = .ok (.aload_n 0, 1) := by decide +kernel
theorem dX10_init_227 : decode cX10_init 227 = .ok (.sipush 160, 3) := by decide +kernel
theorem dX10_init_230 : decode cX10_init 230 = .ok (.newarray .int, 2) := by decide +kernel
theorem dX10_init_232 : decode cX10_init 232 = .ok (.putfield 96, 3) := by decide +kernel
theorem dX10_init_235 : decode cX10_init 235 = .ok (.aload_n 0, 1) := by decide +kernel
theorem dX10_init_236 : decode cX10_init 236 = .ok (.sipush 160, 3) := by decide +kernel
theorem dX10_init_239 : decode cX10_init 239 = .ok (.newarray .int, 2) := by decide +kernel
theorem dX10_init_241 : decode cX10_init 241 = .ok (.putfield 99, 3) := by decide +kernel
theorem dX10_init_244 : decode cX10_init 244 = .ok (.aload_n 0, 1) := by decide +kernel
theorem dX10_init_245 : decode cX10_init 245 = .ok (.sipush 8000, 3) := by decide +kernel
theorem dX10_init_248 : decode cX10_init 248 = .ok (.newarray .int, 2) := by decide +kernel
theorem dX10_init_250 : decode cX10_init 250 = .ok (.putfield 102, 3) := by decide +kernel
theorem dX10_init_253 : decode cX10_init 253 = .ok (.aload_n 0, 1) := by decide +kernel
theorem dX10_init_254 : decode cX10_init 254 = .ok (.bipush 81, 2) := by decide +kernel
theorem dX10_init_256 : decode cX10_init 256 = .ok (.newarray .int, 2) := by decide +kernel
theorem dX10_init_258 : decode cX10_init 258 = .ok (.putfield 105, 3) := by decide +kernel
theorem dX10_init_261 : decode cX10_init 261 = .ok (.aload_n 0, 1) := by decide +kernel
theorem dX10_init_262 : decode cX10_init 262 = .ok (.sipush 162, 3) := by decide +kernel
theorem dX10_init_265 : decode cX10_init 265 = .ok (.newarray .int, 2) := by decide +kernel
theorem dX10_init_267 : decode cX10_init 267 = .ok (.putfield 108, 3) := by decide +kernel
theorem dX10_init_270 : decode cX10_init 270 = .ok (.aload_n 0, 1) := by decide +kernel
theorem dX10_init_271 : decode cX10_init 271 = .ok (.sipush 648, 3) := by decide +kernel
theorem dX10_init_274 : decode cX10_init 274 = .ok (.newarray .int, 2) := by decide +kernel
theorem dX10_init_276 : decode cX10_init 276 = .ok (.putfield 111, 3) := by decide +kernel
theorem dX10_init_279 : decode cX10_init 279 = .ok (.aload_n 0, 1) := by decide +kernel
theorem dX10_init_280 : decode cX10_init 280 = .ok (.bipush 8, 2) := by decide +kernel
theorem dX10_init_282 : decode cX10_init 282 = .ok (.newarray .int, 2) := by decide +kernel
theorem dX10_init_284 : decode cX10_init 284 = .ok (.putfield 114, 3) := by decide +kernel
theorem dX10_init_287 : decode cX10_init 287 = .ok (.aload_n 0, 1) := by decide +kernel
theorem dX10_init_288 : decode cX10_init 288 = .ok (.bipush 8, 2) := by decide +kernel
theorem dX10_init_290 : decode cX10_init 290 = .ok (.newarray .int, 2) := by decide +kernel
theorem dX10_init_292 : decode cX10_init 292 = .ok (.putfield 117, 3) := by decide +kernel
theorem dX10_init_295 : decode cX10_init 295 = .ok (.aload_n 0, 1) := by decide +kernel
theorem dX10_init_296 : decode cX10_init 296 = .ok (.sipush 400, 3) := by decide +kernel
theorem dX10_init_299 : decode cX10_init 299 = .ok (.newarray .int, 2) := by decide +kernel
theorem dX10_init_301 : decode cX10_init 301 = .ok (.putfield 120, 3) := by decide +kernel
theorem dX10_init_304 : decode cX10_init 304 = .ok (.aload_n 0, 1) := by decide +kernel
theorem dX10_init_305 : decode cX10_init 305 = .ok (.iconst 0, 1) := by decide +kernel
theorem dX10_init_306 : decode cX10_init 306 = .ok (.invokevirtual 123, 3) := by decide +kernel
theorem dX10_init_309 : decode cX10_init 309 = .ok (.pop, 1) := by decide +kernel
theorem dX10_init_310 : decode cX10_init 310 = .ok (.aload_n 0, 1) := by decide +kernel
theorem dX10_init_311 : decode cX10_init 311 = .ok (.bipush 8, 2) := by decide +kernel
theorem dX10_init_313 : decode cX10_init 313 = .ok (.invokevirtual 123, 3) := by decide +kernel
theorem dX10_init_316 : decode cX10_init 316 = .ok (.pop, 1) := by decide +kernel
theorem dX10_init_317 : decode cX10_init 317 = .ok (.aload_n 0, 1) := by decide +kernel
theorem dX10_init_318 : decode cX10_init 318 = .ok (.bipush (-8), 2) := by decide +kernel
theorem dX10_init_320 : decode cX10_init 320 = .ok (.invokevirtual 123, 3) := by decide +kernel
theorem dX10_init_323 : decode cX10_init 323 = .ok (.pop, 1) := by decide +kernel
theorem dX10_init_324 : decode cX10_init 324 = .ok (.aload_n 0, 1) := by decide +kernel
theorem dX10_init_325 : decode cX10_init 325 = .ok (.iconst 0, 1) := by decide +kernel
theorem dX10_init_326 : decode cX10_init 326 = .ok (.iconst 0, 1) := by decide +kernel
theorem dX10_init_327 : decode cX10_init 327 = .ok (.invokevirtual 127, 3) := by decide +kernel
theorem dX10_init_330 : decode cX10_init 330 = .ok (.pop, 1) := by decide +kernel
theorem dX10_init_331 : decode cX10_init 331 = .ok (.aload_n 0, 1) := by decide +kernel
theorem dX10_init_332 : decode cX10_init 332 = .ok (.iconst 0, 1) := by decide +kernel
theorem dX10_init_333 : decode cX10_init 333 = .ok (.iconst 3, 1) := by decide +kernel
theorem dX10_init_334 : decode cX10_init 334 = .ok (.invokevirtual 127, 3) := by decide +kernel
theorem dX10_init_337 : decode cX10_init 337 = .ok (.pop, 1) := by decide +kernel
theorem dX10_init_338 : decode cX10_init 338 = .ok (.aload_n 0, 1) := by decide +kernel
theorem dX10_init_339 : decode cX10_init 339 = .ok (.iconst 1, 1) := by decide +kernel
theorem dX10_init_340 : decode cX10_init 340 = .ok (.iconst 2, 1) := by decide +kernel
theorem dX10_init_341 : decode cX10_init 341 = .ok (.invokevirtual 127, 3) := by decide +kernel
theorem dX10_init_344 : decode cX10_init 344 = .ok (.pop, 1) := by decide +kernel
theorem dX10_init_345 : decode cX10_init 345 = .ok (.aload_n 0, 1) := by decide +kernel
theorem dX10_init_346 : decode cX10_init 346 = .ok (.bipush 16, 2) := by decide +kernel
theorem dX10_init_348 : decode cX10_init 348 = .ok (.invokevirtual 123, 3) := by decide +kernel
theorem dX10_init_351 : decode cX10_init 351 = .ok (.pop, 1) := by decide +kernel
theorem dX10_init_352 : decode cX10_init 352 = .ok (.aload_n 0, 1) := by decide +kernel
theorem dX10_init_353 : decode cX10_init 353 = .ok (.bipush 6, 2) := by decide +kernel
theorem dX10_init_355 : decode cX10_init 355 = .ok (.iconst 0, 1) := by decide +kernel
theorem dX10_init_356 : decode cX10_init 356 = .ok (.invokevirtual 127, 3) := by decide +kernel
theorem dX10_init_359 : decode cX10_init 359 = .ok (.pop, 1) := by decide +kernel
theorem dX10_init_360 : decode cX10_init 360 = .ok (.aload_n 0, 1) := by decide +kernel
theorem dX10_init_361 : decode cX10_init 361 = .ok (.bipush 7, 2) := by decide +kernel
theorem dX10_init_363 : decode cX10_init 363 = .ok (.iconst 2, 1) := by decide +kernel
theorem dX10_init_364 : decode cX10_init 364 = .ok (.invokevirtual 127, 3) := by decide +kernel
theorem dX10_init_367 : decode cX10_init 367 = .ok (.pop, 1) := by decide +kernel
theorem dX10_init_368 : decode cX10_init 368 = .ok (.aload_n 0, 1) := by decide +kernel
theorem dX10_init_369 : decode cX10_init 369 = .ok (.invokevirtual 131, 3) := by decide +kernel
theorem dX10_init_372 : decode cX10_init 372 = .ok (.aload_n 0, 1) := by decide +kernel
theorem dX10_init_373 : decode cX10_init 373 = .ok (.iconst 0, 1) := by decide +kernel
theorem dX10_init_374 : decode cX10_init 374 = .ok (.iconst 0, 1) := by decide +kernel
theorem dX10_init_375 : decode cX10_init 375 = .ok (.invokevirtual 134, 3) := by decide +kernel
theorem dX10_init_378 : decode cX10_init 378 = .ok (.aload_n 0, 1) := by decide +kernel
theorem dX10_init_379 : decode cX10_init 379 = .ok (.iconst 0, 1) := by decide +kernel
theorem dX10_init_380 : decode cX10_init 380 = .ok (.iconst 3, 1) := by decide +kernel
theorem dX10_init_381 : decode cX10_init 381 = .ok (.invokevirtual 134, 3) := by decide +kernel
theorem dX10_init_384 : decode cX10_init 384 = .ok (.aload_n 0, 1) := by decide +kernel
theorem dX10_init_385 : decode cX10_init 385 = .ok (.iconst 1, 1) := by decide +kernel
theorem dX10_init_386 : decode cX10_init 386 = .ok (.iconst 0, 1) := by decide +kernel
theorem dX10_init_387 : decode cX10_init 387 = .ok (.invokevirtual 134, 3) := by decide +kernel
theorem dX10_init_390 : decode cX10_init 390 = .ok (.aload_n 0, 1) := by decide +kernel
theorem dX10_init_391 : decode cX10_init 391 = .ok (.invokevirtual 138, 3) := by decide +kernel
theorem dX10_init_394 : decode cX10_init 394 = .ok (.pop, 1) := by decide +kernel
theorem dX10_init_395 : decode cX10_init 395 = .ok (.aload_n 0, 1) := by decide +kernel
theorem dX10_init_396 : decode cX10_init 396 = .ok (.iconst 2, 1) := by decide +kernel
theorem dX10_init_397 : decode cX10_init 397 = .ok (.putfield 142, 3) := by decide +kernel
theorem dX10_init_400 : decode cX10_init 400 = .ok (.aload_n 0, 1) := by decide +kernel
theorem dX10_init_401 : decode cX10_init 401 = .ok (.getfield 57, 3) := by decide +kernel
theorem dX10_init_404 : decode cX10_init 404 = .ok (.iconst 0, 1) := by decide +kernel
theorem dX10_init_405 : decode cX10_init 405 = .ok (.iconst 5, 1) := by decide +kernel
theorem dX10_init_406 : decode cX10_init 406 = .ok (.iastore, 1) := by decide +kernel
theorem dX10_init_407 : decode cX10_init 407 = .ok (.aload_n 0, 1) := by decide +kernel
theorem dX10_init_408 : decode cX10_init 408 = .ok (.getfield 57, 3) := by decide +kernel
theorem dX10_init_411 : decode cX10_init 411 = .ok (.iconst 1, 1) := by decide +kernel
theorem dX10_init_412 : decode cX10_init 412 = .ok (.bipush 8, 2) := by decide +kernel
theorem dX10_init_414 : decode cX10_init 414 = .ok (.iastore, 1) := by decide +kernel
theorem dX10_init_415 : decode cX10_init 415 = .ok (.return_, 1) := by decide +kernel
theorem dX10_thrown_0 : decode cX10_thrown 0 = .ok (.aload_n 0, 1) := by decide +kernel
theorem dX10_thrown_1 : decode cX10_thrown 1 = .ok (.getfield 146, 3) := by decide +kernel
theorem dX10_thrown_4 : decode cX10_thrown 4 = .ok (.ireturn, 1) := by decide +kernel
theorem dX10_refused_0 : decode cX10_refused 0 = .ok (.aload_n 0, 1) := by decide +kernel
theorem dX10_refused_1 : decode cX10_refused 1 = .ok (.iload_n 1, 1) := by decide +kernel
theorem dX10_refused_2 : decode cX10_refused 2 = .ok (.putfield 146, 3) := by decide +kernel
theorem dX10_refused_5 : decode cX10_refused 5 = .ok (.iload_n 1, 1) := by decide +kernel
theorem dX10_refused_6 : decode cX10_refused 6 = .ok (.ifCond .le 7, 3) := by decide +kernel
theorem dX10_refused_9 : decode cX10_refused 9 = .ok (.iconst 1, 1) := by decide +kernel
theorem dX10_refused_10 : decode cX10_refused 10 = .ok (.goto 4, 3) := by decide +kernel
theorem dX10_refused_13 : decode cX10_refused 13 = .ok (.iconst 0, 1) := by decide +kernel
theorem dX10_refused_14 : decode cX10_refused 14 = .ok (.ireturn, 1) := by decide +kernel
theorem dX10_within_0 : decode cX10_within 0 = .ok (.iload_n 0, 1) := by decide +kernel
theorem dX10_within_1 : decode cX10_within 1 = .ok (.iload_n 1, 1) := by decide +kernel
theorem dX10_within_2 : decode cX10_within 2 = .ok (.if_icmp .lt 12, 3) := by decide +kernel
theorem dX10_within_5 : decode cX10_within 5 = .ok (.iload_n 0, 1) := by decide +kernel
theorem dX10_within_6 : decode cX10_within 6 = .ok (.iload_n 2, 1) := by decide +kernel
theorem dX10_within_7 : decode cX10_within 7 = .ok (.if_icmp .gt 7, 3) := by decide +kernel
theorem dX10_within_10 : decode cX10_within 10 = .ok (.iconst 1, 1) := by decide +kernel
theorem dX10_within_11 : decode cX10_within 11 = .ok (.goto 4, 3) := by decide +kernel
theorem dX10_within_14 : decode cX10_within 14 = .ok (.iconst 0, 1) := by decide +kernel
theorem dX10_within_15 : decode cX10_within 15 = .ok (.ireturn, 1) := by decide +kernel
theorem dX10_isGame_0 : decode cX10_isGame 0 = .ok (.iload_n 1, 1) := by decide +kernel
theorem dX10_isGame_1 : decode cX10_isGame 1 = .ok (.iconst 0, 1) := by decide +kernel
theorem dX10_isGame_2 : decode cX10_isGame 2 = .ok (.aload_n 0, 1) := by decide +kernel
theorem dX10_isGame_3 : decode cX10_isGame 3 = .ok (.getfield 149, 3) := by decide +kernel
theorem dX10_isGame_6 : decode cX10_isGame 6 = .ok (.iconst 1, 1) := by decide +kernel
theorem dX10_isGame_7 : decode cX10_isGame 7 = .ok (.isub, 1) := by decide +kernel
theorem dX10_isGame_8 : decode cX10_isGame 8 = .ok (.invokestatic 152, 3) := by decide +kernel
theorem dX10_isGame_11 : decode cX10_isGame 11 = .ok (.ireturn, 1) := by decide +kernel
theorem dX10_at_0 : decode cX10_at 0 = .ok (.bipush 8, 2) := by decide +kernel
theorem dX10_at_2 : decode cX10_at 2 = .ok (.iload_n 0, 1) := by decide +kernel
theorem dX10_at_3 : decode cX10_at 3 = .ok (.imul, 1) := by decide +kernel
theorem dX10_at_4 : decode cX10_at 4 = .ok (.iconst 4, 1) := by decide +kernel
theorem dX10_at_5 : decode cX10_at 5 = .ok (.iload_n 1, 1) := by decide +kernel
theorem dX10_at_6 : decode cX10_at 6 = .ok (.imul, 1) := by decide +kernel
theorem dX10_at_7 : decode cX10_at 7 = .ok (.iadd, 1) := by decide +kernel
theorem dX10_at_8 : decode cX10_at 8 = .ok (.iload_n 2, 1) := by decide +kernel
theorem dX10_at_9 : decode cX10_at 9 = .ok (.iadd, 1) := by decide +kernel
theorem dX10_at_10 : decode cX10_at 10 = .ok (.ireturn, 1) := by decide +kernel
theorem dX10_optionsOf_0 : decode cX10_optionsOf 0 = .ok (.aload_n 0, 1) := by decide +kernel
theorem dX10_optionsOf_1 : decode cX10_optionsOf 1 = .ok (.getfield 17, 3) := by decide +kernel
theorem dX10_optionsOf_4 : decode cX10_optionsOf 4 = .ok (.iconst 2, 1) := by decide +kernel
theorem dX10_optionsOf_5 : decode cX10_optionsOf 5 = .ok (.iload_n 1, 1) := by decide +kernel
theorem dX10_optionsOf_6 : decode cX10_optionsOf 6 = .ok (.imul, 1) := by decide +kernel
theorem dX10_optionsOf_7 : decode cX10_optionsOf 7 = .ok (.iload_n 2, 1) := by decide +kernel
theorem dX10_optionsOf_8 : decode cX10_optionsOf 8 = .ok (.iadd, 1) := by decide +kernel
theorem dX10_optionsOf_9 : decode cX10_optionsOf 9 = .ok (.iaload, 1) := by decide +kernel
theorem dX10_optionsOf_10 : decode cX10_optionsOf 10 = .ok (.ireturn, 1) := by decide +kernel
theorem dX10_optionOf_0 : decode cX10_optionOf 0 = .ok (.aload_n 0, 1) := by decide +kernel
theorem dX10_optionOf_1 : decode cX10_optionOf 1 = .ok (.getfield 20, 3) := by decide +kernel
theorem dX10_optionOf_4 : decode cX10_optionOf 4 = .ok (.iload_n 1, 1) := by decide +kernel
theorem dX10_optionOf_5 : decode cX10_optionOf 5 = .ok (.iload_n 2, 1) := by decide +kernel
theorem dX10_optionOf_6 : decode cX10_optionOf 6 = .ok (.iload_n 3, 1) := by decide +kernel
theorem dX10_optionOf_7 : decode cX10_optionOf 7 = .ok (.invokestatic 156, 3) := by decide +kernel
theorem dX10_optionOf_10 : decode cX10_optionOf 10 = .ok (.iaload, 1) := by decide +kernel
theorem dX10_optionOf_11 : decode cX10_optionOf 11 = .ok (.ireturn, 1) := by decide +kernel
theorem dX10_begins_0 : decode cX10_begins 0 = .ok (.aload_n 0, 1) := by decide +kernel
theorem dX10_begins_1 : decode cX10_begins 1 = .ok (.getfield 78, 3) := by decide +kernel
theorem dX10_begins_4 : decode cX10_begins 4 = .ok (.iconst 0, 1) := by decide +kernel
theorem dX10_begins_5 : decode cX10_begins 5 = .ok (.iconst 0, 1) := by decide +kernel
theorem dX10_begins_6 : decode cX10_begins 6 = .ok (.iastore, 1) := by decide +kernel
theorem dX10_begins_7 : decode cX10_begins 7 = .ok (.aload_n 0, 1) := by decide +kernel
theorem dX10_begins_8 : decode cX10_begins 8 = .ok (.getfield 78, 3) := by decide +kernel
theorem dX10_begins_11 : decode cX10_begins 11 = .ok (.iconst 1, 1) := by decide +kernel
theorem dX10_begins_12 : decode cX10_begins 12 = .ok (.iconst 0, 1) := by decide +kernel
theorem dX10_begins_13 : decode cX10_begins 13 = .ok (.iastore, 1) := by decide +kernel
theorem dX10_begins_14 : decode cX10_begins 14 = .ok (.aload_n 0, 1) := by decide +kernel
theorem dX10_begins_15 : decode cX10_begins 15 = .ok (.iconst 0, 1) := by decide +kernel
theorem dX10_begins_16 : decode cX10_begins 16 = .ok (.putfield 160, 3) := by decide +kernel
theorem dX10_begins_19 : decode cX10_begins 19 = .ok (.return_, 1) := by decide +kernel
theorem dX10_takes_0 : decode cX10_takes 0 = .ok (.iconst 0, 1) := by decide +kernel
theorem dX10_takes_1 : decode cX10_takes 1 = .ok (.istore_n 3, 1) := by decide +kernel
theorem dX10_takes_2 : decode cX10_takes 2 = .ok (.iload_n 3, 1) := by decide +kernel
theorem dX10_takes_3 : decode cX10_takes 3 = .ok (.aload_n 0, 1) := by decide +kernel
theorem dX10_takes_4 : decode cX10_takes 4 = .ok (.getfield 78, 3) := by decide +kernel
theorem dX10_takes_7 : decode cX10_takes 7 = .ok (.iload_n 1, 1) := by decide +kernel
theorem dX10_takes_8 : decode cX10_takes 8 = .ok (.iaload, 1) := by decide +kernel
theorem dX10_takes_9 : decode cX10_takes 9 = .ok (.if_icmp .ge 23, 3) := by decide +kernel
theorem dX10_takes_12 : decode cX10_takes 12 = .ok (.aload_n 0, 1) := by decide +kernel
theorem dX10_takes_13 : decode cX10_takes 13 = .ok (.getfield 81, 3) := by decide +kernel
theorem dX10_takes_16 : decode cX10_takes 16 = .ok (.iconst 4, 1) := by decide +kernel
theorem dX10_takes_17 : decode cX10_takes 17 = .ok (.iload_n 1, 1) := by decide +kernel
theorem dX10_takes_18 : decode cX10_takes 18 = .ok (.imul, 1) := by decide +kernel
theorem dX10_takes_19 : decode cX10_takes 19 = .ok (.iload_n 3, 1) := by decide +kernel
theorem dX10_takes_20 : decode cX10_takes 20 = .ok (.iadd, 1) := by decide +kernel
theorem dX10_takes_21 : decode cX10_takes 21 = .ok (.iaload, 1) := by decide +kernel
theorem dX10_takes_22 : decode cX10_takes 22 = .ok (.iload_n 2, 1) := by decide +kernel
theorem dX10_takes_23 : decode cX10_takes 23 = .ok (.if_icmp .ge 9, 3) := by decide +kernel
theorem dX10_takes_26 : decode cX10_takes 26 = .ok (.iinc 3 1, 3) := by decide +kernel
theorem dX10_takes_29 : decode cX10_takes 29 = .ok (.goto (-27), 3) := by decide +kernel
theorem dX10_takes_32 : decode cX10_takes 32 = .ok (.iload_n 3, 1) := by decide +kernel
theorem dX10_takes_33 : decode cX10_takes 33 = .ok (.aload_n 0, 1) := by decide +kernel
theorem dX10_takes_34 : decode cX10_takes 34 = .ok (.getfield 78, 3) := by decide +kernel
theorem dX10_takes_37 : decode cX10_takes 37 = .ok (.iload_n 1, 1) := by decide +kernel
theorem dX10_takes_38 : decode cX10_takes 38 = .ok (.iaload, 1) := by decide +kernel
theorem dX10_takes_39 : decode cX10_takes 39 = .ok (.if_icmp .ge 18, 3) := by decide +kernel
theorem dX10_takes_42 : decode cX10_takes 42 = .ok (.aload_n 0, 1) := by decide +kernel
theorem dX10_takes_43 : decode cX10_takes 43 = .ok (.getfield 81, 3) := by decide +kernel
theorem dX10_takes_46 : decode cX10_takes 46 = .ok (.iconst 4, 1) := by decide +kernel
theorem dX10_takes_47 : decode cX10_takes 47 = .ok (.iload_n 1, 1) := by decide +kernel
theorem dX10_takes_48 : decode cX10_takes 48 = .ok (.imul, 1) := by decide +kernel
theorem dX10_takes_49 : decode cX10_takes 49 = .ok (.iload_n 3, 1) := by decide +kernel
theorem dX10_takes_50 : decode cX10_takes 50 = .ok (.iadd, 1) := by decide +kernel
theorem dX10_takes_51 : decode cX10_takes 51 = .ok (.iaload, 1) := by decide +kernel
theorem dX10_takes_52 : decode cX10_takes 52 = .ok (.iload_n 2, 1) := by decide +kernel
theorem dX10_takes_53 : decode cX10_takes 53 = .ok (.if_icmp .ne 4, 3) := by decide +kernel
theorem dX10_takes_56 : decode cX10_takes 56 = .ok (.return_, 1) := by decide +kernel
theorem dX10_takes_57 : decode cX10_takes 57 = .ok (.aload_n 0, 1) := by decide +kernel
theorem dX10_takes_58 : decode cX10_takes 58 = .ok (.getfield 78, 3) := by decide +kernel
theorem dX10_takes_61 : decode cX10_takes 61 = .ok (.iload_n 1, 1) := by decide +kernel
theorem dX10_takes_62 : decode cX10_takes 62 = .ok (.iaload, 1) := by decide +kernel
theorem dX10_takes_63 : decode cX10_takes 63 = .ok (.iconst 4, 1) := by decide +kernel
theorem dX10_takes_64 : decode cX10_takes 64 = .ok (.if_icmp .ne 9, 3) := by decide +kernel
theorem dX10_takes_67 : decode cX10_takes 67 = .ok (.aload_n 0, 1) := by decide +kernel
theorem dX10_takes_68 : decode cX10_takes 68 = .ok (.iconst 1, 1) := by decide +kernel
theorem dX10_takes_69 : decode cX10_takes 69 = .ok (.putfield 160, 3) := by decide +kernel
theorem dX10_takes_72 : decode cX10_takes 72 = .ok (.return_, 1) := by decide +kernel
theorem dX10_takes_73 : decode cX10_takes 73 = .ok (.aload_n 0, 1) := by decide +kernel
theorem dX10_takes_74 : decode cX10_takes 74 = .ok (.getfield 78, 3) := by decide +kernel
theorem dX10_takes_77 : decode cX10_takes 77 = .ok (.iload_n 1, 1) := by decide +kernel
theorem dX10_takes_78 : decode cX10_takes 78 = .ok (.iaload, 1) := by decide +kernel
theorem dX10_takes_79 : decode cX10_takes 79 = .ok (.istore 4, 2) := by decide +kernel
theorem dX10_takes_81 : decode cX10_takes 81 = .ok (.iload 4, 2) := by decide +kernel
theorem dX10_takes_83 : decode cX10_takes 83 = .ok (.iload_n 3, 1) := by decide +kernel
theorem dX10_takes_84 : decode cX10_takes 84 = .ok (.if_icmp .le 33, 3) := by decide +kernel
theorem dX10_takes_87 : decode cX10_takes 87 = .ok (.aload_n 0, 1) := by decide +kernel
theorem dX10_takes_88 : decode cX10_takes 88 = .ok (.getfield 81, 3) := by decide +kernel
theorem dX10_takes_91 : decode cX10_takes 91 = .ok (.iconst 4, 1) := by decide +kernel
theorem dX10_takes_92 : decode cX10_takes 92 = .ok (.iload_n 1, 1) := by decide +kernel
theorem dX10_takes_93 : decode cX10_takes 93 = .ok (.imul, 1) := by decide +kernel
theorem dX10_takes_94 : decode cX10_takes 94 = .ok (.iload 4, 2) := by decide +kernel
theorem dX10_takes_96 : decode cX10_takes 96 = .ok (.iadd, 1) := by decide +kernel
theorem dX10_takes_97 : decode cX10_takes 97 = .ok (.aload_n 0, 1) := by decide +kernel
theorem dX10_takes_98 : decode cX10_takes 98 = .ok (.getfield 81, 3) := by decide +kernel
theorem dX10_takes_101 : decode cX10_takes 101 = .ok (.iconst 4, 1) := by decide +kernel
theorem dX10_takes_102 : decode cX10_takes 102 = .ok (.iload_n 1, 1) := by decide +kernel
theorem dX10_takes_103 : decode cX10_takes 103 = .ok (.imul, 1) := by decide +kernel
theorem dX10_takes_104 : decode cX10_takes 104 = .ok (.iload 4, 2) := by decide +kernel
theorem dX10_takes_106 : decode cX10_takes 106 = .ok (.iadd, 1) := by decide +kernel
theorem dX10_takes_107 : decode cX10_takes 107 = .ok (.iconst 1, 1) := by decide +kernel
theorem dX10_takes_108 : decode cX10_takes 108 = .ok (.isub, 1) := by decide +kernel
theorem dX10_takes_109 : decode cX10_takes 109 = .ok (.iaload, 1) := by decide +kernel
theorem dX10_takes_110 : decode cX10_takes 110 = .ok (.iastore, 1) := by decide +kernel
theorem dX10_takes_111 : decode cX10_takes 111 = .ok (.iinc 4 (-1), 3) := by decide +kernel
theorem dX10_takes_114 : decode cX10_takes 114 = .ok (.goto (-33), 3) := by decide +kernel
theorem dX10_takes_117 : decode cX10_takes 117 = .ok (.aload_n 0, 1) := by decide +kernel
theorem dX10_takes_118 : decode cX10_takes 118 = .ok (.getfield 81, 3) := by decide +kernel
theorem dX10_takes_121 : decode cX10_takes 121 = .ok (.iconst 4, 1) := by decide +kernel
theorem dX10_takes_122 : decode cX10_takes 122 = .ok (.iload_n 1, 1) := by decide +kernel
theorem dX10_takes_123 : decode cX10_takes 123 = .ok (.imul, 1) := by decide +kernel
theorem dX10_takes_124 : decode cX10_takes 124 = .ok (.iload_n 3, 1) := by decide +kernel
theorem dX10_takes_125 : decode cX10_takes 125 = .ok (.iadd, 1) := by decide +kernel
theorem dX10_takes_126 : decode cX10_takes 126 = .ok (.iload_n 2, 1) := by decide +kernel
theorem dX10_takes_127 : decode cX10_takes 127 = .ok (.iastore, 1) := by decide +kernel
theorem dX10_takes_128 : decode cX10_takes 128 = .ok (.aload_n 0, 1) := by decide +kernel
theorem dX10_takes_129 : decode cX10_takes 129 = .ok (.getfield 78, 3) := by decide +kernel
theorem dX10_takes_132 : decode cX10_takes 132 = .ok (.iload_n 1, 1) := by decide +kernel
theorem dX10_takes_133 : decode cX10_takes 133 = .ok (.dup2, 1) := by decide +kernel
theorem dX10_takes_134 : decode cX10_takes 134 = .ok (.iaload, 1) := by decide +kernel
theorem dX10_takes_135 : decode cX10_takes 135 = .ok (.iconst 1, 1) := by decide +kernel
theorem dX10_takes_136 : decode cX10_takes 136 = .ok (.iadd, 1) := by decide +kernel
theorem dX10_takes_137 : decode cX10_takes 137 = .ok (.iastore, 1) := by decide +kernel
theorem dX10_takes_138 : decode cX10_takes 138 = .ok (.return_, 1) := by decide +kernel
theorem dX10_isNew_0 : decode cX10_isNew 0 = .ok (.aload_n 0, 1) := by decide +kernel
theorem dX10_isNew_1 : decode cX10_isNew 1 = .ok (.getfield 7, 3) := by decide +kernel
theorem dX10_isNew_4 : decode cX10_isNew 4 = .ok (.iload_n 1, 1) := by decide +kernel
theorem dX10_isNew_5 : decode cX10_isNew 5 = .ok (.baload, 1) := by decide +kernel
theorem dX10_isNew_6 : decode cX10_isNew 6 = .ok (.ifCond .ne 7, 3) := by decide +kernel
theorem dX10_isNew_9 : decode cX10_isNew 9 = .ok (.iconst 1, 1) := by decide +kernel
theorem dX10_isNew_10 : decode cX10_isNew 10 = .ok (.goto 4, 3) := by decide +kernel
theorem dX10_isNew_13 : decode cX10_isNew 13 = .ok (.iconst 0, 1) := by decide +kernel
theorem dX10_isNew_14 : decode cX10_isNew 14 = .ok (.istore_n 2, 1) := by decide +kernel
theorem dX10_isNew_15 : decode cX10_isNew 15 = .ok (.iconst 0, 1) := by decide +kernel
theorem dX10_isNew_16 : decode cX10_isNew 16 = .ok (.istore_n 3, 1) := by decide +kernel
theorem dX10_isNew_17 : decode cX10_isNew 17 = .ok (.iload_n 3, 1) := by decide +kernel
theorem dX10_isNew_18 : decode cX10_isNew 18 = .ok (.iconst 2, 1) := by decide +kernel
theorem dX10_isNew_19 : decode cX10_isNew 19 = .ok (.if_icmp .ge 86, 3) := by decide +kernel
theorem dX10_isNew_22 : decode cX10_isNew 22 = .ok (.iload_n 2, 1) := by decide +kernel
theorem dX10_isNew_23 : decode cX10_isNew 23 = .ok (.ifCond .eq 22, 3) := by decide +kernel
theorem dX10_isNew_26 : decode cX10_isNew 26 = .ok (.aload_n 0, 1) := by decide +kernel
theorem dX10_isNew_27 : decode cX10_isNew 27 = .ok (.iload_n 1, 1) := by decide +kernel
theorem dX10_isNew_28 : decode cX10_isNew 28 = .ok (.iload_n 3, 1) := by decide +kernel
theorem dX10_isNew_29 : decode cX10_isNew 29 = .ok (.invokevirtual 164, 3) := by decide +kernel
theorem dX10_isNew_32 : decode cX10_isNew 32 = .ok (.aload_n 0, 1) := by decide +kernel
theorem dX10_isNew_33 : decode cX10_isNew 33 = .ok (.getfield 78, 3) := by decide +kernel
theorem dX10_isNew_36 : decode cX10_isNew 36 = .ok (.iload_n 3, 1) := by decide +kernel
theorem dX10_isNew_37 : decode cX10_isNew 37 = .ok (.iaload, 1) := by decide +kernel
theorem dX10_isNew_38 : decode cX10_isNew 38 = .ok (.if_icmp .ne 7, 3) := by decide +kernel
theorem dX10_isNew_41 : decode cX10_isNew 41 = .ok (.iconst 1, 1) := by decide +kernel
theorem dX10_isNew_42 : decode cX10_isNew 42 = .ok (.goto 4, 3) := by decide +kernel
theorem dX10_isNew_45 : decode cX10_isNew 45 = .ok (.iconst 0, 1) := by decide +kernel
theorem dX10_isNew_46 : decode cX10_isNew 46 = .ok (.istore_n 2, 1) := by decide +kernel
theorem dX10_isNew_47 : decode cX10_isNew 47 = .ok (.iconst 0, 1) := by decide +kernel
theorem dX10_isNew_48 : decode cX10_isNew 48 = .ok (.istore 4, 2) := by decide +kernel
theorem dX10_isNew_50 : decode cX10_isNew 50 = .ok (.iload 4, 2) := by decide +kernel
theorem dX10_isNew_52 : decode cX10_isNew 52 = .ok (.aload_n 0, 1) := by decide +kernel
theorem dX10_isNew_53 : decode cX10_isNew 53 = .ok (.getfield 78, 3) := by decide +kernel
theorem dX10_isNew_56 : decode cX10_isNew 56 = .ok (.iload_n 3, 1) := by decide +kernel
theorem dX10_isNew_57 : decode cX10_isNew 57 = .ok (.iaload, 1) := by decide +kernel
theorem dX10_isNew_58 : decode cX10_isNew 58 = .ok (.if_icmp .ge 41, 3) := by decide +kernel
theorem dX10_isNew_61 : decode cX10_isNew 61 = .ok (.iload_n 2, 1) := by decide +kernel
theorem dX10_isNew_62 : decode cX10_isNew 62 = .ok (.ifCond .eq 37, 3) := by decide +kernel
theorem dX10_isNew_65 : decode cX10_isNew 65 = .ok (.aload_n 0, 1) := by decide +kernel
theorem dX10_isNew_66 : decode cX10_isNew 66 = .ok (.iload_n 1, 1) := by decide +kernel
theorem dX10_isNew_67 : decode cX10_isNew 67 = .ok (.iload_n 3, 1) := by decide +kernel
theorem dX10_isNew_68 : decode cX10_isNew 68 = .ok (.iload 4, 2) := by decide +kernel
theorem dX10_isNew_70 : decode cX10_isNew 70 = .ok (.invokevirtual 167, 3) := by decide +kernel
theorem dX10_isNew_73 : decode cX10_isNew 73 = .ok (.aload_n 0, 1) := by decide +kernel
theorem dX10_isNew_74 : decode cX10_isNew 74 = .ok (.getfield 81, 3) := by decide +kernel
theorem dX10_isNew_77 : decode cX10_isNew 77 = .ok (.iconst 4, 1) := by decide +kernel
theorem dX10_isNew_78 : decode cX10_isNew 78 = .ok (.iload_n 3, 1) := by decide +kernel
theorem dX10_isNew_79 : decode cX10_isNew 79 = .ok (.imul, 1) := by decide +kernel
theorem dX10_isNew_80 : decode cX10_isNew 80 = .ok (.iload 4, 2) := by decide +kernel
theorem dX10_isNew_82 : decode cX10_isNew 82 = .ok (.iadd, 1) := by decide +kernel
theorem dX10_isNew_83 : decode cX10_isNew 83 = .ok (.iaload, 1) := by decide +kernel
theorem dX10_isNew_84 : decode cX10_isNew 84 = .ok (.if_icmp .ne 7, 3) := by decide +kernel
theorem dX10_isNew_87 : decode cX10_isNew 87 = .ok (.iconst 1, 1) := by decide +kernel
theorem dX10_isNew_88 : decode cX10_isNew 88 = .ok (.goto 4, 3) := by decide +kernel
theorem dX10_isNew_91 : decode cX10_isNew 91 = .ok (.iconst 0, 1) := by decide +kernel
theorem dX10_isNew_92 : decode cX10_isNew 92 = .ok (.istore_n 2, 1) := by decide +kernel
theorem dX10_isNew_93 : decode cX10_isNew 93 = .ok (.iinc 4 1, 3) := by decide +kernel
theorem dX10_isNew_96 : decode cX10_isNew 96 = .ok (.goto (-46), 3) := by decide +kernel
theorem dX10_isNew_99 : decode cX10_isNew 99 = .ok (.iinc 3 1, 3) := by decide +kernel
theorem dX10_isNew_102 : decode cX10_isNew 102 = .ok (.goto (-85), 3) := by decide +kernel
theorem dX10_isNew_105 : decode cX10_isNew 105 = .ok (.iload_n 2, 1) := by decide +kernel
theorem dX10_isNew_106 : decode cX10_isNew 106 = .ok (.ireturn, 1) := by decide +kernel
theorem dX10_made_0 : decode cX10_made 0 = .ok (.aload_n 0, 1) := by decide +kernel
theorem dX10_made_1 : decode cX10_made 1 = .ok (.getfield 160, 3) := by decide +kernel
theorem dX10_made_4 : decode cX10_made 4 = .ok (.ifCond .eq 5, 3) := by decide +kernel
theorem dX10_made_7 : decode cX10_made 7 = .ok (.iconst (-1), 1) := by decide +kernel
theorem dX10_made_8 : decode cX10_made 8 = .ok (.ireturn, 1) := by decide +kernel
theorem dX10_made_9 : decode cX10_made 9 = .ok (.iconst 0, 1) := by decide +kernel
theorem dX10_made_10 : decode cX10_made 10 = .ok (.istore_n 1, 1) := by decide +kernel
theorem dX10_made_11 : decode cX10_made 11 = .ok (.iconst 0, 1) := by decide +kernel
theorem dX10_made_12 : decode cX10_made 12 = .ok (.istore_n 2, 1) := by decide +kernel
theorem dX10_made_13 : decode cX10_made 13 = .ok (.iload_n 2, 1) := by decide +kernel
theorem dX10_made_14 : decode cX10_made 14 = .ok (.iconst 2, 1) := by decide +kernel
theorem dX10_made_15 : decode cX10_made 15 = .ok (.if_icmp .ge 57, 3) := by decide +kernel
theorem dX10_made_18 : decode cX10_made 18 = .ok (.iconst 0, 1) := by decide +kernel
theorem dX10_made_19 : decode cX10_made 19 = .ok (.istore_n 3, 1) := by decide +kernel
theorem dX10_made_20 : decode cX10_made 20 = .ok (.iload_n 3, 1) := by decide +kernel
theorem dX10_made_21 : decode cX10_made 21 = .ok (.aload_n 0, 1) := by decide +kernel
theorem dX10_made_22 : decode cX10_made 22 = .ok (.getfield 78, 3) := by decide +kernel
theorem dX10_made_25 : decode cX10_made 25 = .ok (.iload_n 2, 1) := by decide +kernel
theorem dX10_made_26 : decode cX10_made 26 = .ok (.iaload, 1) := by decide +kernel
theorem dX10_made_27 : decode cX10_made 27 = .ok (.if_icmp .ge 39, 3) := by decide +kernel
theorem dX10_made_30 : decode cX10_made 30 = .ok (.aload_n 0, 1) := by decide +kernel
theorem dX10_made_31 : decode cX10_made 31 = .ok (.getfield 23, 3) := by decide +kernel
theorem dX10_made_34 : decode cX10_made 34 = .ok (.aload_n 0, 1) := by decide +kernel
theorem dX10_made_35 : decode cX10_made 35 = .ok (.getfield 81, 3) := by decide +kernel
theorem dX10_made_38 : decode cX10_made 38 = .ok (.iconst 4, 1) := by decide +kernel
theorem dX10_made_39 : decode cX10_made 39 = .ok (.iload_n 2, 1) := by decide +kernel
theorem dX10_made_40 : decode cX10_made 40 = .ok (.imul, 1) := by decide +kernel
theorem dX10_made_41 : decode cX10_made 41 = .ok (.iload_n 3, 1) := by decide +kernel
theorem dX10_made_42 : decode cX10_made 42 = .ok (.iadd, 1) := by decide +kernel
theorem dX10_made_43 : decode cX10_made 43 = .ok (.iaload, 1) := by decide +kernel
theorem dX10_made_44 : decode cX10_made 44 = .ok (.iaload, 1) := by decide +kernel
theorem dX10_made_45 : decode cX10_made 45 = .ok (.istore 4, 2) := by decide +kernel
theorem dX10_made_47 : decode cX10_made 47 = .ok (.iload 4, 2) := by decide +kernel
theorem dX10_made_49 : decode cX10_made 49 = .ok (.iload_n 1, 1) := by decide +kernel
theorem dX10_made_50 : decode cX10_made 50 = .ok (.if_icmp .le 8, 3) := by decide +kernel
theorem dX10_made_53 : decode cX10_made 53 = .ok (.iload 4, 2) := by decide +kernel
theorem dX10_made_55 : decode cX10_made 55 = .ok (.goto 4, 3) := by decide +kernel
theorem dX10_made_58 : decode cX10_made 58 = .ok (.iload_n 1, 1) := by decide +kernel
theorem dX10_made_59 : decode cX10_made 59 = .ok (.istore_n 1, 1) := by decide +kernel
theorem dX10_made_60 : decode cX10_made 60 = .ok (.iinc 3 1, 3) := by decide +kernel
theorem dX10_made_63 : decode cX10_made 63 = .ok (.goto (-43), 3) := by decide +kernel
theorem dX10_made_66 : decode cX10_made 66 = .ok (.iinc 2 1, 3) := by decide +kernel
theorem dX10_made_69 : decode cX10_made 69 = .ok (.goto (-56), 3) := by decide +kernel
theorem dX10_made_72 : decode cX10_made 72 = .ok (.iload_n 1, 1) := by decide +kernel
theorem dX10_made_73 : decode cX10_made 73 = .ok (.bipush 6, 2) := by decide +kernel
theorem dX10_made_75 : decode cX10_made 75 = .ok (.if_icmp .ne 5, 3) := by decide +kernel
theorem dX10_made_78 : decode cX10_made 78 = .ok (.iconst (-1), 1) := by decide +kernel
theorem dX10_made_79 : decode cX10_made 79 = .ok (.ireturn, 1) := by decide +kernel
theorem dX10_made_80 : decode cX10_made 80 = .ok (.iconst 0, 1) := by decide +kernel
theorem dX10_made_81 : decode cX10_made 81 = .ok (.istore_n 2, 1) := by decide +kernel
theorem dX10_made_82 : decode cX10_made 82 = .ok (.iload_n 2, 1) := by decide +kernel
theorem dX10_made_83 : decode cX10_made 83 = .ok (.aload_n 0, 1) := by decide +kernel
theorem dX10_made_84 : decode cX10_made 84 = .ok (.getfield 149, 3) := by decide +kernel
theorem dX10_made_87 : decode cX10_made 87 = .ok (.if_icmp .ge 19, 3) := by decide +kernel
theorem dX10_made_90 : decode cX10_made 90 = .ok (.aload_n 0, 1) := by decide +kernel
theorem dX10_made_91 : decode cX10_made 91 = .ok (.iload_n 2, 1) := by decide +kernel
theorem dX10_made_92 : decode cX10_made 92 = .ok (.invokevirtual 170, 3) := by decide +kernel
theorem dX10_made_95 : decode cX10_made 95 = .ok (.ifCond .eq 5, 3) := by decide +kernel
theorem dX10_made_98 : decode cX10_made 98 = .ok (.iload_n 2, 1) := by decide +kernel
theorem dX10_made_99 : decode cX10_made 99 = .ok (.ireturn, 1) := by decide +kernel
theorem dX10_made_100 : decode cX10_made 100 = .ok (.iinc 2 1, 3) := by decide +kernel
theorem dX10_made_103 : decode cX10_made 103 = .ok (.goto (-21), 3) := by decide +kernel
theorem dX10_made_106 : decode cX10_made 106 = .ok (.aload_n 0, 1) := by decide +kernel
theorem dX10_made_107 : decode cX10_made 107 = .ok (.getfield 149, 3) := by decide +kernel
theorem dX10_made_110 : decode cX10_made 110 = .ok (.bipush 40, 2) := by decide +kernel
theorem dX10_made_112 : decode cX10_made 112 = .ok (.if_icmp .ne 5, 3) := by decide +kernel
theorem dX10_made_115 : decode cX10_made 115 = .ok (.iconst (-1), 1) := by decide +kernel
theorem dX10_made_116 : decode cX10_made 116 = .ok (.ireturn, 1) := by decide +kernel
theorem dX10_made_117 : decode cX10_made 117 = .ok (.aload_n 0, 1) := by decide +kernel
theorem dX10_made_118 : decode cX10_made 118 = .ok (.getfield 7, 3) := by decide +kernel
theorem dX10_made_121 : decode cX10_made 121 = .ok (.aload_n 0, 1) := by decide +kernel
theorem dX10_made_122 : decode cX10_made 122 = .ok (.getfield 149, 3) := by decide +kernel
theorem dX10_made_125 : decode cX10_made 125 = .ok (.iconst 0, 1) := by decide +kernel
theorem dX10_made_126 : decode cX10_made 126 = .ok (.bastore, 1) := by decide +kernel
theorem dX10_made_127 : decode cX10_made 127 = .ok (.aload_n 0, 1) := by decide +kernel
theorem dX10_made_128 : decode cX10_made 128 = .ok (.getfield 23, 3) := by decide +kernel
theorem dX10_made_131 : decode cX10_made 131 = .ok (.aload_n 0, 1) := by decide +kernel
theorem dX10_made_132 : decode cX10_made 132 = .ok (.getfield 149, 3) := by decide +kernel
theorem dX10_made_135 : decode cX10_made 135 = .ok (.iload_n 1, 1) := by decide +kernel
theorem dX10_made_136 : decode cX10_made 136 = .ok (.iconst 1, 1) := by decide +kernel
theorem dX10_made_137 : decode cX10_made 137 = .ok (.iadd, 1) := by decide +kernel
theorem dX10_made_138 : decode cX10_made 138 = .ok (.iastore, 1) := by decide +kernel
theorem dX10_made_139 : decode cX10_made 139 = .ok (.iconst 0, 1) := by decide +kernel
theorem dX10_made_140 : decode cX10_made 140 = .ok (.istore_n 2, 1) := by decide +kernel
theorem dX10_made_141 : decode cX10_made 141 = .ok (.iload_n 2, 1) := by decide +kernel
theorem dX10_made_142 : decode cX10_made 142 = .ok (.iconst 2, 1) := by decide +kernel
theorem dX10_made_143 : decode cX10_made 143 = .ok (.if_icmp .ge 65, 3) := by decide +kernel
theorem dX10_made_146 : decode cX10_made 146 = .ok (.aload_n 0, 1) := by decide +kernel
theorem dX10_made_147 : decode cX10_made 147 = .ok (.getfield 17, 3) := by decide +kernel
theorem dX10_made_150 : decode cX10_made 150 = .ok (.iconst 2, 1) := by decide +kernel
theorem dX10_made_151 : decode cX10_made 151 = .ok (.aload_n 0, 1) := by decide +kernel
theorem dX10_made_152 : decode cX10_made 152 = .ok (.getfield 149, 3) := by decide +kernel
theorem dX10_made_155 : decode cX10_made 155 = .ok (.imul, 1) := by decide +kernel
theorem dX10_made_156 : decode cX10_made 156 = .ok (.iload_n 2, 1) := by decide +kernel
theorem dX10_made_157 : decode cX10_made 157 = .ok (.iadd, 1) := by decide +kernel
theorem dX10_made_158 : decode cX10_made 158 = .ok (.aload_n 0, 1) := by decide +kernel
theorem dX10_made_159 : decode cX10_made 159 = .ok (.getfield 78, 3) := by decide +kernel
theorem dX10_made_162 : decode cX10_made 162 = .ok (.iload_n 2, 1) := by decide +kernel
theorem dX10_made_163 : decode cX10_made 163 = .ok (.iaload, 1) := by decide +kernel
theorem dX10_made_164 : decode cX10_made 164 = .ok (.iastore, 1) := by decide +kernel
theorem dX10_made_165 : decode cX10_made 165 = .ok (.iconst 0, 1) := by decide +kernel
theorem dX10_made_166 : decode cX10_made 166 = .ok (.istore_n 3, 1) := by decide +kernel
theorem dX10_made_167 : decode cX10_made 167 = .ok (.iload_n 3, 1) := by decide +kernel
theorem dX10_made_168 : decode cX10_made 168 = .ok (.iconst 4, 1) := by decide +kernel
theorem dX10_made_169 : decode cX10_made 169 = .ok (.if_icmp .ge 33, 3) := by decide +kernel
theorem dX10_made_172 : decode cX10_made 172 = .ok (.aload_n 0, 1) := by decide +kernel
theorem dX10_made_173 : decode cX10_made 173 = .ok (.getfield 20, 3) := by decide +kernel
theorem dX10_made_176 : decode cX10_made 176 = .ok (.aload_n 0, 1) := by decide +kernel
theorem dX10_made_177 : decode cX10_made 177 = .ok (.getfield 149, 3) := by decide +kernel
theorem dX10_made_180 : decode cX10_made 180 = .ok (.iload_n 2, 1) := by decide +kernel
theorem dX10_made_181 : decode cX10_made 181 = .ok (.iload_n 3, 1) := by decide +kernel
theorem dX10_made_182 : decode cX10_made 182 = .ok (.invokestatic 156, 3) := by decide +kernel
theorem dX10_made_185 : decode cX10_made 185 = .ok (.aload_n 0, 1) := by decide +kernel
theorem dX10_made_186 : decode cX10_made 186 = .ok (.getfield 81, 3) := by decide +kernel
theorem dX10_made_189 : decode cX10_made 189 = .ok (.iconst 4, 1) := by decide +kernel
theorem dX10_made_190 : decode cX10_made 190 = .ok (.iload_n 2, 1) := by decide +kernel
theorem dX10_made_191 : decode cX10_made 191 = .ok (.imul, 1) := by decide +kernel
theorem dX10_made_192 : decode cX10_made 192 = .ok (.iload_n 3, 1) := by decide +kernel
theorem dX10_made_193 : decode cX10_made 193 = .ok (.iadd, 1) := by decide +kernel
theorem dX10_made_194 : decode cX10_made 194 = .ok (.iaload, 1) := by decide +kernel
theorem dX10_made_195 : decode cX10_made 195 = .ok (.iastore, 1) := by decide +kernel
theorem dX10_made_196 : decode cX10_made 196 = .ok (.iinc 3 1, 3) := by decide +kernel
theorem dX10_made_199 : decode cX10_made 199 = .ok (.goto (-32), 3) := by decide +kernel
theorem dX10_made_202 : decode cX10_made 202 = .ok (.iinc 2 1, 3) := by decide +kernel
theorem dX10_made_205 : decode cX10_made 205 = .ok (.goto (-64), 3) := by decide +kernel
theorem dX10_made_208 : decode cX10_made 208 = .ok (.aload_n 0, 1) := by decide +kernel
theorem dX10_made_209 : decode cX10_made 209 = .ok (.invokevirtual 174, 3) := by decide +kernel
theorem dX10_made_212 : decode cX10_made 212 = .ok (.ireturn, 1) := by decide +kernel
theorem dX10_pair_0 : decode cX10_pair 0 = .ok (.aload_n 0, 1) := by decide +kernel
theorem dX10_pair_1 : decode cX10_pair 1 = .ok (.invokevirtual 131, 3) := by decide +kernel
theorem dX10_pair_4 : decode cX10_pair 4 = .ok (.aload_n 0, 1) := by decide +kernel
theorem dX10_pair_5 : decode cX10_pair 5 = .ok (.iconst 0, 1) := by decide +kernel
theorem dX10_pair_6 : decode cX10_pair 6 = .ok (.iload_n 1, 1) := by decide +kernel
theorem dX10_pair_7 : decode cX10_pair 7 = .ok (.invokevirtual 134, 3) := by decide +kernel
theorem dX10_pair_10 : decode cX10_pair 10 = .ok (.aload_n 0, 1) := by decide +kernel
theorem dX10_pair_11 : decode cX10_pair 11 = .ok (.iconst 1, 1) := by decide +kernel
theorem dX10_pair_12 : decode cX10_pair 12 = .ok (.iload_n 2, 1) := by decide +kernel
theorem dX10_pair_13 : decode cX10_pair 13 = .ok (.invokevirtual 134, 3) := by decide +kernel
theorem dX10_pair_16 : decode cX10_pair 16 = .ok (.aload_n 0, 1) := by decide +kernel
theorem dX10_pair_17 : decode cX10_pair 17 = .ok (.invokevirtual 138, 3) := by decide +kernel
theorem dX10_pair_20 : decode cX10_pair 20 = .ok (.ireturn, 1) := by decide +kernel
theorem dX10_madeNumber_0 : decode cX10_madeNumber 0 = .ok (.iconst 0, 1) := by decide +kernel
theorem dX10_madeNumber_1 : decode cX10_madeNumber 1 = .ok (.istore_n 2, 1) := by decide +kernel
theorem dX10_madeNumber_2 : decode cX10_madeNumber 2 = .ok (.iload_n 2, 1) := by decide +kernel
theorem dX10_madeNumber_3 : decode cX10_madeNumber 3 = .ok (.aload_n 0, 1) := by decide +kernel
theorem dX10_madeNumber_4 : decode cX10_madeNumber 4 = .ok (.getfield 149, 3) := by decide +kernel
theorem dX10_madeNumber_7 : decode cX10_madeNumber 7 = .ok (.if_icmp .ge 34, 3) := by decide +kernel
theorem dX10_madeNumber_10 : decode cX10_madeNumber 10 = .ok (.aload_n 0, 1) := by decide +kernel
theorem dX10_madeNumber_11 : decode cX10_madeNumber 11 = .ok (.getfield 7, 3) := by decide +kernel
theorem dX10_madeNumber_14 : decode cX10_madeNumber 14 = .ok (.iload_n 2, 1) := by decide +kernel
theorem dX10_madeNumber_15 : decode cX10_madeNumber 15 = .ok (.baload, 1) := by decide +kernel
theorem dX10_madeNumber_16 : decode cX10_madeNumber 16 = .ok (.ifCond .eq 19, 3) := by decide +kernel
theorem dX10_madeNumber_19 : decode cX10_madeNumber 19 = .ok (.aload_n 0, 1) := by decide +kernel
theorem dX10_madeNumber_20 : decode cX10_madeNumber 20 = .ok (.getfield 13, 3) := by decide +kernel
theorem dX10_madeNumber_23 : decode cX10_madeNumber 23 = .ok (.iload_n 2, 1) := by decide +kernel
theorem dX10_madeNumber_24 : decode cX10_madeNumber 24 = .ok (.iaload, 1) := by decide +kernel
theorem dX10_madeNumber_25 : decode cX10_madeNumber 25 = .ok (.sipush 128, 3) := by decide +kernel
theorem dX10_madeNumber_28 : decode cX10_madeNumber 28 = .ok (.iload_n 1, 1) := by decide +kernel
theorem dX10_madeNumber_29 : decode cX10_madeNumber 29 = .ok (.imul, 1) := by decide +kernel
theorem dX10_madeNumber_30 : decode cX10_madeNumber 30 = .ok (.if_icmp .ne 5, 3) := by decide +kernel
theorem dX10_madeNumber_33 : decode cX10_madeNumber 33 = .ok (.iload_n 2, 1) := by decide +kernel
theorem dX10_madeNumber_34 : decode cX10_madeNumber 34 = .ok (.ireturn, 1) := by decide +kernel
theorem dX10_madeNumber_35 : decode cX10_madeNumber 35 = .ok (.iinc 2 1, 3) := by decide +kernel
theorem dX10_madeNumber_38 : decode cX10_madeNumber 38 = .ok (.goto (-36), 3) := by decide +kernel
theorem dX10_madeNumber_41 : decode cX10_madeNumber 41 = .ok (.aload_n 0, 1) := by decide +kernel
theorem dX10_madeNumber_42 : decode cX10_madeNumber 42 = .ok (.getfield 149, 3) := by decide +kernel
theorem dX10_madeNumber_45 : decode cX10_madeNumber 45 = .ok (.bipush 40, 2) := by decide +kernel
theorem dX10_madeNumber_47 : decode cX10_madeNumber 47 = .ok (.if_icmp .ne 5, 3) := by decide +kernel
theorem dX10_madeNumber_50 : decode cX10_madeNumber 50 = .ok (.iconst (-1), 1) := by decide +kernel
theorem dX10_madeNumber_51 : decode cX10_madeNumber 51 = .ok (.ireturn, 1) := by decide +kernel
theorem dX10_madeNumber_52 : decode cX10_madeNumber 52 = .ok (.aload_n 0, 1) := by decide +kernel
theorem dX10_madeNumber_53 : decode cX10_madeNumber 53 = .ok (.getfield 7, 3) := by decide +kernel
theorem dX10_madeNumber_56 : decode cX10_madeNumber 56 = .ok (.aload_n 0, 1) := by decide +kernel
theorem dX10_madeNumber_57 : decode cX10_madeNumber 57 = .ok (.getfield 149, 3) := by decide +kernel
theorem dX10_madeNumber_60 : decode cX10_madeNumber 60 = .ok (.iconst 1, 1) := by decide +kernel
theorem dX10_madeNumber_61 : decode cX10_madeNumber 61 = .ok (.bastore, 1) := by decide +kernel
theorem dX10_madeNumber_62 : decode cX10_madeNumber 62 = .ok (.aload_n 0, 1) := by decide +kernel
theorem dX10_madeNumber_63 : decode cX10_madeNumber 63 = .ok (.getfield 13, 3) := by decide +kernel
theorem dX10_madeNumber_66 : decode cX10_madeNumber 66 = .ok (.aload_n 0, 1) := by decide +kernel
theorem dX10_madeNumber_67 : decode cX10_madeNumber 67 = .ok (.getfield 149, 3) := by decide +kernel
theorem dX10_madeNumber_70 : decode cX10_madeNumber 70 = .ok (.sipush 128, 3) := by decide +kernel
theorem dX10_madeNumber_73 : decode cX10_madeNumber 73 = .ok (.iload_n 1, 1) := by decide +kernel
theorem dX10_madeNumber_74 : decode cX10_madeNumber 74 = .ok (.imul, 1) := by decide +kernel
theorem dX10_madeNumber_75 : decode cX10_madeNumber 75 = .ok (.iastore, 1) := by decide +kernel
theorem dX10_madeNumber_76 : decode cX10_madeNumber 76 = .ok (.aload_n 0, 1) := by decide +kernel
theorem dX10_madeNumber_77 : decode cX10_madeNumber 77 = .ok (.getfield 23, 3) := by decide +kernel
theorem dX10_madeNumber_80 : decode cX10_madeNumber 80 = .ok (.aload_n 0, 1) := by decide +kernel
theorem dX10_madeNumber_81 : decode cX10_madeNumber 81 = .ok (.getfield 149, 3) := by decide +kernel
theorem dX10_madeNumber_84 : decode cX10_madeNumber 84 = .ok (.iconst 0, 1) := by decide +kernel
theorem dX10_madeNumber_85 : decode cX10_madeNumber 85 = .ok (.iastore, 1) := by decide +kernel
theorem dX10_madeNumber_86 : decode cX10_madeNumber 86 = .ok (.aload_n 0, 1) := by decide +kernel
theorem dX10_madeNumber_87 : decode cX10_madeNumber 87 = .ok (.getfield 17, 3) := by decide +kernel
theorem dX10_madeNumber_90 : decode cX10_madeNumber 90 = .ok (.iconst 2, 1) := by decide +kernel
theorem dX10_madeNumber_91 : decode cX10_madeNumber 91 = .ok (.aload_n 0, 1) := by decide +kernel
theorem dX10_madeNumber_92 : decode cX10_madeNumber 92 = .ok (.getfield 149, 3) := by decide +kernel
theorem dX10_madeNumber_95 : decode cX10_madeNumber 95 = .ok (.imul, 1) := by decide +kernel
theorem dX10_madeNumber_96 : decode cX10_madeNumber 96 = .ok (.iconst 0, 1) := by decide +kernel
theorem dX10_madeNumber_97 : decode cX10_madeNumber 97 = .ok (.iastore, 1) := by decide +kernel
theorem dX10_madeNumber_98 : decode cX10_madeNumber 98 = .ok (.aload_n 0, 1) := by decide +kernel
theorem dX10_madeNumber_99 : decode cX10_madeNumber 99 = .ok (.getfield 17, 3) := by decide +kernel
theorem dX10_madeNumber_102 : decode cX10_madeNumber 102 = .ok (.iconst 2, 1) := by decide +kernel
theorem dX10_madeNumber_103 : decode cX10_madeNumber 103 = .ok (.aload_n 0, 1) := by decide +kernel
theorem dX10_madeNumber_104 : decode cX10_madeNumber 104 = .ok (.getfield 149, 3) := by decide +kernel
theorem dX10_madeNumber_107 : decode cX10_madeNumber 107 = .ok (.imul, 1) := by decide +kernel
theorem dX10_madeNumber_108 : decode cX10_madeNumber 108 = .ok (.iconst 1, 1) := by decide +kernel
theorem dX10_madeNumber_109 : decode cX10_madeNumber 109 = .ok (.iadd, 1) := by decide +kernel
theorem dX10_madeNumber_110 : decode cX10_madeNumber 110 = .ok (.iconst 0, 1) := by decide +kernel
theorem dX10_madeNumber_111 : decode cX10_madeNumber 111 = .ok (.iastore, 1) := by decide +kernel
theorem dX10_madeNumber_112 : decode cX10_madeNumber 112 = .ok (.aload_n 0, 1) := by decide +kernel
theorem dX10_madeNumber_113 : decode cX10_madeNumber 113 = .ok (.invokevirtual 174, 3) := by decide +kernel
theorem dX10_madeNumber_116 : decode cX10_madeNumber 116 = .ok (.ireturn, 1) := by decide +kernel
theorem dX10_lays_0 : decode cX10_lays 0 = .ok (.aload_n 0, 1) := by decide +kernel
theorem dX10_lays_1 : decode cX10_lays 1 = .ok (.getfield 149, 3) := by decide +kernel
theorem dX10_lays_4 : decode cX10_lays 4 = .ok (.istore_n 1, 1) := by decide +kernel
theorem dX10_lays_5 : decode cX10_lays 5 = .ok (.aload_n 0, 1) := by decide +kernel
theorem dX10_lays_6 : decode cX10_lays 6 = .ok (.dup, 1) := by decide +kernel
theorem dX10_lays_7 : decode cX10_lays 7 = .ok (.getfield 149, 3) := by decide +kernel
theorem dX10_lays_10 : decode cX10_lays 10 = .ok (.iconst 1, 1) := by decide +kernel
theorem dX10_lays_11 : decode cX10_lays 11 = .ok (.iadd, 1) := by decide +kernel
theorem dX10_lays_12 : decode cX10_lays 12 = .ok (.putfield 149, 3) := by decide +kernel
theorem dX10_lays_15 : decode cX10_lays 15 = .ok (.aload_n 0, 1) := by decide +kernel
theorem dX10_lays_16 : decode cX10_lays 16 = .ok (.getfield 26, 3) := by decide +kernel
theorem dX10_lays_19 : decode cX10_lays 19 = .ok (.iload_n 1, 1) := by decide +kernel
theorem dX10_lays_20 : decode cX10_lays 20 = .ok (.aload_n 0, 1) := by decide +kernel
theorem dX10_lays_21 : decode cX10_lays 21 = .ok (.getfield 7, 3) := by decide +kernel
theorem dX10_lays_24 : decode cX10_lays 24 = .ok (.iload_n 1, 1) := by decide +kernel
theorem dX10_lays_25 : decode cX10_lays 25 = .ok (.baload, 1) := by decide +kernel
theorem dX10_lays_26 : decode cX10_lays 26 = .ok (.ifCond .ne 11, 3) := by decide +kernel
theorem dX10_lays_29 : decode cX10_lays 29 = .ok (.aload_n 0, 1) := by decide +kernel
theorem dX10_lays_30 : decode cX10_lays 30 = .ok (.iload_n 1, 1) := by decide +kernel
theorem dX10_lays_31 : decode cX10_lays 31 = .ok (.invokevirtual 177, 3) := by decide +kernel
theorem dX10_lays_34 : decode cX10_lays 34 = .ok (.ifCond .eq 7, 3) := by decide +kernel
theorem dX10_lays_37 : decode cX10_lays 37 = .ok (.iconst 1, 1) := by decide +kernel
theorem dX10_lays_38 : decode cX10_lays 38 = .ok (.goto 4, 3) := by decide +kernel
theorem dX10_lays_41 : decode cX10_lays 41 = .ok (.iconst 0, 1) := by decide +kernel
theorem dX10_lays_42 : decode cX10_lays 42 = .ok (.bastore, 1) := by decide +kernel
theorem dX10_lays_43 : decode cX10_lays 43 = .ok (.aload_n 0, 1) := by decide +kernel
theorem dX10_lays_44 : decode cX10_lays 44 = .ok (.getfield 29, 3) := by decide +kernel
theorem dX10_lays_47 : decode cX10_lays 47 = .ok (.iload_n 1, 1) := by decide +kernel
theorem dX10_lays_48 : decode cX10_lays 48 = .ok (.aload_n 0, 1) := by decide +kernel
theorem dX10_lays_49 : decode cX10_lays 49 = .ok (.getfield 7, 3) := by decide +kernel
theorem dX10_lays_52 : decode cX10_lays 52 = .ok (.iload_n 1, 1) := by decide +kernel
theorem dX10_lays_53 : decode cX10_lays 53 = .ok (.baload, 1) := by decide +kernel
theorem dX10_lays_54 : decode cX10_lays 54 = .ok (.ifCond .eq 12, 3) := by decide +kernel
theorem dX10_lays_57 : decode cX10_lays 57 = .ok (.aload_n 0, 1) := by decide +kernel
theorem dX10_lays_58 : decode cX10_lays 58 = .ok (.getfield 13, 3) := by decide +kernel
theorem dX10_lays_61 : decode cX10_lays 61 = .ok (.iload_n 1, 1) := by decide +kernel
theorem dX10_lays_62 : decode cX10_lays 62 = .ok (.iaload, 1) := by decide +kernel
theorem dX10_lays_63 : decode cX10_lays 63 = .ok (.goto 20, 3) := by decide +kernel
theorem dX10_lays_66 : decode cX10_lays 66 = .ok (.aload_n 0, 1) := by decide +kernel
theorem dX10_lays_67 : decode cX10_lays 67 = .ok (.getfield 26, 3) := by decide +kernel
theorem dX10_lays_70 : decode cX10_lays 70 = .ok (.iload_n 1, 1) := by decide +kernel
theorem dX10_lays_71 : decode cX10_lays 71 = .ok (.baload, 1) := by decide +kernel
theorem dX10_lays_72 : decode cX10_lays 72 = .ok (.ifCond .eq 10, 3) := by decide +kernel
theorem dX10_lays_75 : decode cX10_lays 75 = .ok (.aload_n 0, 1) := by decide +kernel
theorem dX10_lays_76 : decode cX10_lays 76 = .ok (.invokevirtual 180, 3) := by decide +kernel
theorem dX10_lays_79 : decode cX10_lays 79 = .ok (.goto 4, 3) := by decide +kernel
theorem dX10_lays_82 : decode cX10_lays 82 = .ok (.iconst 0, 1) := by decide +kernel
theorem dX10_lays_83 : decode cX10_lays 83 = .ok (.iastore, 1) := by decide +kernel
theorem dX10_lays_84 : decode cX10_lays 84 = .ok (.aload_n 0, 1) := by decide +kernel
theorem dX10_lays_85 : decode cX10_lays 85 = .ok (.getfield 26, 3) := by decide +kernel
theorem dX10_lays_88 : decode cX10_lays 88 = .ok (.iload_n 1, 1) := by decide +kernel
theorem dX10_lays_89 : decode cX10_lays 89 = .ok (.baload, 1) := by decide +kernel
theorem dX10_lays_90 : decode cX10_lays 90 = .ok (.ifCond .eq 44, 3) := by decide +kernel
theorem dX10_lays_93 : decode cX10_lays 93 = .ok (.aload_n 0, 1) := by decide +kernel
theorem dX10_lays_94 : decode cX10_lays 94 = .ok (.getfield 32, 3) := by decide +kernel
theorem dX10_lays_97 : decode cX10_lays 97 = .ok (.iload_n 1, 1) := by decide +kernel
theorem dX10_lays_98 : decode cX10_lays 98 = .ok (.aload_n 0, 1) := by decide +kernel
theorem dX10_lays_99 : decode cX10_lays 99 = .ok (.getfield 29, 3) := by decide +kernel
theorem dX10_lays_102 : decode cX10_lays 102 = .ok (.iload_n 1, 1) := by decide +kernel
theorem dX10_lays_103 : decode cX10_lays 103 = .ok (.iaload, 1) := by decide +kernel
theorem dX10_lays_104 : decode cX10_lays 104 = .ok (.iastore, 1) := by decide +kernel
theorem dX10_lays_105 : decode cX10_lays 105 = .ok (.aload_n 0, 1) := by decide +kernel
theorem dX10_lays_106 : decode cX10_lays 106 = .ok (.getfield 38, 3) := by decide +kernel
theorem dX10_lays_109 : decode cX10_lays 109 = .ok (.iload_n 1, 1) := by decide +kernel
theorem dX10_lays_110 : decode cX10_lays 110 = .ok (.aload_n 0, 1) := by decide +kernel
theorem dX10_lays_111 : decode cX10_lays 111 = .ok (.getfield 29, 3) := by decide +kernel
theorem dX10_lays_114 : decode cX10_lays 114 = .ok (.iload_n 1, 1) := by decide +kernel
theorem dX10_lays_115 : decode cX10_lays 115 = .ok (.iaload, 1) := by decide +kernel
theorem dX10_lays_116 : decode cX10_lays 116 = .ok (.iastore, 1) := by decide +kernel
theorem dX10_lays_117 : decode cX10_lays 117 = .ok (.aload_n 0, 1) := by decide +kernel
theorem dX10_lays_118 : decode cX10_lays 118 = .ok (.getfield 35, 3) := by decide +kernel
theorem dX10_lays_121 : decode cX10_lays 121 = .ok (.iload_n 1, 1) := by decide +kernel
theorem dX10_lays_122 : decode cX10_lays 122 = .ok (.iconst 1, 1) := by decide +kernel
theorem dX10_lays_123 : decode cX10_lays 123 = .ok (.bastore, 1) := by decide +kernel
theorem dX10_lays_124 : decode cX10_lays 124 = .ok (.aload_n 0, 1) := by decide +kernel
theorem dX10_lays_125 : decode cX10_lays 125 = .ok (.getfield 41, 3) := by decide +kernel
theorem dX10_lays_128 : decode cX10_lays 128 = .ok (.iload_n 1, 1) := by decide +kernel
theorem dX10_lays_129 : decode cX10_lays 129 = .ok (.iconst 1, 1) := by decide +kernel
theorem dX10_lays_130 : decode cX10_lays 130 = .ok (.bastore, 1) := by decide +kernel
theorem dX10_lays_131 : decode cX10_lays 131 = .ok (.goto 43, 3) := by decide +kernel
theorem dX10_lays_134 : decode cX10_lays 134 = .ok (.aload_n 0, 1) := by decide +kernel
theorem dX10_lays_135 : decode cX10_lays 135 = .ok (.getfield 32, 3) := by decide +kernel
theorem dX10_lays_138 : decode cX10_lays 138 = .ok (.iload_n 1, 1) := by decide +kernel
theorem dX10_lays_139 : decode cX10_lays 139 = .ok (.aload_n 0, 1) := by decide +kernel
theorem dX10_lays_140 : decode cX10_lays 140 = .ok (.getfield 183, 3) := by decide +kernel
theorem dX10_lays_143 : decode cX10_lays 143 = .ok (.iastore, 1) := by decide +kernel
theorem dX10_lays_144 : decode cX10_lays 144 = .ok (.aload_n 0, 1) := by decide +kernel
theorem dX10_lays_145 : decode cX10_lays 145 = .ok (.getfield 35, 3) := by decide +kernel
theorem dX10_lays_148 : decode cX10_lays 148 = .ok (.iload_n 1, 1) := by decide +kernel
theorem dX10_lays_149 : decode cX10_lays 149 = .ok (.aload_n 0, 1) := by decide +kernel
theorem dX10_lays_150 : decode cX10_lays 150 = .ok (.getfield 186, 3) := by decide +kernel
theorem dX10_lays_153 : decode cX10_lays 153 = .ok (.bastore, 1) := by decide +kernel
theorem dX10_lays_154 : decode cX10_lays 154 = .ok (.aload_n 0, 1) := by decide +kernel
theorem dX10_lays_155 : decode cX10_lays 155 = .ok (.getfield 38, 3) := by decide +kernel
theorem dX10_lays_158 : decode cX10_lays 158 = .ok (.iload_n 1, 1) := by decide +kernel
theorem dX10_lays_159 : decode cX10_lays 159 = .ok (.aload_n 0, 1) := by decide +kernel
theorem dX10_lays_160 : decode cX10_lays 160 = .ok (.getfield 189, 3) := by decide +kernel
theorem dX10_lays_163 : decode cX10_lays 163 = .ok (.iastore, 1) := by decide +kernel
theorem dX10_lays_164 : decode cX10_lays 164 = .ok (.aload_n 0, 1) := by decide +kernel
theorem dX10_lays_165 : decode cX10_lays 165 = .ok (.getfield 41, 3) := by decide +kernel
theorem dX10_lays_168 : decode cX10_lays 168 = .ok (.iload_n 1, 1) := by decide +kernel
theorem dX10_lays_169 : decode cX10_lays 169 = .ok (.aload_n 0, 1) := by decide +kernel
theorem dX10_lays_170 : decode cX10_lays 170 = .ok (.getfield 192, 3) := by decide +kernel
theorem dX10_lays_173 : decode cX10_lays 173 = .ok (.bastore, 1) := by decide +kernel
theorem dX10_lays_174 : decode cX10_lays 174 = .ok (.iconst 0, 1) := by decide +kernel
theorem dX10_lays_175 : decode cX10_lays 175 = .ok (.istore_n 2, 1) := by decide +kernel
theorem dX10_lays_176 : decode cX10_lays 176 = .ok (.iload_n 2, 1) := by decide +kernel
theorem dX10_lays_177 : decode cX10_lays 177 = .ok (.iload_n 1, 1) := by decide +kernel
theorem dX10_lays_178 : decode cX10_lays 178 = .ok (.if_icmp .gt 43, 3) := by decide +kernel
theorem dX10_lays_181 : decode cX10_lays 181 = .ok (.aload_n 0, 1) := by decide +kernel
theorem dX10_lays_182 : decode cX10_lays 182 = .ok (.getfield 44, 3) := by decide +kernel
theorem dX10_lays_185 : decode cX10_lays 185 = .ok (.bipush 40, 2) := by decide +kernel
theorem dX10_lays_187 : decode cX10_lays 187 = .ok (.iload_n 1, 1) := by decide +kernel
theorem dX10_lays_188 : decode cX10_lays 188 = .ok (.imul, 1) := by decide +kernel
theorem dX10_lays_189 : decode cX10_lays 189 = .ok (.iload_n 2, 1) := by decide +kernel
theorem dX10_lays_190 : decode cX10_lays 190 = .ok (.iadd, 1) := by decide +kernel
theorem dX10_lays_191 : decode cX10_lays 191 = .ok (.aload_n 0, 1) := by decide +kernel
theorem dX10_lays_192 : decode cX10_lays 192 = .ok (.iload_n 1, 1) := by decide +kernel
theorem dX10_lays_193 : decode cX10_lays 193 = .ok (.iload_n 2, 1) := by decide +kernel
theorem dX10_lays_194 : decode cX10_lays 194 = .ok (.invokevirtual 195, 3) := by decide +kernel
theorem dX10_lays_197 : decode cX10_lays 197 = .ok (.bastore, 1) := by decide +kernel
theorem dX10_lays_198 : decode cX10_lays 198 = .ok (.aload_n 0, 1) := by decide +kernel
theorem dX10_lays_199 : decode cX10_lays 199 = .ok (.getfield 44, 3) := by decide +kernel
theorem dX10_lays_202 : decode cX10_lays 202 = .ok (.bipush 40, 2) := by decide +kernel
theorem dX10_lays_204 : decode cX10_lays 204 = .ok (.iload_n 2, 1) := by decide +kernel
theorem dX10_lays_205 : decode cX10_lays 205 = .ok (.imul, 1) := by decide +kernel
theorem dX10_lays_206 : decode cX10_lays 206 = .ok (.iload_n 1, 1) := by decide +kernel
theorem dX10_lays_207 : decode cX10_lays 207 = .ok (.iadd, 1) := by decide +kernel
theorem dX10_lays_208 : decode cX10_lays 208 = .ok (.aload_n 0, 1) := by decide +kernel
theorem dX10_lays_209 : decode cX10_lays 209 = .ok (.iload_n 2, 1) := by decide +kernel
theorem dX10_lays_210 : decode cX10_lays 210 = .ok (.iload_n 1, 1) := by decide +kernel
theorem dX10_lays_211 : decode cX10_lays 211 = .ok (.invokevirtual 195, 3) := by decide +kernel
theorem dX10_lays_214 : decode cX10_lays 214 = .ok (.bastore, 1) := by decide +kernel
theorem dX10_lays_215 : decode cX10_lays 215 = .ok (.iinc 2 1, 3) := by decide +kernel
theorem dX10_lays_218 : decode cX10_lays 218 = .ok (.goto (-42), 3) := by decide +kernel
theorem dX10_lays_221 : decode cX10_lays 221 = .ok (.aload_n 0, 1) := by decide +kernel
theorem dX10_lays_222 : decode cX10_lays 222 = .ok (.iload_n 1, 1) := by decide +kernel
theorem dX10_lays_223 : decode cX10_lays 223 = .ok (.invokevirtual 199, 3) := by decide +kernel
theorem dX10_lays_226 : decode cX10_lays 226 = .ok (.iload_n 1, 1) := by decide +kernel
theorem dX10_lays_227 : decode cX10_lays 227 = .ok (.ireturn, 1) := by decide +kernel
theorem dX10_hasValue_0 : decode cX10_hasValue 0 = .ok (.aload_n 0, 1) := by decide +kernel
theorem dX10_hasValue_1 : decode cX10_hasValue 1 = .ok (.ldc 203, 2) := by decide +kernel
theorem dX10_hasValue_3 : decode cX10_hasValue 3 = .ok (.putfield 189, 3) := by decide +kernel
theorem dX10_hasValue_6 : decode cX10_hasValue 6 = .ok (.aload_n 0, 1) := by decide +kernel
theorem dX10_hasValue_7 : decode cX10_hasValue 7 = .ok (.iconst 0, 1) := by decide +kernel
theorem dX10_hasValue_8 : decode cX10_hasValue 8 = .ok (.putfield 192, 3) := by decide +kernel
theorem dX10_hasValue_11 : decode cX10_hasValue 11 = .ok (.aload_n 0, 1) := by decide +kernel
theorem dX10_hasValue_12 : decode cX10_hasValue 12 = .ok (.ldc 204, 2) := by decide +kernel
theorem dX10_hasValue_14 : decode cX10_hasValue 14 = .ok (.putfield 183, 3) := by decide +kernel
theorem dX10_hasValue_17 : decode cX10_hasValue 17 = .ok (.aload_n 0, 1) := by decide +kernel
theorem dX10_hasValue_18 : decode cX10_hasValue 18 = .ok (.iconst 0, 1) := by decide +kernel
theorem dX10_hasValue_19 : decode cX10_hasValue 19 = .ok (.putfield 186, 3) := by decide +kernel
theorem dX10_hasValue_22 : decode cX10_hasValue 22 = .ok (.iconst 0, 1) := by decide +kernel
theorem dX10_hasValue_23 : decode cX10_hasValue 23 = .ok (.istore_n 2, 1) := by decide +kernel
theorem dX10_hasValue_24 : decode cX10_hasValue 24 = .ok (.iload_n 2, 1) := by decide +kernel
theorem dX10_hasValue_25 : decode cX10_hasValue 25 = .ok (.aload_n 0, 1) := by decide +kernel
theorem dX10_hasValue_26 : decode cX10_hasValue 26 = .ok (.iload_n 1, 1) := by decide +kernel
theorem dX10_hasValue_27 : decode cX10_hasValue 27 = .ok (.iconst 0, 1) := by decide +kernel
theorem dX10_hasValue_28 : decode cX10_hasValue 28 = .ok (.invokevirtual 164, 3) := by decide +kernel
theorem dX10_hasValue_31 : decode cX10_hasValue 31 = .ok (.if_icmp .ge 122, 3) := by decide +kernel
theorem dX10_hasValue_34 : decode cX10_hasValue 34 = .ok (.aload_n 0, 1) := by decide +kernel
theorem dX10_hasValue_35 : decode cX10_hasValue 35 = .ok (.iload_n 1, 1) := by decide +kernel
theorem dX10_hasValue_36 : decode cX10_hasValue 36 = .ok (.iconst 0, 1) := by decide +kernel
theorem dX10_hasValue_37 : decode cX10_hasValue 37 = .ok (.iload_n 2, 1) := by decide +kernel
theorem dX10_hasValue_38 : decode cX10_hasValue 38 = .ok (.invokevirtual 167, 3) := by decide +kernel
theorem dX10_hasValue_41 : decode cX10_hasValue 41 = .ok (.istore_n 3, 1) := by decide +kernel
theorem dX10_hasValue_42 : decode cX10_hasValue 42 = .ok (.aload_n 0, 1) := by decide +kernel
theorem dX10_hasValue_43 : decode cX10_hasValue 43 = .ok (.aload_n 0, 1) := by decide +kernel
theorem dX10_hasValue_44 : decode cX10_hasValue 44 = .ok (.getfield 32, 3) := by decide +kernel
theorem dX10_hasValue_47 : decode cX10_hasValue 47 = .ok (.iload_n 3, 1) := by decide +kernel
theorem dX10_hasValue_48 : decode cX10_hasValue 48 = .ok (.iaload, 1) := by decide +kernel
theorem dX10_hasValue_49 : decode cX10_hasValue 49 = .ok (.aload_n 0, 1) := by decide +kernel
theorem dX10_hasValue_50 : decode cX10_hasValue 50 = .ok (.getfield 189, 3) := by decide +kernel
theorem dX10_hasValue_53 : decode cX10_hasValue 53 = .ok (.if_icmp .le 20, 3) := by decide +kernel
theorem dX10_hasValue_56 : decode cX10_hasValue 56 = .ok (.aload_n 0, 1) := by decide +kernel
theorem dX10_hasValue_57 : decode cX10_hasValue 57 = .ok (.getfield 35, 3) := by decide +kernel
theorem dX10_hasValue_60 : decode cX10_hasValue 60 = .ok (.iload_n 3, 1) := by decide +kernel
theorem dX10_hasValue_61 : decode cX10_hasValue 61 = .ok (.baload, 1) := by decide +kernel
theorem dX10_hasValue_62 : decode cX10_hasValue 62 = .ok (.ifCond .ne 7, 3) := by decide +kernel
theorem dX10_hasValue_65 : decode cX10_hasValue 65 = .ok (.iconst 1, 1) := by decide +kernel
theorem dX10_hasValue_66 : decode cX10_hasValue 66 = .ok (.goto 48, 3) := by decide +kernel
theorem dX10_hasValue_69 : decode cX10_hasValue 69 = .ok (.iconst 0, 1) := by decide +kernel
theorem dX10_hasValue_70 : decode cX10_hasValue 70 = .ok (.goto 44, 3) := by decide +kernel
theorem dX10_hasValue_73 : decode cX10_hasValue 73 = .ok (.aload_n 0, 1) := by decide +kernel
theorem dX10_hasValue_74 : decode cX10_hasValue 74 = .ok (.getfield 32, 3) := by decide +kernel
theorem dX10_hasValue_77 : decode cX10_hasValue 77 = .ok (.iload_n 3, 1) := by decide +kernel
theorem dX10_hasValue_78 : decode cX10_hasValue 78 = .ok (.iaload, 1) := by decide +kernel
theorem dX10_hasValue_79 : decode cX10_hasValue 79 = .ok (.aload_n 0, 1) := by decide +kernel
theorem dX10_hasValue_80 : decode cX10_hasValue 80 = .ok (.getfield 189, 3) := by decide +kernel
theorem dX10_hasValue_83 : decode cX10_hasValue 83 = .ok (.if_icmp .ne 27, 3) := by decide +kernel
theorem dX10_hasValue_86 : decode cX10_hasValue 86 = .ok (.aload_n 0, 1) := by decide +kernel
theorem dX10_hasValue_87 : decode cX10_hasValue 87 = .ok (.getfield 192, 3) := by decide +kernel
theorem dX10_hasValue_90 : decode cX10_hasValue 90 = .ok (.ifCond .eq 16, 3) := by decide +kernel
theorem dX10_hasValue_93 : decode cX10_hasValue 93 = .ok (.aload_n 0, 1) := by decide +kernel
theorem dX10_hasValue_94 : decode cX10_hasValue 94 = .ok (.getfield 35, 3) := by decide +kernel
theorem dX10_hasValue_97 : decode cX10_hasValue 97 = .ok (.iload_n 3, 1) := by decide +kernel
theorem dX10_hasValue_98 : decode cX10_hasValue 98 = .ok (.baload, 1) := by decide +kernel
theorem dX10_hasValue_99 : decode cX10_hasValue 99 = .ok (.ifCond .ne 7, 3) := by decide +kernel
theorem dX10_hasValue_102 : decode cX10_hasValue 102 = .ok (.iconst 1, 1) := by decide +kernel
theorem dX10_hasValue_103 : decode cX10_hasValue 103 = .ok (.goto 11, 3) := by decide +kernel
theorem dX10_hasValue_106 : decode cX10_hasValue 106 = .ok (.iconst 0, 1) := by decide +kernel
theorem dX10_hasValue_107 : decode cX10_hasValue 107 = .ok (.goto 7, 3) := by decide +kernel
theorem dX10_hasValue_110 : decode cX10_hasValue 110 = .ok (.aload_n 0, 1) := by decide +kernel
theorem dX10_hasValue_111 : decode cX10_hasValue 111 = .ok (.getfield 192, 3) := by decide +kernel
theorem dX10_hasValue_114 : decode cX10_hasValue 114 = .ok (.putfield 192, 3) := by decide +kernel
theorem dX10_hasValue_117 : decode cX10_hasValue 117 = .ok (.aload_n 0, 1) := by decide +kernel
theorem dX10_hasValue_118 : decode cX10_hasValue 118 = .ok (.aload_n 0, 1) := by decide +kernel
theorem dX10_hasValue_119 : decode cX10_hasValue 119 = .ok (.getfield 32, 3) := by decide +kernel
theorem dX10_hasValue_122 : decode cX10_hasValue 122 = .ok (.iload_n 3, 1) := by decide +kernel
theorem dX10_hasValue_123 : decode cX10_hasValue 123 = .ok (.iaload, 1) := by decide +kernel
theorem dX10_hasValue_124 : decode cX10_hasValue 124 = .ok (.aload_n 0, 1) := by decide +kernel
theorem dX10_hasValue_125 : decode cX10_hasValue 125 = .ok (.getfield 189, 3) := by decide +kernel
theorem dX10_hasValue_128 : decode cX10_hasValue 128 = .ok (.if_icmp .le 12, 3) := by decide +kernel
theorem dX10_hasValue_131 : decode cX10_hasValue 131 = .ok (.aload_n 0, 1) := by decide +kernel
theorem dX10_hasValue_132 : decode cX10_hasValue 132 = .ok (.getfield 32, 3) := by decide +kernel
theorem dX10_hasValue_135 : decode cX10_hasValue 135 = .ok (.iload_n 3, 1) := by decide +kernel
theorem dX10_hasValue_136 : decode cX10_hasValue 136 = .ok (.iaload, 1) := by decide +kernel
theorem dX10_hasValue_137 : decode cX10_hasValue 137 = .ok (.goto 7, 3) := by decide +kernel
theorem dX10_hasValue_140 : decode cX10_hasValue 140 = .ok (.aload_n 0, 1) := by decide +kernel
theorem dX10_hasValue_141 : decode cX10_hasValue 141 = .ok (.getfield 189, 3) := by decide +kernel
theorem dX10_hasValue_144 : decode cX10_hasValue 144 = .ok (.putfield 189, 3) := by decide +kernel
theorem dX10_hasValue_147 : decode cX10_hasValue 147 = .ok (.iinc 2 1, 3) := by decide +kernel
theorem dX10_hasValue_150 : decode cX10_hasValue 150 = .ok (.goto (-126), 3) := by decide +kernel
theorem dX10_hasValue_153 : decode cX10_hasValue 153 = .ok (.iconst 0, 1) := by decide +kernel
theorem dX10_hasValue_154 : decode cX10_hasValue 154 = .ok (.istore_n 2, 1) := by decide +kernel
theorem dX10_hasValue_155 : decode cX10_hasValue 155 = .ok (.iload_n 2, 1) := by decide +kernel
theorem dX10_hasValue_156 : decode cX10_hasValue 156 = .ok (.aload_n 0, 1) := by decide +kernel
theorem dX10_hasValue_157 : decode cX10_hasValue 157 = .ok (.iload_n 1, 1) := by decide +kernel
theorem dX10_hasValue_158 : decode cX10_hasValue 158 = .ok (.iconst 1, 1) := by decide +kernel
theorem dX10_hasValue_159 : decode cX10_hasValue 159 = .ok (.invokevirtual 164, 3) := by decide +kernel
theorem dX10_hasValue_162 : decode cX10_hasValue 162 = .ok (.if_icmp .ge 122, 3) := by decide +kernel
theorem dX10_hasValue_165 : decode cX10_hasValue 165 = .ok (.aload_n 0, 1) := by decide +kernel
theorem dX10_hasValue_166 : decode cX10_hasValue 166 = .ok (.iload_n 1, 1) := by decide +kernel
theorem dX10_hasValue_167 : decode cX10_hasValue 167 = .ok (.iconst 1, 1) := by decide +kernel
theorem dX10_hasValue_168 : decode cX10_hasValue 168 = .ok (.iload_n 2, 1) := by decide +kernel
theorem dX10_hasValue_169 : decode cX10_hasValue 169 = .ok (.invokevirtual 167, 3) := by decide +kernel
theorem dX10_hasValue_172 : decode cX10_hasValue 172 = .ok (.istore_n 3, 1) := by decide +kernel
theorem dX10_hasValue_173 : decode cX10_hasValue 173 = .ok (.aload_n 0, 1) := by decide +kernel
theorem dX10_hasValue_174 : decode cX10_hasValue 174 = .ok (.aload_n 0, 1) := by decide +kernel
theorem dX10_hasValue_175 : decode cX10_hasValue 175 = .ok (.getfield 38, 3) := by decide +kernel
theorem dX10_hasValue_178 : decode cX10_hasValue 178 = .ok (.iload_n 3, 1) := by decide +kernel
theorem dX10_hasValue_179 : decode cX10_hasValue 179 = .ok (.iaload, 1) := by decide +kernel
theorem dX10_hasValue_180 : decode cX10_hasValue 180 = .ok (.aload_n 0, 1) := by decide +kernel
theorem dX10_hasValue_181 : decode cX10_hasValue 181 = .ok (.getfield 183, 3) := by decide +kernel
theorem dX10_hasValue_184 : decode cX10_hasValue 184 = .ok (.if_icmp .ge 20, 3) := by decide +kernel
theorem dX10_hasValue_187 : decode cX10_hasValue 187 = .ok (.aload_n 0, 1) := by decide +kernel
theorem dX10_hasValue_188 : decode cX10_hasValue 188 = .ok (.getfield 41, 3) := by decide +kernel
theorem dX10_hasValue_191 : decode cX10_hasValue 191 = .ok (.iload_n 3, 1) := by decide +kernel
theorem dX10_hasValue_192 : decode cX10_hasValue 192 = .ok (.baload, 1) := by decide +kernel
theorem dX10_hasValue_193 : decode cX10_hasValue 193 = .ok (.ifCond .ne 7, 3) := by decide +kernel
theorem dX10_hasValue_196 : decode cX10_hasValue 196 = .ok (.iconst 1, 1) := by decide +kernel
theorem dX10_hasValue_197 : decode cX10_hasValue 197 = .ok (.goto 48, 3) := by decide +kernel
theorem dX10_hasValue_200 : decode cX10_hasValue 200 = .ok (.iconst 0, 1) := by decide +kernel
theorem dX10_hasValue_201 : decode cX10_hasValue 201 = .ok (.goto 44, 3) := by decide +kernel
theorem dX10_hasValue_204 : decode cX10_hasValue 204 = .ok (.aload_n 0, 1) := by decide +kernel
theorem dX10_hasValue_205 : decode cX10_hasValue 205 = .ok (.getfield 38, 3) := by decide +kernel
theorem dX10_hasValue_208 : decode cX10_hasValue 208 = .ok (.iload_n 3, 1) := by decide +kernel
theorem dX10_hasValue_209 : decode cX10_hasValue 209 = .ok (.iaload, 1) := by decide +kernel
theorem dX10_hasValue_210 : decode cX10_hasValue 210 = .ok (.aload_n 0, 1) := by decide +kernel
theorem dX10_hasValue_211 : decode cX10_hasValue 211 = .ok (.getfield 183, 3) := by decide +kernel
theorem dX10_hasValue_214 : decode cX10_hasValue 214 = .ok (.if_icmp .ne 27, 3) := by decide +kernel
theorem dX10_hasValue_217 : decode cX10_hasValue 217 = .ok (.aload_n 0, 1) := by decide +kernel
theorem dX10_hasValue_218 : decode cX10_hasValue 218 = .ok (.getfield 186, 3) := by decide +kernel
theorem dX10_hasValue_221 : decode cX10_hasValue 221 = .ok (.ifCond .eq 16, 3) := by decide +kernel
theorem dX10_hasValue_224 : decode cX10_hasValue 224 = .ok (.aload_n 0, 1) := by decide +kernel
theorem dX10_hasValue_225 : decode cX10_hasValue 225 = .ok (.getfield 41, 3) := by decide +kernel
theorem dX10_hasValue_228 : decode cX10_hasValue 228 = .ok (.iload_n 3, 1) := by decide +kernel
theorem dX10_hasValue_229 : decode cX10_hasValue 229 = .ok (.baload, 1) := by decide +kernel
theorem dX10_hasValue_230 : decode cX10_hasValue 230 = .ok (.ifCond .ne 7, 3) := by decide +kernel
theorem dX10_hasValue_233 : decode cX10_hasValue 233 = .ok (.iconst 1, 1) := by decide +kernel
theorem dX10_hasValue_234 : decode cX10_hasValue 234 = .ok (.goto 11, 3) := by decide +kernel
theorem dX10_hasValue_237 : decode cX10_hasValue 237 = .ok (.iconst 0, 1) := by decide +kernel
theorem dX10_hasValue_238 : decode cX10_hasValue 238 = .ok (.goto 7, 3) := by decide +kernel
theorem dX10_hasValue_241 : decode cX10_hasValue 241 = .ok (.aload_n 0, 1) := by decide +kernel
theorem dX10_hasValue_242 : decode cX10_hasValue 242 = .ok (.getfield 186, 3) := by decide +kernel
theorem dX10_hasValue_245 : decode cX10_hasValue 245 = .ok (.putfield 186, 3) := by decide +kernel
theorem dX10_hasValue_248 : decode cX10_hasValue 248 = .ok (.aload_n 0, 1) := by decide +kernel
theorem dX10_hasValue_249 : decode cX10_hasValue 249 = .ok (.aload_n 0, 1) := by decide +kernel
theorem dX10_hasValue_250 : decode cX10_hasValue 250 = .ok (.getfield 38, 3) := by decide +kernel
theorem dX10_hasValue_253 : decode cX10_hasValue 253 = .ok (.iload_n 3, 1) := by decide +kernel
theorem dX10_hasValue_254 : decode cX10_hasValue 254 = .ok (.iaload, 1) := by decide +kernel
theorem dX10_hasValue_255 : decode cX10_hasValue 255 = .ok (.aload_n 0, 1) := by decide +kernel
theorem dX10_hasValue_256 : decode cX10_hasValue 256 = .ok (.getfield 183, 3) := by decide +kernel
theorem dX10_hasValue_259 : decode cX10_hasValue 259 = .ok (.if_icmp .ge 12, 3) := by decide +kernel
theorem dX10_hasValue_262 : decode cX10_hasValue 262 = .ok (.aload_n 0, 1) := by decide +kernel
theorem dX10_hasValue_263 : decode cX10_hasValue 263 = .ok (.getfield 38, 3) := by decide +kernel
theorem dX10_hasValue_266 : decode cX10_hasValue 266 = .ok (.iload_n 3, 1) := by decide +kernel
theorem dX10_hasValue_267 : decode cX10_hasValue 267 = .ok (.iaload, 1) := by decide +kernel
theorem dX10_hasValue_268 : decode cX10_hasValue 268 = .ok (.goto 7, 3) := by decide +kernel
theorem dX10_hasValue_271 : decode cX10_hasValue 271 = .ok (.aload_n 0, 1) := by decide +kernel
theorem dX10_hasValue_272 : decode cX10_hasValue 272 = .ok (.getfield 183, 3) := by decide +kernel
theorem dX10_hasValue_275 : decode cX10_hasValue 275 = .ok (.putfield 183, 3) := by decide +kernel
theorem dX10_hasValue_278 : decode cX10_hasValue 278 = .ok (.iinc 2 1, 3) := by decide +kernel
theorem dX10_hasValue_281 : decode cX10_hasValue 281 = .ok (.goto (-126), 3) := by decide +kernel
theorem dX10_hasValue_284 : decode cX10_hasValue 284 = .ok (.aload_n 0, 1) := by decide +kernel
theorem dX10_hasValue_285 : decode cX10_hasValue 285 = .ok (.getfield 189, 3) := by decide +kernel
theorem dX10_hasValue_288 : decode cX10_hasValue 288 = .ok (.aload_n 0, 1) := by decide +kernel
theorem dX10_hasValue_289 : decode cX10_hasValue 289 = .ok (.getfield 183, 3) := by decide +kernel
theorem dX10_hasValue_292 : decode cX10_hasValue 292 = .ok (.if_icmp .lt 28, 3) := by decide +kernel
theorem dX10_hasValue_295 : decode cX10_hasValue 295 = .ok (.aload_n 0, 1) := by decide +kernel
theorem dX10_hasValue_296 : decode cX10_hasValue 296 = .ok (.getfield 189, 3) := by decide +kernel
theorem dX10_hasValue_299 : decode cX10_hasValue 299 = .ok (.aload_n 0, 1) := by decide +kernel
theorem dX10_hasValue_300 : decode cX10_hasValue 300 = .ok (.getfield 183, 3) := by decide +kernel
theorem dX10_hasValue_303 : decode cX10_hasValue 303 = .ok (.if_icmp .ne 21, 3) := by decide +kernel
theorem dX10_hasValue_306 : decode cX10_hasValue 306 = .ok (.aload_n 0, 1) := by decide +kernel
theorem dX10_hasValue_307 : decode cX10_hasValue 307 = .ok (.getfield 192, 3) := by decide +kernel
theorem dX10_hasValue_310 : decode cX10_hasValue 310 = .ok (.ifCond .eq 14, 3) := by decide +kernel
theorem dX10_hasValue_313 : decode cX10_hasValue 313 = .ok (.aload_n 0, 1) := by decide +kernel
theorem dX10_hasValue_314 : decode cX10_hasValue 314 = .ok (.getfield 186, 3) := by decide +kernel
theorem dX10_hasValue_317 : decode cX10_hasValue 317 = .ok (.ifCond .eq 7, 3) := by decide +kernel
theorem dX10_hasValue_320 : decode cX10_hasValue 320 = .ok (.iconst 1, 1) := by decide +kernel
theorem dX10_hasValue_321 : decode cX10_hasValue 321 = .ok (.goto 4, 3) := by decide +kernel
theorem dX10_hasValue_324 : decode cX10_hasValue 324 = .ok (.iconst 0, 1) := by decide +kernel
theorem dX10_hasValue_325 : decode cX10_hasValue 325 = .ok (.ireturn, 1) := by decide +kernel
theorem dX10_isBetween_0 : decode cX10_isBetween 0 = .ok (.iload_n 1, 1) := by decide +kernel
theorem dX10_isBetween_1 : decode cX10_isBetween 1 = .ok (.aload_n 0, 1) := by decide +kernel
theorem dX10_isBetween_2 : decode cX10_isBetween 2 = .ok (.getfield 189, 3) := by decide +kernel
theorem dX10_isBetween_5 : decode cX10_isBetween 5 = .ok (.if_icmp .gt 18, 3) := by decide +kernel
theorem dX10_isBetween_8 : decode cX10_isBetween 8 = .ok (.iload_n 1, 1) := by decide +kernel
theorem dX10_isBetween_9 : decode cX10_isBetween 9 = .ok (.aload_n 0, 1) := by decide +kernel
theorem dX10_isBetween_10 : decode cX10_isBetween 10 = .ok (.getfield 189, 3) := by decide +kernel
theorem dX10_isBetween_13 : decode cX10_isBetween 13 = .ok (.if_icmp .ne 37, 3) := by decide +kernel
theorem dX10_isBetween_16 : decode cX10_isBetween 16 = .ok (.aload_n 0, 1) := by decide +kernel
theorem dX10_isBetween_17 : decode cX10_isBetween 17 = .ok (.getfield 192, 3) := by decide +kernel
theorem dX10_isBetween_20 : decode cX10_isBetween 20 = .ok (.ifCond .eq 30, 3) := by decide +kernel
theorem dX10_isBetween_23 : decode cX10_isBetween 23 = .ok (.iload_n 1, 1) := by decide +kernel
theorem dX10_isBetween_24 : decode cX10_isBetween 24 = .ok (.aload_n 0, 1) := by decide +kernel
theorem dX10_isBetween_25 : decode cX10_isBetween 25 = .ok (.getfield 183, 3) := by decide +kernel
theorem dX10_isBetween_28 : decode cX10_isBetween 28 = .ok (.if_icmp .lt 18, 3) := by decide +kernel
theorem dX10_isBetween_31 : decode cX10_isBetween 31 = .ok (.iload_n 1, 1) := by decide +kernel
theorem dX10_isBetween_32 : decode cX10_isBetween 32 = .ok (.aload_n 0, 1) := by decide +kernel
theorem dX10_isBetween_33 : decode cX10_isBetween 33 = .ok (.getfield 183, 3) := by decide +kernel
theorem dX10_isBetween_36 : decode cX10_isBetween 36 = .ok (.if_icmp .ne 14, 3) := by decide +kernel
theorem dX10_isBetween_39 : decode cX10_isBetween 39 = .ok (.aload_n 0, 1) := by decide +kernel
theorem dX10_isBetween_40 : decode cX10_isBetween 40 = .ok (.getfield 186, 3) := by decide +kernel
theorem dX10_isBetween_43 : decode cX10_isBetween 43 = .ok (.ifCond .eq 7, 3) := by decide +kernel
theorem dX10_isBetween_46 : decode cX10_isBetween 46 = .ok (.iconst 1, 1) := by decide +kernel
theorem dX10_isBetween_47 : decode cX10_isBetween 47 = .ok (.goto 4, 3) := by decide +kernel
theorem dX10_isBetween_50 : decode cX10_isBetween 50 = .ok (.iconst 0, 1) := by decide +kernel
theorem dX10_isBetween_51 : decode cX10_isBetween 51 = .ok (.ireturn, 1) := by decide +kernel
theorem dX10_simplest_0 : decode cX10_simplest 0 = .ok (.sipush 1024, 3) := by decide +kernel
theorem dX10_simplest_3 : decode cX10_simplest 3 = .ok (.istore_n 1, 1) := by decide +kernel
theorem dX10_simplest_4 : decode cX10_simplest 4 = .ok (.iload_n 1, 1) := by decide +kernel
theorem dX10_simplest_5 : decode cX10_simplest 5 = .ok (.ifCond .le 48, 3) := by decide +kernel
theorem dX10_simplest_8 : decode cX10_simplest 8 = .ok (.iconst 0, 1) := by decide +kernel
theorem dX10_simplest_9 : decode cX10_simplest 9 = .ok (.istore_n 2, 1) := by decide +kernel
theorem dX10_simplest_10 : decode cX10_simplest 10 = .ok (.iload_n 2, 1) := by decide +kernel
theorem dX10_simplest_11 : decode cX10_simplest 11 = .ok (.sipush 20480, 3) := by decide +kernel
theorem dX10_simplest_14 : decode cX10_simplest 14 = .ok (.if_icmp .gt 32, 3) := by decide +kernel
theorem dX10_simplest_17 : decode cX10_simplest 17 = .ok (.aload_n 0, 1) := by decide +kernel
theorem dX10_simplest_18 : decode cX10_simplest 18 = .ok (.iload_n 2, 1) := by decide +kernel
theorem dX10_simplest_19 : decode cX10_simplest 19 = .ok (.invokevirtual 205, 3) := by decide +kernel
theorem dX10_simplest_22 : decode cX10_simplest 22 = .ok (.ifCond .eq 5, 3) := by decide +kernel
theorem dX10_simplest_25 : decode cX10_simplest 25 = .ok (.iload_n 2, 1) := by decide +kernel
theorem dX10_simplest_26 : decode cX10_simplest 26 = .ok (.ireturn, 1) := by decide +kernel
theorem dX10_simplest_27 : decode cX10_simplest 27 = .ok (.aload_n 0, 1) := by decide +kernel
theorem dX10_simplest_28 : decode cX10_simplest 28 = .ok (.iload_n 2, 1) := by decide +kernel
theorem dX10_simplest_29 : decode cX10_simplest 29 = .ok (.ineg, 1) := by decide +kernel
theorem dX10_simplest_30 : decode cX10_simplest 30 = .ok (.invokevirtual 205, 3) := by decide +kernel
theorem dX10_simplest_33 : decode cX10_simplest 33 = .ok (.ifCond .eq 6, 3) := by decide +kernel
theorem dX10_simplest_36 : decode cX10_simplest 36 = .ok (.iload_n 2, 1) := by decide +kernel
theorem dX10_simplest_37 : decode cX10_simplest 37 = .ok (.ineg, 1) := by decide +kernel
theorem dX10_simplest_38 : decode cX10_simplest 38 = .ok (.ireturn, 1) := by decide +kernel
theorem dX10_simplest_39 : decode cX10_simplest 39 = .ok (.iload_n 2, 1) := by decide +kernel
theorem dX10_simplest_40 : decode cX10_simplest 40 = .ok (.iload_n 1, 1) := by decide +kernel
theorem dX10_simplest_41 : decode cX10_simplest 41 = .ok (.iadd, 1) := by decide +kernel
theorem dX10_simplest_42 : decode cX10_simplest 42 = .ok (.istore_n 2, 1) := by decide +kernel
theorem dX10_simplest_43 : decode cX10_simplest 43 = .ok (.goto (-33), 3) := by decide +kernel
theorem dX10_simplest_46 : decode cX10_simplest 46 = .ok (.iload_n 1, 1) := by decide +kernel
theorem dX10_simplest_47 : decode cX10_simplest 47 = .ok (.iconst 2, 1) := by decide +kernel
theorem dX10_simplest_48 : decode cX10_simplest 48 = .ok (.idiv, 1) := by decide +kernel
theorem dX10_simplest_49 : decode cX10_simplest 49 = .ok (.istore_n 1, 1) := by decide +kernel
theorem dX10_simplest_50 : decode cX10_simplest 50 = .ok (.goto (-46), 3) := by decide +kernel
theorem dX10_simplest_53 : decode cX10_simplest 53 = .ok (.iconst 0, 1) := by decide +kernel
theorem dX10_simplest_54 : decode cX10_simplest 54 = .ok (.ireturn, 1) := by decide +kernel
theorem dX10_isAtLeastNumber_0 : decode cX10_isAtLeastNumber 0 = .ok (.iload_n 2, 1) := by decide +kernel
theorem dX10_isAtLeastNumber_1 : decode cX10_isAtLeastNumber 1 = .ok (.aload_n 0, 1) := by decide +kernel
theorem dX10_isAtLeastNumber_2 : decode cX10_isAtLeastNumber 2 = .ok (.getfield 32, 3) := by decide +kernel
theorem dX10_isAtLeastNumber_5 : decode cX10_isAtLeastNumber 5 = .ok (.iload_n 1, 1) := by decide +kernel
theorem dX10_isAtLeastNumber_6 : decode cX10_isAtLeastNumber 6 = .ok (.iaload, 1) := by decide +kernel
theorem dX10_isAtLeastNumber_7 : decode cX10_isAtLeastNumber 7 = .ok (.if_icmp .lt 22, 3) := by decide +kernel
theorem dX10_isAtLeastNumber_10 : decode cX10_isAtLeastNumber 10 = .ok (.iload_n 2, 1) := by decide +kernel
theorem dX10_isAtLeastNumber_11 : decode cX10_isAtLeastNumber 11 = .ok (.aload_n 0, 1) := by decide +kernel
theorem dX10_isAtLeastNumber_12 : decode cX10_isAtLeastNumber 12 = .ok (.getfield 32, 3) := by decide +kernel
theorem dX10_isAtLeastNumber_15 : decode cX10_isAtLeastNumber 15 = .ok (.iload_n 1, 1) := by decide +kernel
theorem dX10_isAtLeastNumber_16 : decode cX10_isAtLeastNumber 16 = .ok (.iaload, 1) := by decide +kernel
theorem dX10_isAtLeastNumber_17 : decode cX10_isAtLeastNumber 17 = .ok (.if_icmp .ne 16, 3) := by decide +kernel
theorem dX10_isAtLeastNumber_20 : decode cX10_isAtLeastNumber 20 = .ok (.aload_n 0, 1) := by decide +kernel
theorem dX10_isAtLeastNumber_21 : decode cX10_isAtLeastNumber 21 = .ok (.getfield 35, 3) := by decide +kernel
theorem dX10_isAtLeastNumber_24 : decode cX10_isAtLeastNumber 24 = .ok (.iload_n 1, 1) := by decide +kernel
theorem dX10_isAtLeastNumber_25 : decode cX10_isAtLeastNumber 25 = .ok (.baload, 1) := by decide +kernel
theorem dX10_isAtLeastNumber_26 : decode cX10_isAtLeastNumber 26 = .ok (.ifCond .eq 7, 3) := by decide +kernel
theorem dX10_isAtLeastNumber_29 : decode cX10_isAtLeastNumber 29 = .ok (.iconst 1, 1) := by decide +kernel
theorem dX10_isAtLeastNumber_30 : decode cX10_isAtLeastNumber 30 = .ok (.goto 4, 3) := by decide +kernel
theorem dX10_isAtLeastNumber_33 : decode cX10_isAtLeastNumber 33 = .ok (.iconst 0, 1) := by decide +kernel
theorem dX10_isAtLeastNumber_34 : decode cX10_isAtLeastNumber 34 = .ok (.ireturn, 1) := by decide +kernel
theorem dX10_isAtMostNumber_0 : decode cX10_isAtMostNumber 0 = .ok (.iload_n 2, 1) := by decide +kernel
theorem dX10_isAtMostNumber_1 : decode cX10_isAtMostNumber 1 = .ok (.aload_n 0, 1) := by decide +kernel
theorem dX10_isAtMostNumber_2 : decode cX10_isAtMostNumber 2 = .ok (.getfield 38, 3) := by decide +kernel
theorem dX10_isAtMostNumber_5 : decode cX10_isAtMostNumber 5 = .ok (.iload_n 1, 1) := by decide +kernel
theorem dX10_isAtMostNumber_6 : decode cX10_isAtMostNumber 6 = .ok (.iaload, 1) := by decide +kernel
theorem dX10_isAtMostNumber_7 : decode cX10_isAtMostNumber 7 = .ok (.if_icmp .gt 22, 3) := by decide +kernel
theorem dX10_isAtMostNumber_10 : decode cX10_isAtMostNumber 10 = .ok (.iload_n 2, 1) := by decide +kernel
theorem dX10_isAtMostNumber_11 : decode cX10_isAtMostNumber 11 = .ok (.aload_n 0, 1) := by decide +kernel
theorem dX10_isAtMostNumber_12 : decode cX10_isAtMostNumber 12 = .ok (.getfield 38, 3) := by decide +kernel
theorem dX10_isAtMostNumber_15 : decode cX10_isAtMostNumber 15 = .ok (.iload_n 1, 1) := by decide +kernel
theorem dX10_isAtMostNumber_16 : decode cX10_isAtMostNumber 16 = .ok (.iaload, 1) := by decide +kernel
theorem dX10_isAtMostNumber_17 : decode cX10_isAtMostNumber 17 = .ok (.if_icmp .ne 16, 3) := by decide +kernel
theorem dX10_isAtMostNumber_20 : decode cX10_isAtMostNumber 20 = .ok (.aload_n 0, 1) := by decide +kernel
theorem dX10_isAtMostNumber_21 : decode cX10_isAtMostNumber 21 = .ok (.getfield 41, 3) := by decide +kernel
theorem dX10_isAtMostNumber_24 : decode cX10_isAtMostNumber 24 = .ok (.iload_n 1, 1) := by decide +kernel
theorem dX10_isAtMostNumber_25 : decode cX10_isAtMostNumber 25 = .ok (.baload, 1) := by decide +kernel
theorem dX10_isAtMostNumber_26 : decode cX10_isAtMostNumber 26 = .ok (.ifCond .eq 7, 3) := by decide +kernel
theorem dX10_isAtMostNumber_29 : decode cX10_isAtMostNumber 29 = .ok (.iconst 1, 1) := by decide +kernel
theorem dX10_isAtMostNumber_30 : decode cX10_isAtMostNumber 30 = .ok (.goto 4, 3) := by decide +kernel
theorem dX10_isAtMostNumber_33 : decode cX10_isAtMostNumber 33 = .ok (.iconst 0, 1) := by decide +kernel
theorem dX10_isAtMostNumber_34 : decode cX10_isAtMostNumber 34 = .ok (.ireturn, 1) := by decide +kernel
theorem dX10_isAtLeast_0 : decode cX10_isAtLeast 0 = .ok (.aload_n 0, 1) := by decide +kernel
theorem dX10_isAtLeast_1 : decode cX10_isAtLeast 1 = .ok (.getfield 7, 3) := by decide +kernel
theorem dX10_isAtLeast_4 : decode cX10_isAtLeast 4 = .ok (.iload_n 2, 1) := by decide +kernel
theorem dX10_isAtLeast_5 : decode cX10_isAtLeast 5 = .ok (.baload, 1) := by decide +kernel
theorem dX10_isAtLeast_6 : decode cX10_isAtLeast 6 = .ok (.ifCond .eq 15, 3) := by decide +kernel
theorem dX10_isAtLeast_9 : decode cX10_isAtLeast 9 = .ok (.aload_n 0, 1) := by decide +kernel
theorem dX10_isAtLeast_10 : decode cX10_isAtLeast 10 = .ok (.iload_n 1, 1) := by decide +kernel
theorem dX10_isAtLeast_11 : decode cX10_isAtLeast 11 = .ok (.aload_n 0, 1) := by decide +kernel
theorem dX10_isAtLeast_12 : decode cX10_isAtLeast 12 = .ok (.getfield 13, 3) := by decide +kernel
theorem dX10_isAtLeast_15 : decode cX10_isAtLeast 15 = .ok (.iload_n 2, 1) := by decide +kernel
theorem dX10_isAtLeast_16 : decode cX10_isAtLeast 16 = .ok (.iaload, 1) := by decide +kernel
theorem dX10_isAtLeast_17 : decode cX10_isAtLeast 17 = .ok (.invokevirtual 208, 3) := by decide +kernel
theorem dX10_isAtLeast_20 : decode cX10_isAtLeast 20 = .ok (.ireturn, 1) := by decide +kernel
theorem dX10_isAtLeast_21 : decode cX10_isAtLeast 21 = .ok (.aload_n 0, 1) := by decide +kernel
theorem dX10_isAtLeast_22 : decode cX10_isAtLeast 22 = .ok (.getfield 7, 3) := by decide +kernel
theorem dX10_isAtLeast_25 : decode cX10_isAtLeast 25 = .ok (.iload_n 1, 1) := by decide +kernel
theorem dX10_isAtLeast_26 : decode cX10_isAtLeast 26 = .ok (.baload, 1) := by decide +kernel
theorem dX10_isAtLeast_27 : decode cX10_isAtLeast 27 = .ok (.ifCond .eq 15, 3) := by decide +kernel
theorem dX10_isAtLeast_30 : decode cX10_isAtLeast 30 = .ok (.aload_n 0, 1) := by decide +kernel
theorem dX10_isAtLeast_31 : decode cX10_isAtLeast 31 = .ok (.iload_n 2, 1) := by decide +kernel
theorem dX10_isAtLeast_32 : decode cX10_isAtLeast 32 = .ok (.aload_n 0, 1) := by decide +kernel
theorem dX10_isAtLeast_33 : decode cX10_isAtLeast 33 = .ok (.getfield 13, 3) := by decide +kernel
theorem dX10_isAtLeast_36 : decode cX10_isAtLeast 36 = .ok (.iload_n 1, 1) := by decide +kernel
theorem dX10_isAtLeast_37 : decode cX10_isAtLeast 37 = .ok (.iaload, 1) := by decide +kernel
theorem dX10_isAtLeast_38 : decode cX10_isAtLeast 38 = .ok (.invokevirtual 211, 3) := by decide +kernel
theorem dX10_isAtLeast_41 : decode cX10_isAtLeast 41 = .ok (.ireturn, 1) := by decide +kernel
theorem dX10_isAtLeast_42 : decode cX10_isAtLeast 42 = .ok (.iconst 1, 1) := by decide +kernel
theorem dX10_isAtLeast_43 : decode cX10_isAtLeast 43 = .ok (.istore_n 3, 1) := by decide +kernel
theorem dX10_isAtLeast_44 : decode cX10_isAtLeast 44 = .ok (.iconst 0, 1) := by decide +kernel
theorem dX10_isAtLeast_45 : decode cX10_isAtLeast 45 = .ok (.istore 4, 2) := by decide +kernel
theorem dX10_isAtLeast_47 : decode cX10_isAtLeast 47 = .ok (.iload 4, 2) := by decide +kernel
theorem dX10_isAtLeast_49 : decode cX10_isAtLeast 49 = .ok (.aload_n 0, 1) := by decide +kernel
theorem dX10_isAtLeast_50 : decode cX10_isAtLeast 50 = .ok (.iload_n 1, 1) := by decide +kernel
theorem dX10_isAtLeast_51 : decode cX10_isAtLeast 51 = .ok (.iconst 1, 1) := by decide +kernel
theorem dX10_isAtLeast_52 : decode cX10_isAtLeast 52 = .ok (.invokevirtual 164, 3) := by decide +kernel
theorem dX10_isAtLeast_55 : decode cX10_isAtLeast 55 = .ok (.if_icmp .ge 40, 3) := by decide +kernel
theorem dX10_isAtLeast_58 : decode cX10_isAtLeast 58 = .ok (.iload_n 3, 1) := by decide +kernel
theorem dX10_isAtLeast_59 : decode cX10_isAtLeast 59 = .ok (.ifCond .eq 36, 3) := by decide +kernel
theorem dX10_isAtLeast_62 : decode cX10_isAtLeast 62 = .ok (.aload_n 0, 1) := by decide +kernel
theorem dX10_isAtLeast_63 : decode cX10_isAtLeast 63 = .ok (.getfield 44, 3) := by decide +kernel
theorem dX10_isAtLeast_66 : decode cX10_isAtLeast 66 = .ok (.bipush 40, 2) := by decide +kernel
theorem dX10_isAtLeast_68 : decode cX10_isAtLeast 68 = .ok (.iload_n 2, 1) := by decide +kernel
theorem dX10_isAtLeast_69 : decode cX10_isAtLeast 69 = .ok (.imul, 1) := by decide +kernel
theorem dX10_isAtLeast_70 : decode cX10_isAtLeast 70 = .ok (.aload_n 0, 1) := by decide +kernel
theorem dX10_isAtLeast_71 : decode cX10_isAtLeast 71 = .ok (.iload_n 1, 1) := by decide +kernel
theorem dX10_isAtLeast_72 : decode cX10_isAtLeast 72 = .ok (.iconst 1, 1) := by decide +kernel
theorem dX10_isAtLeast_73 : decode cX10_isAtLeast 73 = .ok (.iload 4, 2) := by decide +kernel
theorem dX10_isAtLeast_75 : decode cX10_isAtLeast 75 = .ok (.invokevirtual 167, 3) := by decide +kernel
theorem dX10_isAtLeast_78 : decode cX10_isAtLeast 78 = .ok (.iadd, 1) := by decide +kernel
theorem dX10_isAtLeast_79 : decode cX10_isAtLeast 79 = .ok (.baload, 1) := by decide +kernel
theorem dX10_isAtLeast_80 : decode cX10_isAtLeast 80 = .ok (.ifCond .ne 7, 3) := by decide +kernel
theorem dX10_isAtLeast_83 : decode cX10_isAtLeast 83 = .ok (.iconst 1, 1) := by decide +kernel
theorem dX10_isAtLeast_84 : decode cX10_isAtLeast 84 = .ok (.goto 4, 3) := by decide +kernel
theorem dX10_isAtLeast_87 : decode cX10_isAtLeast 87 = .ok (.iconst 0, 1) := by decide +kernel
theorem dX10_isAtLeast_88 : decode cX10_isAtLeast 88 = .ok (.istore_n 3, 1) := by decide +kernel
theorem dX10_isAtLeast_89 : decode cX10_isAtLeast 89 = .ok (.iinc 4 1, 3) := by decide +kernel
theorem dX10_isAtLeast_92 : decode cX10_isAtLeast 92 = .ok (.goto (-45), 3) := by decide +kernel
theorem dX10_isAtLeast_95 : decode cX10_isAtLeast 95 = .ok (.iconst 0, 1) := by decide +kernel
theorem dX10_isAtLeast_96 : decode cX10_isAtLeast 96 = .ok (.istore 4, 2) := by decide +kernel
theorem dX10_isAtLeast_98 : decode cX10_isAtLeast 98 = .ok (.iload 4, 2) := by decide +kernel
theorem dX10_isAtLeast_100 : decode cX10_isAtLeast 100 = .ok (.aload_n 0, 1) := by decide +kernel
theorem dX10_isAtLeast_101 : decode cX10_isAtLeast 101 = .ok (.iload_n 2, 1) := by decide +kernel
theorem dX10_isAtLeast_102 : decode cX10_isAtLeast 102 = .ok (.iconst 0, 1) := by decide +kernel
theorem dX10_isAtLeast_103 : decode cX10_isAtLeast 103 = .ok (.invokevirtual 164, 3) := by decide +kernel
theorem dX10_isAtLeast_106 : decode cX10_isAtLeast 106 = .ok (.if_icmp .ge 40, 3) := by decide +kernel
theorem dX10_isAtLeast_109 : decode cX10_isAtLeast 109 = .ok (.iload_n 3, 1) := by decide +kernel
theorem dX10_isAtLeast_110 : decode cX10_isAtLeast 110 = .ok (.ifCond .eq 36, 3) := by decide +kernel
theorem dX10_isAtLeast_113 : decode cX10_isAtLeast 113 = .ok (.aload_n 0, 1) := by decide +kernel
theorem dX10_isAtLeast_114 : decode cX10_isAtLeast 114 = .ok (.getfield 44, 3) := by decide +kernel
theorem dX10_isAtLeast_117 : decode cX10_isAtLeast 117 = .ok (.bipush 40, 2) := by decide +kernel
theorem dX10_isAtLeast_119 : decode cX10_isAtLeast 119 = .ok (.aload_n 0, 1) := by decide +kernel
theorem dX10_isAtLeast_120 : decode cX10_isAtLeast 120 = .ok (.iload_n 2, 1) := by decide +kernel
theorem dX10_isAtLeast_121 : decode cX10_isAtLeast 121 = .ok (.iconst 0, 1) := by decide +kernel
theorem dX10_isAtLeast_122 : decode cX10_isAtLeast 122 = .ok (.iload 4, 2) := by decide +kernel
theorem dX10_isAtLeast_124 : decode cX10_isAtLeast 124 = .ok (.invokevirtual 167, 3) := by decide +kernel
theorem dX10_isAtLeast_127 : decode cX10_isAtLeast 127 = .ok (.imul, 1) := by decide +kernel
theorem dX10_isAtLeast_128 : decode cX10_isAtLeast 128 = .ok (.iload_n 1, 1) := by decide +kernel
theorem dX10_isAtLeast_129 : decode cX10_isAtLeast 129 = .ok (.iadd, 1) := by decide +kernel
theorem dX10_isAtLeast_130 : decode cX10_isAtLeast 130 = .ok (.baload, 1) := by decide +kernel
theorem dX10_isAtLeast_131 : decode cX10_isAtLeast 131 = .ok (.ifCond .ne 7, 3) := by decide +kernel
theorem dX10_isAtLeast_134 : decode cX10_isAtLeast 134 = .ok (.iconst 1, 1) := by decide +kernel
theorem dX10_isAtLeast_135 : decode cX10_isAtLeast 135 = .ok (.goto 4, 3) := by decide +kernel
theorem dX10_isAtLeast_138 : decode cX10_isAtLeast 138 = .ok (.iconst 0, 1) := by decide +kernel
theorem dX10_isAtLeast_139 : decode cX10_isAtLeast 139 = .ok (.istore_n 3, 1) := by decide +kernel
theorem dX10_isAtLeast_140 : decode cX10_isAtLeast 140 = .ok (.iinc 4 1, 3) := by decide +kernel
theorem dX10_isAtLeast_143 : decode cX10_isAtLeast 143 = .ok (.goto (-45), 3) := by decide +kernel
theorem dX10_isAtLeast_146 : decode cX10_isAtLeast 146 = .ok (.iload_n 3, 1) := by decide +kernel
theorem dX10_isAtLeast_147 : decode cX10_isAtLeast 147 = .ok (.ireturn, 1) := by decide +kernel
theorem dX10_sample_0 : decode cX10_sample 0 = .ok (.aload_n 0, 1) := by decide +kernel
theorem dX10_sample_1 : decode cX10_sample 1 = .ok (.getfield 54, 3) := by decide +kernel
theorem dX10_sample_4 : decode cX10_sample 4 = .ok (.sipush 7200, 3) := by decide +kernel
theorem dX10_sample_7 : decode cX10_sample 7 = .ok (.iconst 2, 1) := by decide +kernel
theorem dX10_sample_8 : decode cX10_sample 8 = .ok (.iload_n 1, 1) := by decide +kernel
theorem dX10_sample_9 : decode cX10_sample 9 = .ok (.imul, 1) := by decide +kernel
theorem dX10_sample_10 : decode cX10_sample 10 = .ok (.iload_n 2, 1) := by decide +kernel
theorem dX10_sample_11 : decode cX10_sample 11 = .ok (.iadd, 1) := by decide +kernel
theorem dX10_sample_12 : decode cX10_sample 12 = .ok (.imul, 1) := by decide +kernel
theorem dX10_sample_13 : decode cX10_sample 13 = .ok (.iload_n 3, 1) := by decide +kernel
theorem dX10_sample_14 : decode cX10_sample 14 = .ok (.iadd, 1) := by decide +kernel
theorem dX10_sample_15 : decode cX10_sample 15 = .ok (.iaload, 1) := by decide +kernel
theorem dX10_sample_16 : decode cX10_sample 16 = .ok (.ireturn, 1) := by decide +kernel
theorem dX10_put_0 : decode cX10_put 0 = .ok (.aload_n 0, 1) := by decide +kernel
theorem dX10_put_1 : decode cX10_put 1 = .ok (.getfield 54, 3) := by decide +kernel
theorem dX10_put_4 : decode cX10_put 4 = .ok (.sipush 7200, 3) := by decide +kernel
theorem dX10_put_7 : decode cX10_put 7 = .ok (.iconst 2, 1) := by decide +kernel
theorem dX10_put_8 : decode cX10_put 8 = .ok (.iload_n 1, 1) := by decide +kernel
theorem dX10_put_9 : decode cX10_put 9 = .ok (.imul, 1) := by decide +kernel
theorem dX10_put_10 : decode cX10_put 10 = .ok (.iload_n 2, 1) := by decide +kernel
theorem dX10_put_11 : decode cX10_put 11 = .ok (.iadd, 1) := by decide +kernel
theorem dX10_put_12 : decode cX10_put 12 = .ok (.imul, 1) := by decide +kernel
theorem dX10_put_13 : decode cX10_put 13 = .ok (.iload_n 3, 1) := by decide +kernel
theorem dX10_put_14 : decode cX10_put 14 = .ok (.iadd, 1) := by decide +kernel
theorem dX10_put_15 : decode cX10_put 15 = .ok (.iload 4, 2) := by decide +kernel
theorem dX10_put_17 : decode cX10_put 17 = .ok (.iastore, 1) := by decide +kernel
theorem dX10_put_18 : decode cX10_put 18 = .ok (.return_, 1) := by decide +kernel
theorem dX10_taxed_0 : decode cX10_taxed 0 = .ok (.iload_n 2, 1) := by decide +kernel
theorem dX10_taxed_1 : decode cX10_taxed 1 = .ok (.ifCond .ne 8, 3) := by decide +kernel
theorem dX10_taxed_4 : decode cX10_taxed 4 = .ok (.ldc 203, 2) := by decide +kernel
theorem dX10_taxed_6 : decode cX10_taxed 6 = .ok (.goto 5, 3) := by decide +kernel
theorem dX10_taxed_9 : decode cX10_taxed 9 = .ok (.ldc 204, 2) := by decide +kernel
theorem dX10_taxed_11 : decode cX10_taxed 11 = .ok (.istore 4, 2) := by decide +kernel
theorem dX10_taxed_13 : decode cX10_taxed 13 = .ok (.iconst 0, 1) := by decide +kernel
theorem dX10_taxed_14 : decode cX10_taxed 14 = .ok (.istore 5, 2) := by decide +kernel
theorem dX10_taxed_16 : decode cX10_taxed 16 = .ok (.iload 5, 2) := by decide +kernel
theorem dX10_taxed_18 : decode cX10_taxed 18 = .ok (.aload_n 0, 1) := by decide +kernel
theorem dX10_taxed_19 : decode cX10_taxed 19 = .ok (.iload_n 1, 1) := by decide +kernel
theorem dX10_taxed_20 : decode cX10_taxed 20 = .ok (.iload_n 2, 1) := by decide +kernel
theorem dX10_taxed_21 : decode cX10_taxed 21 = .ok (.invokevirtual 164, 3) := by decide +kernel
theorem dX10_taxed_24 : decode cX10_taxed 24 = .ok (.if_icmp .ge 64, 3) := by decide +kernel
theorem dX10_taxed_27 : decode cX10_taxed 27 = .ok (.aload_n 0, 1) := by decide +kernel
theorem dX10_taxed_28 : decode cX10_taxed 28 = .ok (.aload_n 0, 1) := by decide +kernel
theorem dX10_taxed_29 : decode cX10_taxed 29 = .ok (.iload_n 1, 1) := by decide +kernel
theorem dX10_taxed_30 : decode cX10_taxed 30 = .ok (.iload_n 2, 1) := by decide +kernel
theorem dX10_taxed_31 : decode cX10_taxed 31 = .ok (.iload 5, 2) := by decide +kernel
theorem dX10_taxed_33 : decode cX10_taxed 33 = .ok (.invokevirtual 167, 3) := by decide +kernel
theorem dX10_taxed_36 : decode cX10_taxed 36 = .ok (.iconst 1, 1) := by decide +kernel
theorem dX10_taxed_37 : decode cX10_taxed 37 = .ok (.iload_n 2, 1) := by decide +kernel
theorem dX10_taxed_38 : decode cX10_taxed 38 = .ok (.isub, 1) := by decide +kernel
theorem dX10_taxed_39 : decode cX10_taxed 39 = .ok (.iload_n 3, 1) := by decide +kernel
theorem dX10_taxed_40 : decode cX10_taxed 40 = .ok (.invokevirtual 214, 3) := by decide +kernel
theorem dX10_taxed_43 : decode cX10_taxed 43 = .ok (.istore 6, 2) := by decide +kernel
theorem dX10_taxed_45 : decode cX10_taxed 45 = .ok (.iload_n 2, 1) := by decide +kernel
theorem dX10_taxed_46 : decode cX10_taxed 46 = .ok (.ifCond .ne 20, 3) := by decide +kernel
theorem dX10_taxed_49 : decode cX10_taxed 49 = .ok (.iload 6, 2) := by decide +kernel
theorem dX10_taxed_51 : decode cX10_taxed 51 = .ok (.iload 4, 2) := by decide +kernel
theorem dX10_taxed_53 : decode cX10_taxed 53 = .ok (.if_icmp .le 8, 3) := by decide +kernel
theorem dX10_taxed_56 : decode cX10_taxed 56 = .ok (.iload 6, 2) := by decide +kernel
theorem dX10_taxed_58 : decode cX10_taxed 58 = .ok (.goto 22, 3) := by decide +kernel
theorem dX10_taxed_61 : decode cX10_taxed 61 = .ok (.iload 4, 2) := by decide +kernel
theorem dX10_taxed_63 : decode cX10_taxed 63 = .ok (.goto 17, 3) := by decide +kernel
theorem dX10_taxed_66 : decode cX10_taxed 66 = .ok (.iload 6, 2) := by decide +kernel
theorem dX10_taxed_68 : decode cX10_taxed 68 = .ok (.iload 4, 2) := by decide +kernel
theorem dX10_taxed_70 : decode cX10_taxed 70 = .ok (.if_icmp .ge 8, 3) := by decide +kernel
theorem dX10_taxed_73 : decode cX10_taxed 73 = .ok (.iload 6, 2) := by decide +kernel
theorem dX10_taxed_75 : decode cX10_taxed 75 = .ok (.goto 5, 3) := by decide +kernel
theorem dX10_taxed_78 : decode cX10_taxed 78 = .ok (.iload 4, 2) := by decide +kernel
theorem dX10_taxed_80 : decode cX10_taxed 80 = .ok (.istore 4, 2) := by decide +kernel
theorem dX10_taxed_82 : decode cX10_taxed 82 = .ok (.iinc 5 1, 3) := by decide +kernel
theorem dX10_taxed_85 : decode cX10_taxed 85 = .ok (.goto (-69), 3) := by decide +kernel
theorem dX10_taxed_88 : decode cX10_taxed 88 = .ok (.iload_n 2, 1) := by decide +kernel
theorem dX10_taxed_89 : decode cX10_taxed 89 = .ok (.ifCond .ne 12, 3) := by decide +kernel
theorem dX10_taxed_92 : decode cX10_taxed 92 = .ok (.iload 4, 2) := by decide +kernel
theorem dX10_taxed_94 : decode cX10_taxed 94 = .ok (.iconst 2, 1) := by decide +kernel
theorem dX10_taxed_95 : decode cX10_taxed 95 = .ok (.iload_n 3, 1) := by decide +kernel
theorem dX10_taxed_96 : decode cX10_taxed 96 = .ok (.imul, 1) := by decide +kernel
theorem dX10_taxed_97 : decode cX10_taxed 97 = .ok (.isub, 1) := by decide +kernel
theorem dX10_taxed_98 : decode cX10_taxed 98 = .ok (.goto 9, 3) := by decide +kernel
theorem dX10_taxed_101 : decode cX10_taxed 101 = .ok (.iload 4, 2) := by decide +kernel
theorem dX10_taxed_103 : decode cX10_taxed 103 = .ok (.iconst 2, 1) := by decide +kernel
theorem dX10_taxed_104 : decode cX10_taxed 104 = .ok (.iload_n 3, 1) := by decide +kernel
theorem dX10_taxed_105 : decode cX10_taxed 105 = .ok (.imul, 1) := by decide +kernel
theorem dX10_taxed_106 : decode cX10_taxed 106 = .ok (.iadd, 1) := by decide +kernel
theorem dX10_taxed_107 : decode cX10_taxed 107 = .ok (.ireturn, 1) := by decide +kernel
theorem dX10_laysWalls_0 : decode cX10_laysWalls 0 = .ok (.aload_n 0, 1) := by decide +kernel
theorem dX10_laysWalls_1 : decode cX10_laysWalls 1 = .ok (.getfield 47, 3) := by decide +kernel
theorem dX10_laysWalls_4 : decode cX10_laysWalls 4 = .ok (.iload_n 1, 1) := by decide +kernel
theorem dX10_laysWalls_5 : decode cX10_laysWalls 5 = .ok (.aload_n 0, 1) := by decide +kernel
theorem dX10_laysWalls_6 : decode cX10_laysWalls 6 = .ok (.getfield 29, 3) := by decide +kernel
theorem dX10_laysWalls_9 : decode cX10_laysWalls 9 = .ok (.iload_n 1, 1) := by decide +kernel
theorem dX10_laysWalls_10 : decode cX10_laysWalls 10 = .ok (.iaload, 1) := by decide +kernel
theorem dX10_laysWalls_11 : decode cX10_laysWalls 11 = .ok (.iastore, 1) := by decide +kernel
theorem dX10_laysWalls_12 : decode cX10_laysWalls 12 = .ok (.aload_n 0, 1) := by decide +kernel
theorem dX10_laysWalls_13 : decode cX10_laysWalls 13 = .ok (.getfield 50, 3) := by decide +kernel
theorem dX10_laysWalls_16 : decode cX10_laysWalls 16 = .ok (.iload_n 1, 1) := by decide +kernel
theorem dX10_laysWalls_17 : decode cX10_laysWalls 17 = .ok (.iconst (-1), 1) := by decide +kernel
theorem dX10_laysWalls_18 : decode cX10_laysWalls 18 = .ok (.iastore, 1) := by decide +kernel
theorem dX10_laysWalls_19 : decode cX10_laysWalls 19 = .ok (.aload_n 0, 1) := by decide +kernel
theorem dX10_laysWalls_20 : decode cX10_laysWalls 20 = .ok (.getfield 26, 3) := by decide +kernel
theorem dX10_laysWalls_23 : decode cX10_laysWalls 23 = .ok (.iload_n 1, 1) := by decide +kernel
theorem dX10_laysWalls_24 : decode cX10_laysWalls 24 = .ok (.baload, 1) := by decide +kernel
theorem dX10_laysWalls_25 : decode cX10_laysWalls 25 = .ok (.istore_n 2, 1) := by decide +kernel
theorem dX10_laysWalls_26 : decode cX10_laysWalls 26 = .ok (.iconst 0, 1) := by decide +kernel
theorem dX10_laysWalls_27 : decode cX10_laysWalls 27 = .ok (.istore_n 3, 1) := by decide +kernel
theorem dX10_laysWalls_28 : decode cX10_laysWalls 28 = .ok (.iload_n 3, 1) := by decide +kernel
theorem dX10_laysWalls_29 : decode cX10_laysWalls 29 = .ok (.sipush 7200, 3) := by decide +kernel
theorem dX10_laysWalls_32 : decode cX10_laysWalls 32 = .ok (.if_icmp .ge 105, 3) := by decide +kernel
theorem dX10_laysWalls_35 : decode cX10_laysWalls 35 = .ok (.iload_n 2, 1) := by decide +kernel
theorem dX10_laysWalls_36 : decode cX10_laysWalls 36 = .ok (.ifCond .eq 12, 3) := by decide +kernel
theorem dX10_laysWalls_39 : decode cX10_laysWalls 39 = .ok (.aload_n 0, 1) := by decide +kernel
theorem dX10_laysWalls_40 : decode cX10_laysWalls 40 = .ok (.getfield 47, 3) := by decide +kernel
theorem dX10_laysWalls_43 : decode cX10_laysWalls 43 = .ok (.iload_n 1, 1) := by decide +kernel
theorem dX10_laysWalls_44 : decode cX10_laysWalls 44 = .ok (.iaload, 1) := by decide +kernel
theorem dX10_laysWalls_45 : decode cX10_laysWalls 45 = .ok (.goto 10, 3) := by decide +kernel
theorem dX10_laysWalls_48 : decode cX10_laysWalls 48 = .ok (.aload_n 0, 1) := by decide +kernel
theorem dX10_laysWalls_49 : decode cX10_laysWalls 49 = .ok (.iload_n 1, 1) := by decide +kernel
theorem dX10_laysWalls_50 : decode cX10_laysWalls 50 = .ok (.iconst 0, 1) := by decide +kernel
theorem dX10_laysWalls_51 : decode cX10_laysWalls 51 = .ok (.iload_n 3, 1) := by decide +kernel
theorem dX10_laysWalls_52 : decode cX10_laysWalls 52 = .ok (.invokevirtual 217, 3) := by decide +kernel
theorem dX10_laysWalls_55 : decode cX10_laysWalls 55 = .ok (.istore 4, 2) := by decide +kernel
theorem dX10_laysWalls_57 : decode cX10_laysWalls 57 = .ok (.iload_n 2, 1) := by decide +kernel
theorem dX10_laysWalls_58 : decode cX10_laysWalls 58 = .ok (.ifCond .eq 12, 3) := by decide +kernel
theorem dX10_laysWalls_61 : decode cX10_laysWalls 61 = .ok (.aload_n 0, 1) := by decide +kernel
theorem dX10_laysWalls_62 : decode cX10_laysWalls 62 = .ok (.getfield 47, 3) := by decide +kernel
theorem dX10_laysWalls_65 : decode cX10_laysWalls 65 = .ok (.iload_n 1, 1) := by decide +kernel
theorem dX10_laysWalls_66 : decode cX10_laysWalls 66 = .ok (.iaload, 1) := by decide +kernel
theorem dX10_laysWalls_67 : decode cX10_laysWalls 67 = .ok (.goto 10, 3) := by decide +kernel
theorem dX10_laysWalls_70 : decode cX10_laysWalls 70 = .ok (.aload_n 0, 1) := by decide +kernel
theorem dX10_laysWalls_71 : decode cX10_laysWalls 71 = .ok (.iload_n 1, 1) := by decide +kernel
theorem dX10_laysWalls_72 : decode cX10_laysWalls 72 = .ok (.iconst 1, 1) := by decide +kernel
theorem dX10_laysWalls_73 : decode cX10_laysWalls 73 = .ok (.iload_n 3, 1) := by decide +kernel
theorem dX10_laysWalls_74 : decode cX10_laysWalls 74 = .ok (.invokevirtual 217, 3) := by decide +kernel
theorem dX10_laysWalls_77 : decode cX10_laysWalls 77 = .ok (.istore 5, 2) := by decide +kernel
theorem dX10_laysWalls_79 : decode cX10_laysWalls 79 = .ok (.iload_n 2, 1) := by decide +kernel
theorem dX10_laysWalls_80 : decode cX10_laysWalls 80 = .ok (.ifCond .ne 33, 3) := by decide +kernel
theorem dX10_laysWalls_83 : decode cX10_laysWalls 83 = .ok (.iload 4, 2) := by decide +kernel
theorem dX10_laysWalls_85 : decode cX10_laysWalls 85 = .ok (.iload 5, 2) := by decide +kernel
theorem dX10_laysWalls_87 : decode cX10_laysWalls 87 = .ok (.if_icmp .gt 26, 3) := by decide +kernel
theorem dX10_laysWalls_90 : decode cX10_laysWalls 90 = .ok (.iconst 1, 1) := by decide +kernel
theorem dX10_laysWalls_91 : decode cX10_laysWalls 91 = .ok (.istore_n 2, 1) := by decide +kernel
theorem dX10_laysWalls_92 : decode cX10_laysWalls 92 = .ok (.aload_n 0, 1) := by decide +kernel
theorem dX10_laysWalls_93 : decode cX10_laysWalls 93 = .ok (.getfield 47, 3) := by decide +kernel
theorem dX10_laysWalls_96 : decode cX10_laysWalls 96 = .ok (.iload_n 1, 1) := by decide +kernel
theorem dX10_laysWalls_97 : decode cX10_laysWalls 97 = .ok (.iload 4, 2) := by decide +kernel
theorem dX10_laysWalls_99 : decode cX10_laysWalls 99 = .ok (.iastore, 1) := by decide +kernel
theorem dX10_laysWalls_100 : decode cX10_laysWalls 100 = .ok (.aload_n 0, 1) := by decide +kernel
theorem dX10_laysWalls_101 : decode cX10_laysWalls 101 = .ok (.getfield 50, 3) := by decide +kernel
theorem dX10_laysWalls_104 : decode cX10_laysWalls 104 = .ok (.iload_n 1, 1) := by decide +kernel
theorem dX10_laysWalls_105 : decode cX10_laysWalls 105 = .ok (.iconst 2, 1) := by decide +kernel
theorem dX10_laysWalls_106 : decode cX10_laysWalls 106 = .ok (.iload_n 3, 1) := by decide +kernel
theorem dX10_laysWalls_107 : decode cX10_laysWalls 107 = .ok (.imul, 1) := by decide +kernel
theorem dX10_laysWalls_108 : decode cX10_laysWalls 108 = .ok (.iastore, 1) := by decide +kernel
theorem dX10_laysWalls_109 : decode cX10_laysWalls 109 = .ok (.iload 4, 2) := by decide +kernel
theorem dX10_laysWalls_111 : decode cX10_laysWalls 111 = .ok (.istore 5, 2) := by decide +kernel
theorem dX10_laysWalls_113 : decode cX10_laysWalls 113 = .ok (.aload_n 0, 1) := by decide +kernel
theorem dX10_laysWalls_114 : decode cX10_laysWalls 114 = .ok (.iload_n 1, 1) := by decide +kernel
theorem dX10_laysWalls_115 : decode cX10_laysWalls 115 = .ok (.iconst 0, 1) := by decide +kernel
theorem dX10_laysWalls_116 : decode cX10_laysWalls 116 = .ok (.iload_n 3, 1) := by decide +kernel
theorem dX10_laysWalls_117 : decode cX10_laysWalls 117 = .ok (.iload 4, 2) := by decide +kernel
theorem dX10_laysWalls_119 : decode cX10_laysWalls 119 = .ok (.invokevirtual 220, 3) := by decide +kernel
theorem dX10_laysWalls_122 : decode cX10_laysWalls 122 = .ok (.aload_n 0, 1) := by decide +kernel
theorem dX10_laysWalls_123 : decode cX10_laysWalls 123 = .ok (.iload_n 1, 1) := by decide +kernel
theorem dX10_laysWalls_124 : decode cX10_laysWalls 124 = .ok (.iconst 1, 1) := by decide +kernel
theorem dX10_laysWalls_125 : decode cX10_laysWalls 125 = .ok (.iload_n 3, 1) := by decide +kernel
theorem dX10_laysWalls_126 : decode cX10_laysWalls 126 = .ok (.iload 5, 2) := by decide +kernel
theorem dX10_laysWalls_128 : decode cX10_laysWalls 128 = .ok (.invokevirtual 220, 3) := by decide +kernel
theorem dX10_laysWalls_131 : decode cX10_laysWalls 131 = .ok (.iinc 3 1, 3) := by decide +kernel
theorem dX10_laysWalls_134 : decode cX10_laysWalls 134 = .ok (.goto (-106), 3) := by decide +kernel
theorem dX10_laysWalls_137 : decode cX10_laysWalls 137 = .ok (.return_, 1) := by decide +kernel
theorem dX10_wallAt_0 : decode cX10_wallAt 0 = .ok (.iload_n 3, 1) := by decide +kernel
theorem dX10_wallAt_1 : decode cX10_wallAt 1 = .ok (.iconst 2, 1) := by decide +kernel
theorem dX10_wallAt_2 : decode cX10_wallAt 2 = .ok (.idiv, 1) := by decide +kernel
theorem dX10_wallAt_3 : decode cX10_wallAt 3 = .ok (.istore 4, 2) := by decide +kernel
theorem dX10_wallAt_5 : decode cX10_wallAt 5 = .ok (.iload 4, 2) := by decide +kernel
theorem dX10_wallAt_7 : decode cX10_wallAt 7 = .ok (.sipush 7199, 3) := by decide +kernel
theorem dX10_wallAt_10 : decode cX10_wallAt 10 = .ok (.if_icmp .lt 10, 3) := by decide +kernel
theorem dX10_wallAt_13 : decode cX10_wallAt 13 = .ok (.aload_n 0, 1) := by decide +kernel
theorem dX10_wallAt_14 : decode cX10_wallAt 14 = .ok (.getfield 47, 3) := by decide +kernel
theorem dX10_wallAt_17 : decode cX10_wallAt 17 = .ok (.iload_n 1, 1) := by decide +kernel
theorem dX10_wallAt_18 : decode cX10_wallAt 18 = .ok (.iaload, 1) := by decide +kernel
theorem dX10_wallAt_19 : decode cX10_wallAt 19 = .ok (.ireturn, 1) := by decide +kernel
theorem dX10_wallAt_20 : decode cX10_wallAt 20 = .ok (.iload_n 3, 1) := by decide +kernel
theorem dX10_wallAt_21 : decode cX10_wallAt 21 = .ok (.iconst 2, 1) := by decide +kernel
theorem dX10_wallAt_22 : decode cX10_wallAt 22 = .ok (.irem, 1) := by decide +kernel
theorem dX10_wallAt_23 : decode cX10_wallAt 23 = .ok (.ifCond .ne 14, 3) := by decide +kernel
theorem dX10_wallAt_26 : decode cX10_wallAt 26 = .ok (.aload_n 0, 1) := by decide +kernel
theorem dX10_wallAt_27 : decode cX10_wallAt 27 = .ok (.iload_n 1, 1) := by decide +kernel
theorem dX10_wallAt_28 : decode cX10_wallAt 28 = .ok (.iload_n 2, 1) := by decide +kernel
theorem dX10_wallAt_29 : decode cX10_wallAt 29 = .ok (.iload 4, 2) := by decide +kernel
theorem dX10_wallAt_31 : decode cX10_wallAt 31 = .ok (.invokevirtual 214, 3) := by decide +kernel
theorem dX10_wallAt_34 : decode cX10_wallAt 34 = .ok (.goto 24, 3) := by decide +kernel
theorem dX10_wallAt_37 : decode cX10_wallAt 37 = .ok (.aload_n 0, 1) := by decide +kernel
theorem dX10_wallAt_38 : decode cX10_wallAt 38 = .ok (.iload_n 1, 1) := by decide +kernel
theorem dX10_wallAt_39 : decode cX10_wallAt 39 = .ok (.iload_n 2, 1) := by decide +kernel
theorem dX10_wallAt_40 : decode cX10_wallAt 40 = .ok (.iload 4, 2) := by decide +kernel
theorem dX10_wallAt_42 : decode cX10_wallAt 42 = .ok (.invokevirtual 214, 3) := by decide +kernel
theorem dX10_wallAt_45 : decode cX10_wallAt 45 = .ok (.aload_n 0, 1) := by decide +kernel
theorem dX10_wallAt_46 : decode cX10_wallAt 46 = .ok (.iload_n 1, 1) := by decide +kernel
theorem dX10_wallAt_47 : decode cX10_wallAt 47 = .ok (.iload_n 2, 1) := by decide +kernel
theorem dX10_wallAt_48 : decode cX10_wallAt 48 = .ok (.iload 4, 2) := by decide +kernel
theorem dX10_wallAt_50 : decode cX10_wallAt 50 = .ok (.iconst 1, 1) := by decide +kernel
theorem dX10_wallAt_51 : decode cX10_wallAt 51 = .ok (.iadd, 1) := by decide +kernel
theorem dX10_wallAt_52 : decode cX10_wallAt 52 = .ok (.invokevirtual 214, 3) := by decide +kernel
theorem dX10_wallAt_55 : decode cX10_wallAt 55 = .ok (.iadd, 1) := by decide +kernel
theorem dX10_wallAt_56 : decode cX10_wallAt 56 = .ok (.iconst 2, 1) := by decide +kernel
theorem dX10_wallAt_57 : decode cX10_wallAt 57 = .ok (.idiv, 1) := by decide +kernel
theorem dX10_wallAt_58 : decode cX10_wallAt 58 = .ok (.ireturn, 1) := by decide +kernel
theorem dX10_saves_0 : decode cX10_saves 0 = .ok (.aload_n 0, 1) := by decide +kernel
theorem dX10_saves_1 : decode cX10_saves 1 = .ok (.getfield 224, 3) := by decide +kernel
theorem dX10_saves_4 : decode cX10_saves 4 = .ok (.bipush 6, 2) := by decide +kernel
theorem dX10_saves_6 : decode cX10_saves 6 = .ok (.if_icmp .ne 42, 3) := by decide +kernel
theorem dX10_saves_9 : decode cX10_saves 9 = .ok (.iconst 0, 1) := by decide +kernel
theorem dX10_saves_10 : decode cX10_saves 10 = .ok (.istore_n 2, 1) := by decide +kernel
theorem dX10_saves_11 : decode cX10_saves 11 = .ok (.iload_n 2, 1) := by decide +kernel
theorem dX10_saves_12 : decode cX10_saves 12 = .ok (.bipush 30, 2) := by decide +kernel
theorem dX10_saves_14 : decode cX10_saves 14 = .ok (.if_icmp .ge 24, 3) := by decide +kernel
theorem dX10_saves_17 : decode cX10_saves 17 = .ok (.aload_n 0, 1) := by decide +kernel
theorem dX10_saves_18 : decode cX10_saves 18 = .ok (.getfield 60, 3) := by decide +kernel
theorem dX10_saves_21 : decode cX10_saves 21 = .ok (.iload_n 2, 1) := by decide +kernel
theorem dX10_saves_22 : decode cX10_saves 22 = .ok (.aload_n 0, 1) := by decide +kernel
theorem dX10_saves_23 : decode cX10_saves 23 = .ok (.getfield 60, 3) := by decide +kernel
theorem dX10_saves_26 : decode cX10_saves 26 = .ok (.iload_n 2, 1) := by decide +kernel
theorem dX10_saves_27 : decode cX10_saves 27 = .ok (.bipush 6, 2) := by decide +kernel
theorem dX10_saves_29 : decode cX10_saves 29 = .ok (.iadd, 1) := by decide +kernel
theorem dX10_saves_30 : decode cX10_saves 30 = .ok (.iaload, 1) := by decide +kernel
theorem dX10_saves_31 : decode cX10_saves 31 = .ok (.iastore, 1) := by decide +kernel
theorem dX10_saves_32 : decode cX10_saves 32 = .ok (.iinc 2 1, 3) := by decide +kernel
theorem dX10_saves_35 : decode cX10_saves 35 = .ok (.goto (-24), 3) := by decide +kernel
theorem dX10_saves_38 : decode cX10_saves 38 = .ok (.aload_n 0, 1) := by decide +kernel
theorem dX10_saves_39 : decode cX10_saves 39 = .ok (.dup, 1) := by decide +kernel
theorem dX10_saves_40 : decode cX10_saves 40 = .ok (.getfield 224, 3) := by decide +kernel
theorem dX10_saves_43 : decode cX10_saves 43 = .ok (.iconst 1, 1) := by decide +kernel
theorem dX10_saves_44 : decode cX10_saves 44 = .ok (.isub, 1) := by decide +kernel
theorem dX10_saves_45 : decode cX10_saves 45 = .ok (.putfield 224, 3) := by decide +kernel
theorem dX10_saves_48 : decode cX10_saves 48 = .ok (.aload_n 0, 1) := by decide +kernel
theorem dX10_saves_49 : decode cX10_saves 49 = .ok (.getfield 60, 3) := by decide +kernel
theorem dX10_saves_52 : decode cX10_saves 52 = .ok (.bipush 6, 2) := by decide +kernel
theorem dX10_saves_54 : decode cX10_saves 54 = .ok (.aload_n 0, 1) := by decide +kernel
theorem dX10_saves_55 : decode cX10_saves 55 = .ok (.getfield 224, 3) := by decide +kernel
theorem dX10_saves_58 : decode cX10_saves 58 = .ok (.imul, 1) := by decide +kernel
theorem dX10_saves_59 : decode cX10_saves 59 = .ok (.iload_n 1, 1) := by decide +kernel
theorem dX10_saves_60 : decode cX10_saves 60 = .ok (.iastore, 1) := by decide +kernel
theorem dX10_saves_61 : decode cX10_saves 61 = .ok (.aload_n 0, 1) := by decide +kernel
theorem dX10_saves_62 : decode cX10_saves 62 = .ok (.getfield 60, 3) := by decide +kernel
theorem dX10_saves_65 : decode cX10_saves 65 = .ok (.bipush 6, 2) := by decide +kernel
theorem dX10_saves_67 : decode cX10_saves 67 = .ok (.aload_n 0, 1) := by decide +kernel
theorem dX10_saves_68 : decode cX10_saves 68 = .ok (.getfield 224, 3) := by decide +kernel
theorem dX10_saves_71 : decode cX10_saves 71 = .ok (.imul, 1) := by decide +kernel
theorem dX10_saves_72 : decode cX10_saves 72 = .ok (.iconst 1, 1) := by decide +kernel
theorem dX10_saves_73 : decode cX10_saves 73 = .ok (.iadd, 1) := by decide +kernel
theorem dX10_saves_74 : decode cX10_saves 74 = .ok (.aload_n 0, 1) := by decide +kernel
theorem dX10_saves_75 : decode cX10_saves 75 = .ok (.getfield 142, 3) := by decide +kernel
theorem dX10_saves_78 : decode cX10_saves 78 = .ok (.iastore, 1) := by decide +kernel
theorem dX10_saves_79 : decode cX10_saves 79 = .ok (.iconst 0, 1) := by decide +kernel
theorem dX10_saves_80 : decode cX10_saves 80 = .ok (.istore_n 2, 1) := by decide +kernel
theorem dX10_saves_81 : decode cX10_saves 81 = .ok (.iload_n 2, 1) := by decide +kernel
theorem dX10_saves_82 : decode cX10_saves 82 = .ok (.iconst 4, 1) := by decide +kernel
theorem dX10_saves_83 : decode cX10_saves 83 = .ok (.if_icmp .ge 31, 3) := by decide +kernel
theorem dX10_saves_86 : decode cX10_saves 86 = .ok (.aload_n 0, 1) := by decide +kernel
theorem dX10_saves_87 : decode cX10_saves 87 = .ok (.getfield 60, 3) := by decide +kernel
theorem dX10_saves_90 : decode cX10_saves 90 = .ok (.bipush 6, 2) := by decide +kernel
theorem dX10_saves_92 : decode cX10_saves 92 = .ok (.aload_n 0, 1) := by decide +kernel
theorem dX10_saves_93 : decode cX10_saves 93 = .ok (.getfield 224, 3) := by decide +kernel
theorem dX10_saves_96 : decode cX10_saves 96 = .ok (.imul, 1) := by decide +kernel
theorem dX10_saves_97 : decode cX10_saves 97 = .ok (.iconst 2, 1) := by decide +kernel
theorem dX10_saves_98 : decode cX10_saves 98 = .ok (.iadd, 1) := by decide +kernel
theorem dX10_saves_99 : decode cX10_saves 99 = .ok (.iload_n 2, 1) := by decide +kernel
theorem dX10_saves_100 : decode cX10_saves 100 = .ok (.iadd, 1) := by decide +kernel
theorem dX10_saves_101 : decode cX10_saves 101 = .ok (.aload_n 0, 1) := by decide +kernel
theorem dX10_saves_102 : decode cX10_saves 102 = .ok (.getfield 57, 3) := by decide +kernel
theorem dX10_saves_105 : decode cX10_saves 105 = .ok (.iload_n 2, 1) := by decide +kernel
theorem dX10_saves_106 : decode cX10_saves 106 = .ok (.iaload, 1) := by decide +kernel
theorem dX10_saves_107 : decode cX10_saves 107 = .ok (.iastore, 1) := by decide +kernel
theorem dX10_saves_108 : decode cX10_saves 108 = .ok (.iinc 2 1, 3) := by decide +kernel
theorem dX10_saves_111 : decode cX10_saves 111 = .ok (.goto (-30), 3) := by decide +kernel
theorem dX10_saves_114 : decode cX10_saves 114 = .ok (.aload_n 0, 1) := by decide +kernel
theorem dX10_saves_115 : decode cX10_saves 115 = .ok (.dup, 1) := by decide +kernel
theorem dX10_saves_116 : decode cX10_saves 116 = .ok (.getfield 224, 3) := by decide +kernel
theorem dX10_saves_119 : decode cX10_saves 119 = .ok (.iconst 1, 1) := by decide +kernel
theorem dX10_saves_120 : decode cX10_saves 120 = .ok (.iadd, 1) := by decide +kernel
theorem dX10_saves_121 : decode cX10_saves 121 = .ok (.putfield 224, 3) := by decide +kernel
theorem dX10_saves_124 : decode cX10_saves 124 = .ok (.return_, 1) := by decide +kernel
theorem dX10_undo_0 : decode cX10_undo 0 = .ok (.aload_n 0, 1) := by decide +kernel
theorem dX10_undo_1 : decode cX10_undo 1 = .ok (.aload_n 0, 1) := by decide +kernel
theorem dX10_undo_2 : decode cX10_undo 2 = .ok (.getfield 224, 3) := by decide +kernel
theorem dX10_undo_5 : decode cX10_undo 5 = .ok (.ifCond .ne 7, 3) := by decide +kernel
theorem dX10_undo_8 : decode cX10_undo 8 = .ok (.iconst 1, 1) := by decide +kernel
theorem dX10_undo_9 : decode cX10_undo 9 = .ok (.goto 4, 3) := by decide +kernel
theorem dX10_undo_12 : decode cX10_undo 12 = .ok (.iconst 0, 1) := by decide +kernel
theorem dX10_undo_13 : decode cX10_undo 13 = .ok (.invokevirtual 227, 3) := by decide +kernel
theorem dX10_undo_16 : decode cX10_undo 16 = .ok (.ifCond .eq 5, 3) := by decide +kernel
theorem dX10_undo_19 : decode cX10_undo 19 = .ok (.iconst 0, 1) := by decide +kernel
theorem dX10_undo_20 : decode cX10_undo 20 = .ok (.ireturn, 1) := by decide +kernel
theorem dX10_undo_21 : decode cX10_undo 21 = .ok (.aload_n 0, 1) := by decide +kernel
theorem dX10_undo_22 : decode cX10_undo 22 = .ok (.dup, 1) := by decide +kernel
theorem dX10_undo_23 : decode cX10_undo 23 = .ok (.getfield 224, 3) := by decide +kernel
theorem dX10_undo_26 : decode cX10_undo 26 = .ok (.iconst 1, 1) := by decide +kernel
theorem dX10_undo_27 : decode cX10_undo 27 = .ok (.isub, 1) := by decide +kernel
theorem dX10_undo_28 : decode cX10_undo 28 = .ok (.putfield 224, 3) := by decide +kernel
theorem dX10_undo_31 : decode cX10_undo 31 = .ok (.aload_n 0, 1) := by decide +kernel
theorem dX10_undo_32 : decode cX10_undo 32 = .ok (.aload_n 0, 1) := by decide +kernel
theorem dX10_undo_33 : decode cX10_undo 33 = .ok (.getfield 60, 3) := by decide +kernel
theorem dX10_undo_36 : decode cX10_undo 36 = .ok (.bipush 6, 2) := by decide +kernel
theorem dX10_undo_38 : decode cX10_undo 38 = .ok (.aload_n 0, 1) := by decide +kernel
theorem dX10_undo_39 : decode cX10_undo 39 = .ok (.getfield 224, 3) := by decide +kernel
theorem dX10_undo_42 : decode cX10_undo 42 = .ok (.imul, 1) := by decide +kernel
theorem dX10_undo_43 : decode cX10_undo 43 = .ok (.iaload, 1) := by decide +kernel
theorem dX10_undo_44 : decode cX10_undo 44 = .ok (.putfield 149, 3) := by decide +kernel
theorem dX10_undo_47 : decode cX10_undo 47 = .ok (.aload_n 0, 1) := by decide +kernel
theorem dX10_undo_48 : decode cX10_undo 48 = .ok (.aload_n 0, 1) := by decide +kernel
theorem dX10_undo_49 : decode cX10_undo 49 = .ok (.getfield 60, 3) := by decide +kernel
theorem dX10_undo_52 : decode cX10_undo 52 = .ok (.bipush 6, 2) := by decide +kernel
theorem dX10_undo_54 : decode cX10_undo 54 = .ok (.aload_n 0, 1) := by decide +kernel
theorem dX10_undo_55 : decode cX10_undo 55 = .ok (.getfield 224, 3) := by decide +kernel
theorem dX10_undo_58 : decode cX10_undo 58 = .ok (.imul, 1) := by decide +kernel
theorem dX10_undo_59 : decode cX10_undo 59 = .ok (.iconst 1, 1) := by decide +kernel
theorem dX10_undo_60 : decode cX10_undo 60 = .ok (.iadd, 1) := by decide +kernel
theorem dX10_undo_61 : decode cX10_undo 61 = .ok (.iaload, 1) := by decide +kernel
theorem dX10_undo_62 : decode cX10_undo 62 = .ok (.putfield 142, 3) := by decide +kernel
theorem dX10_undo_65 : decode cX10_undo 65 = .ok (.iconst 0, 1) := by decide +kernel
theorem dX10_undo_66 : decode cX10_undo 66 = .ok (.istore_n 1, 1) := by decide +kernel
theorem dX10_undo_67 : decode cX10_undo 67 = .ok (.iload_n 1, 1) := by decide +kernel
theorem dX10_undo_68 : decode cX10_undo 68 = .ok (.iconst 4, 1) := by decide +kernel
theorem dX10_undo_69 : decode cX10_undo 69 = .ok (.if_icmp .ge 31, 3) := by decide +kernel
theorem dX10_undo_72 : decode cX10_undo 72 = .ok (.aload_n 0, 1) := by decide +kernel
theorem dX10_undo_73 : decode cX10_undo 73 = .ok (.getfield 57, 3) := by decide +kernel
theorem dX10_undo_76 : decode cX10_undo 76 = .ok (.iload_n 1, 1) := by decide +kernel
theorem dX10_undo_77 : decode cX10_undo 77 = .ok (.aload_n 0, 1) := by decide +kernel
theorem dX10_undo_78 : decode cX10_undo 78 = .ok (.getfield 60, 3) := by decide +kernel
theorem dX10_undo_81 : decode cX10_undo 81 = .ok (.bipush 6, 2) := by decide +kernel
theorem dX10_undo_83 : decode cX10_undo 83 = .ok (.aload_n 0, 1) := by decide +kernel
theorem dX10_undo_84 : decode cX10_undo 84 = .ok (.getfield 224, 3) := by decide +kernel
theorem dX10_undo_87 : decode cX10_undo 87 = .ok (.imul, 1) := by decide +kernel
theorem dX10_undo_88 : decode cX10_undo 88 = .ok (.iconst 2, 1) := by decide +kernel
theorem dX10_undo_89 : decode cX10_undo 89 = .ok (.iadd, 1) := by decide +kernel
theorem dX10_undo_90 : decode cX10_undo 90 = .ok (.iload_n 1, 1) := by decide +kernel
theorem dX10_undo_91 : decode cX10_undo 91 = .ok (.iadd, 1) := by decide +kernel
theorem dX10_undo_92 : decode cX10_undo 92 = .ok (.iaload, 1) := by decide +kernel
theorem dX10_undo_93 : decode cX10_undo 93 = .ok (.iastore, 1) := by decide +kernel
theorem dX10_undo_94 : decode cX10_undo 94 = .ok (.iinc 1 1, 3) := by decide +kernel
theorem dX10_undo_97 : decode cX10_undo 97 = .ok (.goto (-30), 3) := by decide +kernel
theorem dX10_undo_100 : decode cX10_undo 100 = .ok (.iconst 0, 1) := by decide +kernel
theorem dX10_undo_101 : decode cX10_undo 101 = .ok (.istore_n 1, 1) := by decide +kernel
theorem dX10_undo_102 : decode cX10_undo 102 = .ok (.iload_n 1, 1) := by decide +kernel
theorem dX10_undo_103 : decode cX10_undo 103 = .ok (.iconst 2, 1) := by decide +kernel
theorem dX10_undo_104 : decode cX10_undo 104 = .ok (.if_icmp .ge 76, 3) := by decide +kernel
theorem dX10_undo_107 : decode cX10_undo 107 = .ok (.iconst 0, 1) := by decide +kernel
theorem dX10_undo_108 : decode cX10_undo 108 = .ok (.istore_n 2, 1) := by decide +kernel
theorem dX10_undo_109 : decode cX10_undo 109 = .ok (.iconst 0, 1) := by decide +kernel
theorem dX10_undo_110 : decode cX10_undo 110 = .ok (.istore_n 3, 1) := by decide +kernel
theorem dX10_undo_111 : decode cX10_undo 111 = .ok (.iload_n 3, 1) := by decide +kernel
theorem dX10_undo_112 : decode cX10_undo 112 = .ok (.aload_n 0, 1) := by decide +kernel
theorem dX10_undo_113 : decode cX10_undo 113 = .ok (.getfield 63, 3) := by decide +kernel
theorem dX10_undo_116 : decode cX10_undo 116 = .ok (.iload_n 1, 1) := by decide +kernel
theorem dX10_undo_117 : decode cX10_undo 117 = .ok (.iaload, 1) := by decide +kernel
theorem dX10_undo_118 : decode cX10_undo 118 = .ok (.if_icmp .ge 49, 3) := by decide +kernel
theorem dX10_undo_121 : decode cX10_undo 121 = .ok (.aload_n 0, 1) := by decide +kernel
theorem dX10_undo_122 : decode cX10_undo 122 = .ok (.getfield 66, 3) := by decide +kernel
theorem dX10_undo_125 : decode cX10_undo 125 = .ok (.iconst 4, 1) := by decide +kernel
theorem dX10_undo_126 : decode cX10_undo 126 = .ok (.iload_n 1, 1) := by decide +kernel
theorem dX10_undo_127 : decode cX10_undo 127 = .ok (.imul, 1) := by decide +kernel
theorem dX10_undo_128 : decode cX10_undo 128 = .ok (.iload_n 3, 1) := by decide +kernel
theorem dX10_undo_129 : decode cX10_undo 129 = .ok (.iadd, 1) := by decide +kernel
theorem dX10_undo_130 : decode cX10_undo 130 = .ok (.iaload, 1) := by decide +kernel
theorem dX10_undo_131 : decode cX10_undo 131 = .ok (.aload_n 0, 1) := by decide +kernel
theorem dX10_undo_132 : decode cX10_undo 132 = .ok (.getfield 149, 3) := by decide +kernel
theorem dX10_undo_135 : decode cX10_undo 135 = .ok (.if_icmp .ge 26, 3) := by decide +kernel
theorem dX10_undo_138 : decode cX10_undo 138 = .ok (.aload_n 0, 1) := by decide +kernel
theorem dX10_undo_139 : decode cX10_undo 139 = .ok (.getfield 66, 3) := by decide +kernel
theorem dX10_undo_142 : decode cX10_undo 142 = .ok (.iconst 4, 1) := by decide +kernel
theorem dX10_undo_143 : decode cX10_undo 143 = .ok (.iload_n 1, 1) := by decide +kernel
theorem dX10_undo_144 : decode cX10_undo 144 = .ok (.imul, 1) := by decide +kernel
theorem dX10_undo_145 : decode cX10_undo 145 = .ok (.iload_n 2, 1) := by decide +kernel
theorem dX10_undo_146 : decode cX10_undo 146 = .ok (.iadd, 1) := by decide +kernel
theorem dX10_undo_147 : decode cX10_undo 147 = .ok (.aload_n 0, 1) := by decide +kernel
theorem dX10_undo_148 : decode cX10_undo 148 = .ok (.getfield 66, 3) := by decide +kernel
theorem dX10_undo_151 : decode cX10_undo 151 = .ok (.iconst 4, 1) := by decide +kernel
theorem dX10_undo_152 : decode cX10_undo 152 = .ok (.iload_n 1, 1) := by decide +kernel
theorem dX10_undo_153 : decode cX10_undo 153 = .ok (.imul, 1) := by decide +kernel
theorem dX10_undo_154 : decode cX10_undo 154 = .ok (.iload_n 3, 1) := by decide +kernel
theorem dX10_undo_155 : decode cX10_undo 155 = .ok (.iadd, 1) := by decide +kernel
theorem dX10_undo_156 : decode cX10_undo 156 = .ok (.iaload, 1) := by decide +kernel
theorem dX10_undo_157 : decode cX10_undo 157 = .ok (.iastore, 1) := by decide +kernel
theorem dX10_undo_158 : decode cX10_undo 158 = .ok (.iinc 2 1, 3) := by decide +kernel
theorem dX10_undo_161 : decode cX10_undo 161 = .ok (.iinc 3 1, 3) := by decide +kernel
theorem dX10_undo_164 : decode cX10_undo 164 = .ok (.goto (-53), 3) := by decide +kernel
theorem dX10_undo_167 : decode cX10_undo 167 = .ok (.aload_n 0, 1) := by decide +kernel
theorem dX10_undo_168 : decode cX10_undo 168 = .ok (.getfield 63, 3) := by decide +kernel
theorem dX10_undo_171 : decode cX10_undo 171 = .ok (.iload_n 1, 1) := by decide +kernel
theorem dX10_undo_172 : decode cX10_undo 172 = .ok (.iload_n 2, 1) := by decide +kernel
theorem dX10_undo_173 : decode cX10_undo 173 = .ok (.iastore, 1) := by decide +kernel
theorem dX10_undo_174 : decode cX10_undo 174 = .ok (.iinc 1 1, 3) := by decide +kernel
theorem dX10_undo_177 : decode cX10_undo 177 = .ok (.goto (-75), 3) := by decide +kernel
theorem dX10_undo_180 : decode cX10_undo 180 = .ok (.aload_n 0, 1) := by decide +kernel
theorem dX10_undo_181 : decode cX10_undo 181 = .ok (.getfield 224, 3) := by decide +kernel
theorem dX10_undo_184 : decode cX10_undo 184 = .ok (.ireturn, 1) := by decide +kernel
theorem dX10_games_0 : decode cX10_games 0 = .ok (.aload_n 0, 1) := by decide +kernel
theorem dX10_games_1 : decode cX10_games 1 = .ok (.iconst 0, 1) := by decide +kernel
theorem dX10_games_2 : decode cX10_games 2 = .ok (.putfield 146, 3) := by decide +kernel
theorem dX10_games_5 : decode cX10_games 5 = .ok (.aload_n 0, 1) := by decide +kernel
theorem dX10_games_6 : decode cX10_games 6 = .ok (.getfield 149, 3) := by decide +kernel
theorem dX10_games_9 : decode cX10_games 9 = .ok (.ireturn, 1) := by decide +kernel
theorem dX10_ends_0 : decode cX10_ends 0 = .ok (.aload_n 0, 1) := by decide +kernel
theorem dX10_ends_1 : decode cX10_ends 1 = .ok (.iload_n 2, 1) := by decide +kernel
theorem dX10_ends_2 : decode cX10_ends 2 = .ok (.iconst (-1), 1) := by decide +kernel
theorem dX10_ends_3 : decode cX10_ends 3 = .ok (.if_icmp .ne 7, 3) := by decide +kernel
theorem dX10_ends_6 : decode cX10_ends 6 = .ok (.iload_n 3, 1) := by decide +kernel
theorem dX10_ends_7 : decode cX10_ends 7 = .ok (.goto 4, 3) := by decide +kernel
theorem dX10_ends_10 : decode cX10_ends 10 = .ok (.iconst 0, 1) := by decide +kernel
theorem dX10_ends_11 : decode cX10_ends 11 = .ok (.invokevirtual 227, 3) := by decide +kernel
theorem dX10_ends_14 : decode cX10_ends 14 = .ok (.ifCond .eq 10, 3) := by decide +kernel
theorem dX10_ends_17 : decode cX10_ends 17 = .ok (.aload_n 0, 1) := by decide +kernel
theorem dX10_ends_18 : decode cX10_ends 18 = .ok (.iload_n 1, 1) := by decide +kernel
theorem dX10_ends_19 : decode cX10_ends 19 = .ok (.putfield 149, 3) := by decide +kernel
theorem dX10_ends_22 : decode cX10_ends 22 = .ok (.iconst 0, 1) := by decide +kernel
theorem dX10_ends_23 : decode cX10_ends 23 = .ok (.ireturn, 1) := by decide +kernel
theorem dX10_ends_24 : decode cX10_ends 24 = .ok (.aload_n 0, 1) := by decide +kernel
theorem dX10_ends_25 : decode cX10_ends 25 = .ok (.iload_n 1, 1) := by decide +kernel
theorem dX10_ends_26 : decode cX10_ends 26 = .ok (.invokevirtual 230, 3) := by decide +kernel
theorem dX10_ends_29 : decode cX10_ends 29 = .ok (.iload_n 2, 1) := by decide +kernel
theorem dX10_ends_30 : decode cX10_ends 30 = .ok (.ireturn, 1) := by decide +kernel
theorem dX10_number_0 : decode cX10_number 0 = .ok (.aload_n 0, 1) := by decide +kernel
theorem dX10_number_1 : decode cX10_number 1 = .ok (.iload_n 1, 1) := by decide +kernel
theorem dX10_number_2 : decode cX10_number 2 = .ok (.bipush (-64), 2) := by decide +kernel
theorem dX10_number_4 : decode cX10_number 4 = .ok (.bipush 64, 2) := by decide +kernel
theorem dX10_number_6 : decode cX10_number 6 = .ok (.invokestatic 152, 3) := by decide +kernel
theorem dX10_number_9 : decode cX10_number 9 = .ok (.ifCond .eq 7, 3) := by decide +kernel
theorem dX10_number_12 : decode cX10_number 12 = .ok (.iconst 0, 1) := by decide +kernel
theorem dX10_number_13 : decode cX10_number 13 = .ok (.goto 4, 3) := by decide +kernel
theorem dX10_number_16 : decode cX10_number 16 = .ok (.iconst 1, 1) := by decide +kernel
theorem dX10_number_17 : decode cX10_number 17 = .ok (.invokevirtual 227, 3) := by decide +kernel
theorem dX10_number_20 : decode cX10_number 20 = .ok (.ifCond .eq 5, 3) := by decide +kernel
theorem dX10_number_23 : decode cX10_number 23 = .ok (.iconst 0, 1) := by decide +kernel
theorem dX10_number_24 : decode cX10_number 24 = .ok (.ireturn, 1) := by decide +kernel
theorem dX10_number_25 : decode cX10_number 25 = .ok (.aload_n 0, 1) := by decide +kernel
theorem dX10_number_26 : decode cX10_number 26 = .ok (.getfield 149, 3) := by decide +kernel
theorem dX10_number_29 : decode cX10_number 29 = .ok (.istore_n 2, 1) := by decide +kernel
theorem dX10_number_30 : decode cX10_number 30 = .ok (.aload_n 0, 1) := by decide +kernel
theorem dX10_number_31 : decode cX10_number 31 = .ok (.iload_n 2, 1) := by decide +kernel
theorem dX10_number_32 : decode cX10_number 32 = .ok (.aload_n 0, 1) := by decide +kernel
theorem dX10_number_33 : decode cX10_number 33 = .ok (.iload_n 1, 1) := by decide +kernel
theorem dX10_number_34 : decode cX10_number 34 = .ok (.invokevirtual 123, 3) := by decide +kernel
theorem dX10_number_37 : decode cX10_number 37 = .ok (.iconst 2, 1) := by decide +kernel
theorem dX10_number_38 : decode cX10_number 38 = .ok (.invokevirtual 233, 3) := by decide +kernel
theorem dX10_number_41 : decode cX10_number 41 = .ok (.ireturn, 1) := by decide +kernel
theorem dX10_draft_0 : decode cX10_draft 0 = .ok (.iload_n 1, 1) := by decide +kernel
theorem dX10_draft_1 : decode cX10_draft 1 = .ok (.iconst 0, 1) := by decide +kernel
theorem dX10_draft_2 : decode cX10_draft 2 = .ok (.iconst 1, 1) := by decide +kernel
theorem dX10_draft_3 : decode cX10_draft 3 = .ok (.invokestatic 152, 3) := by decide +kernel
theorem dX10_draft_6 : decode cX10_draft 6 = .ok (.istore_n 3, 1) := by decide +kernel
theorem dX10_draft_7 : decode cX10_draft 7 = .ok (.iconst 0, 1) := by decide +kernel
theorem dX10_draft_8 : decode cX10_draft 8 = .ok (.istore 4, 2) := by decide +kernel
theorem dX10_draft_10 : decode cX10_draft 10 = .ok (.iconst 0, 1) := by decide +kernel
theorem dX10_draft_11 : decode cX10_draft 11 = .ok (.istore 5, 2) := by decide +kernel
theorem dX10_draft_13 : decode cX10_draft 13 = .ok (.iload_n 3, 1) := by decide +kernel
theorem dX10_draft_14 : decode cX10_draft 14 = .ok (.ifCond .eq 47, 3) := by decide +kernel
theorem dX10_draft_17 : decode cX10_draft 17 = .ok (.iload 5, 2) := by decide +kernel
theorem dX10_draft_19 : decode cX10_draft 19 = .ok (.aload_n 0, 1) := by decide +kernel
theorem dX10_draft_20 : decode cX10_draft 20 = .ok (.getfield 63, 3) := by decide +kernel
theorem dX10_draft_23 : decode cX10_draft 23 = .ok (.iload_n 1, 1) := by decide +kernel
theorem dX10_draft_24 : decode cX10_draft 24 = .ok (.iaload, 1) := by decide +kernel
theorem dX10_draft_25 : decode cX10_draft 25 = .ok (.if_icmp .ge 36, 3) := by decide +kernel
theorem dX10_draft_28 : decode cX10_draft 28 = .ok (.iload 4, 2) := by decide +kernel
theorem dX10_draft_30 : decode cX10_draft 30 = .ok (.ifCond .ne 18, 3) := by decide +kernel
theorem dX10_draft_33 : decode cX10_draft 33 = .ok (.aload_n 0, 1) := by decide +kernel
theorem dX10_draft_34 : decode cX10_draft 34 = .ok (.getfield 66, 3) := by decide +kernel
theorem dX10_draft_37 : decode cX10_draft 37 = .ok (.iconst 4, 1) := by decide +kernel
theorem dX10_draft_38 : decode cX10_draft 38 = .ok (.iload_n 1, 1) := by decide +kernel
theorem dX10_draft_39 : decode cX10_draft 39 = .ok (.imul, 1) := by decide +kernel
theorem dX10_draft_40 : decode cX10_draft 40 = .ok (.iload 5, 2) := by decide +kernel
theorem dX10_draft_42 : decode cX10_draft 42 = .ok (.iadd, 1) := by decide +kernel
theorem dX10_draft_43 : decode cX10_draft 43 = .ok (.iaload, 1) := by decide +kernel
theorem dX10_draft_44 : decode cX10_draft 44 = .ok (.iload_n 2, 1) := by decide +kernel
theorem dX10_draft_45 : decode cX10_draft 45 = .ok (.if_icmp .ne 7, 3) := by decide +kernel
theorem dX10_draft_48 : decode cX10_draft 48 = .ok (.iconst 1, 1) := by decide +kernel
theorem dX10_draft_49 : decode cX10_draft 49 = .ok (.goto 4, 3) := by decide +kernel
theorem dX10_draft_52 : decode cX10_draft 52 = .ok (.iconst 0, 1) := by decide +kernel
theorem dX10_draft_53 : decode cX10_draft 53 = .ok (.istore 4, 2) := by decide +kernel
theorem dX10_draft_55 : decode cX10_draft 55 = .ok (.iinc 5 1, 3) := by decide +kernel
theorem dX10_draft_58 : decode cX10_draft 58 = .ok (.goto (-45), 3) := by decide +kernel
theorem dX10_draft_61 : decode cX10_draft 61 = .ok (.aload_n 0, 1) := by decide +kernel
theorem dX10_draft_62 : decode cX10_draft 62 = .ok (.aload_n 0, 1) := by decide +kernel
theorem dX10_draft_63 : decode cX10_draft 63 = .ok (.iload_n 2, 1) := by decide +kernel
theorem dX10_draft_64 : decode cX10_draft 64 = .ok (.invokevirtual 236, 3) := by decide +kernel
theorem dX10_draft_67 : decode cX10_draft 67 = .ok (.ifCond .ne 7, 3) := by decide +kernel
theorem dX10_draft_70 : decode cX10_draft 70 = .ok (.iconst 1, 1) := by decide +kernel
theorem dX10_draft_71 : decode cX10_draft 71 = .ok (.goto 31, 3) := by decide +kernel
theorem dX10_draft_74 : decode cX10_draft 74 = .ok (.iload_n 3, 1) := by decide +kernel
theorem dX10_draft_75 : decode cX10_draft 75 = .ok (.ifCond .ne 7, 3) := by decide +kernel
theorem dX10_draft_78 : decode cX10_draft 78 = .ok (.iconst 2, 1) := by decide +kernel
theorem dX10_draft_79 : decode cX10_draft 79 = .ok (.goto 23, 3) := by decide +kernel
theorem dX10_draft_82 : decode cX10_draft 82 = .ok (.aload_n 0, 1) := by decide +kernel
theorem dX10_draft_83 : decode cX10_draft 83 = .ok (.getfield 63, 3) := by decide +kernel
theorem dX10_draft_86 : decode cX10_draft 86 = .ok (.iload_n 1, 1) := by decide +kernel
theorem dX10_draft_87 : decode cX10_draft 87 = .ok (.iaload, 1) := by decide +kernel
theorem dX10_draft_88 : decode cX10_draft 88 = .ok (.iconst 4, 1) := by decide +kernel
theorem dX10_draft_89 : decode cX10_draft 89 = .ok (.if_icmp .ne 12, 3) := by decide +kernel
theorem dX10_draft_92 : decode cX10_draft 92 = .ok (.iload 4, 2) := by decide +kernel
theorem dX10_draft_94 : decode cX10_draft 94 = .ok (.ifCond .ne 7, 3) := by decide +kernel
theorem dX10_draft_97 : decode cX10_draft 97 = .ok (.iconst 3, 1) := by decide +kernel
theorem dX10_draft_98 : decode cX10_draft 98 = .ok (.goto 4, 3) := by decide +kernel
theorem dX10_draft_101 : decode cX10_draft 101 = .ok (.iconst 0, 1) := by decide +kernel
theorem dX10_draft_102 : decode cX10_draft 102 = .ok (.invokevirtual 227, 3) := by decide +kernel
theorem dX10_draft_105 : decode cX10_draft 105 = .ok (.ifCond .eq 5, 3) := by decide +kernel
theorem dX10_draft_108 : decode cX10_draft 108 = .ok (.iconst 0, 1) := by decide +kernel
theorem dX10_draft_109 : decode cX10_draft 109 = .ok (.ireturn, 1) := by decide +kernel
theorem dX10_draft_110 : decode cX10_draft 110 = .ok (.iload 4, 2) := by decide +kernel
theorem dX10_draft_112 : decode cX10_draft 112 = .ok (.ifCond .ne 29, 3) := by decide +kernel
theorem dX10_draft_115 : decode cX10_draft 115 = .ok (.aload_n 0, 1) := by decide +kernel
theorem dX10_draft_116 : decode cX10_draft 116 = .ok (.getfield 66, 3) := by decide +kernel
theorem dX10_draft_119 : decode cX10_draft 119 = .ok (.iconst 4, 1) := by decide +kernel
theorem dX10_draft_120 : decode cX10_draft 120 = .ok (.iload_n 1, 1) := by decide +kernel
theorem dX10_draft_121 : decode cX10_draft 121 = .ok (.imul, 1) := by decide +kernel
theorem dX10_draft_122 : decode cX10_draft 122 = .ok (.aload_n 0, 1) := by decide +kernel
theorem dX10_draft_123 : decode cX10_draft 123 = .ok (.getfield 63, 3) := by decide +kernel
theorem dX10_draft_126 : decode cX10_draft 126 = .ok (.iload_n 1, 1) := by decide +kernel
theorem dX10_draft_127 : decode cX10_draft 127 = .ok (.iaload, 1) := by decide +kernel
theorem dX10_draft_128 : decode cX10_draft 128 = .ok (.iadd, 1) := by decide +kernel
theorem dX10_draft_129 : decode cX10_draft 129 = .ok (.iload_n 2, 1) := by decide +kernel
theorem dX10_draft_130 : decode cX10_draft 130 = .ok (.iastore, 1) := by decide +kernel
theorem dX10_draft_131 : decode cX10_draft 131 = .ok (.aload_n 0, 1) := by decide +kernel
theorem dX10_draft_132 : decode cX10_draft 132 = .ok (.getfield 63, 3) := by decide +kernel
theorem dX10_draft_135 : decode cX10_draft 135 = .ok (.iload_n 1, 1) := by decide +kernel
theorem dX10_draft_136 : decode cX10_draft 136 = .ok (.dup2, 1) := by decide +kernel
theorem dX10_draft_137 : decode cX10_draft 137 = .ok (.iaload, 1) := by decide +kernel
theorem dX10_draft_138 : decode cX10_draft 138 = .ok (.iconst 1, 1) := by decide +kernel
theorem dX10_draft_139 : decode cX10_draft 139 = .ok (.iadd, 1) := by decide +kernel
theorem dX10_draft_140 : decode cX10_draft 140 = .ok (.iastore, 1) := by decide +kernel
theorem dX10_draft_141 : decode cX10_draft 141 = .ok (.aload_n 0, 1) := by decide +kernel
theorem dX10_draft_142 : decode cX10_draft 142 = .ok (.getfield 63, 3) := by decide +kernel
theorem dX10_draft_145 : decode cX10_draft 145 = .ok (.iload_n 1, 1) := by decide +kernel
theorem dX10_draft_146 : decode cX10_draft 146 = .ok (.iaload, 1) := by decide +kernel
theorem dX10_draft_147 : decode cX10_draft 147 = .ok (.ireturn, 1) := by decide +kernel
theorem dX10_clearDraft_0 : decode cX10_clearDraft 0 = .ok (.aload_n 0, 1) := by decide +kernel
theorem dX10_clearDraft_1 : decode cX10_clearDraft 1 = .ok (.iconst 0, 1) := by decide +kernel
theorem dX10_clearDraft_2 : decode cX10_clearDraft 2 = .ok (.putfield 146, 3) := by decide +kernel
theorem dX10_clearDraft_5 : decode cX10_clearDraft 5 = .ok (.aload_n 0, 1) := by decide +kernel
theorem dX10_clearDraft_6 : decode cX10_clearDraft 6 = .ok (.getfield 63, 3) := by decide +kernel
theorem dX10_clearDraft_9 : decode cX10_clearDraft 9 = .ok (.iconst 0, 1) := by decide +kernel
theorem dX10_clearDraft_10 : decode cX10_clearDraft 10 = .ok (.iaload, 1) := by decide +kernel
theorem dX10_clearDraft_11 : decode cX10_clearDraft 11 = .ok (.aload_n 0, 1) := by decide +kernel
theorem dX10_clearDraft_12 : decode cX10_clearDraft 12 = .ok (.getfield 63, 3) := by decide +kernel
theorem dX10_clearDraft_15 : decode cX10_clearDraft 15 = .ok (.iconst 1, 1) := by decide +kernel
theorem dX10_clearDraft_16 : decode cX10_clearDraft 16 = .ok (.iaload, 1) := by decide +kernel
theorem dX10_clearDraft_17 : decode cX10_clearDraft 17 = .ok (.iadd, 1) := by decide +kernel
theorem dX10_clearDraft_18 : decode cX10_clearDraft 18 = .ok (.istore_n 1, 1) := by decide +kernel
theorem dX10_clearDraft_19 : decode cX10_clearDraft 19 = .ok (.aload_n 0, 1) := by decide +kernel
theorem dX10_clearDraft_20 : decode cX10_clearDraft 20 = .ok (.getfield 63, 3) := by decide +kernel
theorem dX10_clearDraft_23 : decode cX10_clearDraft 23 = .ok (.iconst 0, 1) := by decide +kernel
theorem dX10_clearDraft_24 : decode cX10_clearDraft 24 = .ok (.iconst 0, 1) := by decide +kernel
theorem dX10_clearDraft_25 : decode cX10_clearDraft 25 = .ok (.iastore, 1) := by decide +kernel
theorem dX10_clearDraft_26 : decode cX10_clearDraft 26 = .ok (.aload_n 0, 1) := by decide +kernel
theorem dX10_clearDraft_27 : decode cX10_clearDraft 27 = .ok (.getfield 63, 3) := by decide +kernel
theorem dX10_clearDraft_30 : decode cX10_clearDraft 30 = .ok (.iconst 1, 1) := by decide +kernel
theorem dX10_clearDraft_31 : decode cX10_clearDraft 31 = .ok (.iconst 0, 1) := by decide +kernel
theorem dX10_clearDraft_32 : decode cX10_clearDraft 32 = .ok (.iastore, 1) := by decide +kernel
theorem dX10_clearDraft_33 : decode cX10_clearDraft 33 = .ok (.iload_n 1, 1) := by decide +kernel
theorem dX10_clearDraft_34 : decode cX10_clearDraft 34 = .ok (.ireturn, 1) := by decide +kernel
theorem dX10_make_0 : decode cX10_make 0 = .ok (.aload_n 0, 1) := by decide +kernel
theorem dX10_make_1 : decode cX10_make 1 = .ok (.invokevirtual 131, 3) := by decide +kernel
theorem dX10_make_4 : decode cX10_make 4 = .ok (.iconst 0, 1) := by decide +kernel
theorem dX10_make_5 : decode cX10_make 5 = .ok (.istore_n 1, 1) := by decide +kernel
theorem dX10_make_6 : decode cX10_make 6 = .ok (.iload_n 1, 1) := by decide +kernel
theorem dX10_make_7 : decode cX10_make 7 = .ok (.iconst 2, 1) := by decide +kernel
theorem dX10_make_8 : decode cX10_make 8 = .ok (.if_icmp .ge 42, 3) := by decide +kernel
theorem dX10_make_11 : decode cX10_make 11 = .ok (.iconst 0, 1) := by decide +kernel
theorem dX10_make_12 : decode cX10_make 12 = .ok (.istore_n 2, 1) := by decide +kernel
theorem dX10_make_13 : decode cX10_make 13 = .ok (.iload_n 2, 1) := by decide +kernel
theorem dX10_make_14 : decode cX10_make 14 = .ok (.aload_n 0, 1) := by decide +kernel
theorem dX10_make_15 : decode cX10_make 15 = .ok (.getfield 63, 3) := by decide +kernel
theorem dX10_make_18 : decode cX10_make 18 = .ok (.iload_n 1, 1) := by decide +kernel
theorem dX10_make_19 : decode cX10_make 19 = .ok (.iaload, 1) := by decide +kernel
theorem dX10_make_20 : decode cX10_make 20 = .ok (.if_icmp .ge 24, 3) := by decide +kernel
theorem dX10_make_23 : decode cX10_make 23 = .ok (.aload_n 0, 1) := by decide +kernel
theorem dX10_make_24 : decode cX10_make 24 = .ok (.iload_n 1, 1) := by decide +kernel
theorem dX10_make_25 : decode cX10_make 25 = .ok (.aload_n 0, 1) := by decide +kernel
theorem dX10_make_26 : decode cX10_make 26 = .ok (.getfield 66, 3) := by decide +kernel
theorem dX10_make_29 : decode cX10_make 29 = .ok (.iconst 4, 1) := by decide +kernel
theorem dX10_make_30 : decode cX10_make 30 = .ok (.iload_n 1, 1) := by decide +kernel
theorem dX10_make_31 : decode cX10_make 31 = .ok (.imul, 1) := by decide +kernel
theorem dX10_make_32 : decode cX10_make 32 = .ok (.iload_n 2, 1) := by decide +kernel
theorem dX10_make_33 : decode cX10_make 33 = .ok (.iadd, 1) := by decide +kernel
theorem dX10_make_34 : decode cX10_make 34 = .ok (.iaload, 1) := by decide +kernel
theorem dX10_make_35 : decode cX10_make 35 = .ok (.invokevirtual 134, 3) := by decide +kernel
theorem dX10_make_38 : decode cX10_make 38 = .ok (.iinc 2 1, 3) := by decide +kernel
theorem dX10_make_41 : decode cX10_make 41 = .ok (.goto (-28), 3) := by decide +kernel
theorem dX10_make_44 : decode cX10_make 44 = .ok (.iinc 1 1, 3) := by decide +kernel
theorem dX10_make_47 : decode cX10_make 47 = .ok (.goto (-41), 3) := by decide +kernel
theorem dX10_make_50 : decode cX10_make 50 = .ok (.aload_n 0, 1) := by decide +kernel
theorem dX10_make_51 : decode cX10_make 51 = .ok (.getfield 149, 3) := by decide +kernel
theorem dX10_make_54 : decode cX10_make 54 = .ok (.istore_n 1, 1) := by decide +kernel
theorem dX10_make_55 : decode cX10_make 55 = .ok (.aload_n 0, 1) := by decide +kernel
theorem dX10_make_56 : decode cX10_make 56 = .ok (.iload_n 1, 1) := by decide +kernel
theorem dX10_make_57 : decode cX10_make 57 = .ok (.aload_n 0, 1) := by decide +kernel
theorem dX10_make_58 : decode cX10_make 58 = .ok (.invokevirtual 138, 3) := by decide +kernel
theorem dX10_make_61 : decode cX10_make 61 = .ok (.iconst 1, 1) := by decide +kernel
theorem dX10_make_62 : decode cX10_make 62 = .ok (.invokevirtual 233, 3) := by decide +kernel
theorem dX10_make_65 : decode cX10_make 65 = .ok (.istore_n 2, 1) := by decide +kernel
theorem dX10_make_66 : decode cX10_make 66 = .ok (.aload_n 0, 1) := by decide +kernel
theorem dX10_make_67 : decode cX10_make 67 = .ok (.getfield 146, 3) := by decide +kernel
theorem dX10_make_70 : decode cX10_make 70 = .ok (.ifCond .ne 17, 3) := by decide +kernel
theorem dX10_make_73 : decode cX10_make 73 = .ok (.aload_n 0, 1) := by decide +kernel
theorem dX10_make_74 : decode cX10_make 74 = .ok (.getfield 63, 3) := by decide +kernel
theorem dX10_make_77 : decode cX10_make 77 = .ok (.iconst 0, 1) := by decide +kernel
theorem dX10_make_78 : decode cX10_make 78 = .ok (.iconst 0, 1) := by decide +kernel
theorem dX10_make_79 : decode cX10_make 79 = .ok (.iastore, 1) := by decide +kernel
theorem dX10_make_80 : decode cX10_make 80 = .ok (.aload_n 0, 1) := by decide +kernel
theorem dX10_make_81 : decode cX10_make 81 = .ok (.getfield 63, 3) := by decide +kernel
theorem dX10_make_84 : decode cX10_make 84 = .ok (.iconst 1, 1) := by decide +kernel
theorem dX10_make_85 : decode cX10_make 85 = .ok (.iconst 0, 1) := by decide +kernel
theorem dX10_make_86 : decode cX10_make 86 = .ok (.iastore, 1) := by decide +kernel
theorem dX10_make_87 : decode cX10_make 87 = .ok (.iload_n 2, 1) := by decide +kernel
theorem dX10_make_88 : decode cX10_make 88 = .ok (.ireturn, 1) := by decide +kernel
theorem dX10_negative_0 : decode cX10_negative 0 = .ok (.aload_n 0, 1) := by decide +kernel
theorem dX10_negative_1 : decode cX10_negative 1 = .ok (.aload_n 0, 1) := by decide +kernel
theorem dX10_negative_2 : decode cX10_negative 2 = .ok (.iload_n 1, 1) := by decide +kernel
theorem dX10_negative_3 : decode cX10_negative 3 = .ok (.invokevirtual 236, 3) := by decide +kernel
theorem dX10_negative_6 : decode cX10_negative 6 = .ok (.ifCond .eq 7, 3) := by decide +kernel
theorem dX10_negative_9 : decode cX10_negative 9 = .ok (.iconst 0, 1) := by decide +kernel
theorem dX10_negative_10 : decode cX10_negative 10 = .ok (.goto 4, 3) := by decide +kernel
theorem dX10_negative_13 : decode cX10_negative 13 = .ok (.iconst 1, 1) := by decide +kernel
theorem dX10_negative_14 : decode cX10_negative 14 = .ok (.invokevirtual 227, 3) := by decide +kernel
theorem dX10_negative_17 : decode cX10_negative 17 = .ok (.ifCond .eq 5, 3) := by decide +kernel
theorem dX10_negative_20 : decode cX10_negative 20 = .ok (.iconst 0, 1) := by decide +kernel
theorem dX10_negative_21 : decode cX10_negative 21 = .ok (.ireturn, 1) := by decide +kernel
theorem dX10_negative_22 : decode cX10_negative 22 = .ok (.aload_n 0, 1) := by decide +kernel
theorem dX10_negative_23 : decode cX10_negative 23 = .ok (.getfield 149, 3) := by decide +kernel
theorem dX10_negative_26 : decode cX10_negative 26 = .ok (.istore_n 2, 1) := by decide +kernel
theorem dX10_negative_27 : decode cX10_negative 27 = .ok (.iconst 0, 1) := by decide +kernel
theorem dX10_negative_28 : decode cX10_negative 28 = .ok (.istore_n 3, 1) := by decide +kernel
theorem dX10_negative_29 : decode cX10_negative 29 = .ok (.iload_n 3, 1) := by decide +kernel
theorem dX10_negative_30 : decode cX10_negative 30 = .ok (.bipush 40, 2) := by decide +kernel
theorem dX10_negative_32 : decode cX10_negative 32 = .ok (.if_icmp .ge 25, 3) := by decide +kernel
theorem dX10_negative_35 : decode cX10_negative 35 = .ok (.aload_n 0, 1) := by decide +kernel
theorem dX10_negative_36 : decode cX10_negative 36 = .ok (.getfield 84, 3) := by decide +kernel
theorem dX10_negative_39 : decode cX10_negative 39 = .ok (.iload_n 3, 1) := by decide +kernel
theorem dX10_negative_40 : decode cX10_negative 40 = .ok (.iload_n 3, 1) := by decide +kernel
theorem dX10_negative_41 : decode cX10_negative 41 = .ok (.iload_n 1, 1) := by decide +kernel
theorem dX10_negative_42 : decode cX10_negative 42 = .ok (.if_icmp .ne 7, 3) := by decide +kernel
theorem dX10_negative_45 : decode cX10_negative 45 = .ok (.iconst 1, 1) := by decide +kernel
theorem dX10_negative_46 : decode cX10_negative 46 = .ok (.goto 4, 3) := by decide +kernel
theorem dX10_negative_49 : decode cX10_negative 49 = .ok (.iconst 0, 1) := by decide +kernel
theorem dX10_negative_50 : decode cX10_negative 50 = .ok (.bastore, 1) := by decide +kernel
theorem dX10_negative_51 : decode cX10_negative 51 = .ok (.iinc 3 1, 3) := by decide +kernel
theorem dX10_negative_54 : decode cX10_negative 54 = .ok (.goto (-25), 3) := by decide +kernel
theorem dX10_negative_57 : decode cX10_negative 57 = .ok (.iload_n 1, 1) := by decide +kernel
theorem dX10_negative_58 : decode cX10_negative 58 = .ok (.istore_n 3, 1) := by decide +kernel
theorem dX10_negative_59 : decode cX10_negative 59 = .ok (.iload_n 3, 1) := by decide +kernel
theorem dX10_negative_60 : decode cX10_negative 60 = .ok (.ifCond .lt 69, 3) := by decide +kernel
theorem dX10_negative_63 : decode cX10_negative 63 = .ok (.iconst 0, 1) := by decide +kernel
theorem dX10_negative_64 : decode cX10_negative 64 = .ok (.istore 4, 2) := by decide +kernel
theorem dX10_negative_66 : decode cX10_negative 66 = .ok (.iload 4, 2) := by decide +kernel
theorem dX10_negative_68 : decode cX10_negative 68 = .ok (.iconst 2, 1) := by decide +kernel
theorem dX10_negative_69 : decode cX10_negative 69 = .ok (.if_icmp .ge 54, 3) := by decide +kernel
theorem dX10_negative_72 : decode cX10_negative 72 = .ok (.aload_n 0, 1) := by decide +kernel
theorem dX10_negative_73 : decode cX10_negative 73 = .ok (.getfield 84, 3) := by decide +kernel
theorem dX10_negative_76 : decode cX10_negative 76 = .ok (.iload_n 3, 1) := by decide +kernel
theorem dX10_negative_77 : decode cX10_negative 77 = .ok (.baload, 1) := by decide +kernel
theorem dX10_negative_78 : decode cX10_negative 78 = .ok (.ifCond .eq 45, 3) := by decide +kernel
theorem dX10_negative_81 : decode cX10_negative 81 = .ok (.iconst 0, 1) := by decide +kernel
theorem dX10_negative_82 : decode cX10_negative 82 = .ok (.istore 5, 2) := by decide +kernel
theorem dX10_negative_84 : decode cX10_negative 84 = .ok (.iload 5, 2) := by decide +kernel
theorem dX10_negative_86 : decode cX10_negative 86 = .ok (.aload_n 0, 1) := by decide +kernel
theorem dX10_negative_87 : decode cX10_negative 87 = .ok (.iload_n 3, 1) := by decide +kernel
theorem dX10_negative_88 : decode cX10_negative 88 = .ok (.iload 4, 2) := by decide +kernel
theorem dX10_negative_90 : decode cX10_negative 90 = .ok (.invokevirtual 164, 3) := by decide +kernel
theorem dX10_negative_93 : decode cX10_negative 93 = .ok (.if_icmp .ge 24, 3) := by decide +kernel
theorem dX10_negative_96 : decode cX10_negative 96 = .ok (.aload_n 0, 1) := by decide +kernel
theorem dX10_negative_97 : decode cX10_negative 97 = .ok (.getfield 84, 3) := by decide +kernel
theorem dX10_negative_100 : decode cX10_negative 100 = .ok (.aload_n 0, 1) := by decide +kernel
theorem dX10_negative_101 : decode cX10_negative 101 = .ok (.iload_n 3, 1) := by decide +kernel
theorem dX10_negative_102 : decode cX10_negative 102 = .ok (.iload 4, 2) := by decide +kernel
theorem dX10_negative_104 : decode cX10_negative 104 = .ok (.iload 5, 2) := by decide +kernel
theorem dX10_negative_106 : decode cX10_negative 106 = .ok (.invokevirtual 167, 3) := by decide +kernel
theorem dX10_negative_109 : decode cX10_negative 109 = .ok (.iconst 1, 1) := by decide +kernel
theorem dX10_negative_110 : decode cX10_negative 110 = .ok (.bastore, 1) := by decide +kernel
theorem dX10_negative_111 : decode cX10_negative 111 = .ok (.iinc 5 1, 3) := by decide +kernel
theorem dX10_negative_114 : decode cX10_negative 114 = .ok (.goto (-30), 3) := by decide +kernel
theorem dX10_negative_117 : decode cX10_negative 117 = .ok (.iinc 4 1, 3) := by decide +kernel
theorem dX10_negative_120 : decode cX10_negative 120 = .ok (.goto (-54), 3) := by decide +kernel
theorem dX10_negative_123 : decode cX10_negative 123 = .ok (.iinc 3 (-1), 3) := by decide +kernel
theorem dX10_negative_126 : decode cX10_negative 126 = .ok (.goto (-67), 3) := by decide +kernel
theorem dX10_negative_129 : decode cX10_negative 129 = .ok (.iconst 0, 1) := by decide +kernel
theorem dX10_negative_130 : decode cX10_negative 130 = .ok (.istore_n 3, 1) := by decide +kernel
theorem dX10_negative_131 : decode cX10_negative 131 = .ok (.iconst 0, 1) := by decide +kernel
theorem dX10_negative_132 : decode cX10_negative 132 = .ok (.istore 4, 2) := by decide +kernel
theorem dX10_negative_134 : decode cX10_negative 134 = .ok (.iload 4, 2) := by decide +kernel
theorem dX10_negative_136 : decode cX10_negative 136 = .ok (.iload_n 1, 1) := by decide +kernel
theorem dX10_negative_137 : decode cX10_negative 137 = .ok (.if_icmp .gt 39, 3) := by decide +kernel
theorem dX10_negative_140 : decode cX10_negative 140 = .ok (.iload_n 3, 1) := by decide +kernel
theorem dX10_negative_141 : decode cX10_negative 141 = .ok (.iconst (-1), 1) := by decide +kernel
theorem dX10_negative_142 : decode cX10_negative 142 = .ok (.if_icmp .eq 34, 3) := by decide +kernel
theorem dX10_negative_145 : decode cX10_negative 145 = .ok (.aload_n 0, 1) := by decide +kernel
theorem dX10_negative_146 : decode cX10_negative 146 = .ok (.getfield 84, 3) := by decide +kernel
theorem dX10_negative_149 : decode cX10_negative 149 = .ok (.iload 4, 2) := by decide +kernel
theorem dX10_negative_151 : decode cX10_negative 151 = .ok (.baload, 1) := by decide +kernel
theorem dX10_negative_152 : decode cX10_negative 152 = .ok (.ifCond .eq 18, 3) := by decide +kernel
theorem dX10_negative_155 : decode cX10_negative 155 = .ok (.aload_n 0, 1) := by decide +kernel
theorem dX10_negative_156 : decode cX10_negative 156 = .ok (.iload 4, 2) := by decide +kernel
theorem dX10_negative_158 : decode cX10_negative 158 = .ok (.invokevirtual 239, 3) := by decide +kernel
theorem dX10_negative_161 : decode cX10_negative 161 = .ok (.istore_n 3, 1) := by decide +kernel
theorem dX10_negative_162 : decode cX10_negative 162 = .ok (.aload_n 0, 1) := by decide +kernel
theorem dX10_negative_163 : decode cX10_negative 163 = .ok (.getfield 87, 3) := by decide +kernel
theorem dX10_negative_166 : decode cX10_negative 166 = .ok (.iload 4, 2) := by decide +kernel
theorem dX10_negative_168 : decode cX10_negative 168 = .ok (.iload_n 3, 1) := by decide +kernel
theorem dX10_negative_169 : decode cX10_negative 169 = .ok (.iastore, 1) := by decide +kernel
theorem dX10_negative_170 : decode cX10_negative 170 = .ok (.iinc 4 1, 3) := by decide +kernel
theorem dX10_negative_173 : decode cX10_negative 173 = .ok (.goto (-39), 3) := by decide +kernel
theorem dX10_negative_176 : decode cX10_negative 176 = .ok (.aload_n 0, 1) := by decide +kernel
theorem dX10_negative_177 : decode cX10_negative 177 = .ok (.iload_n 2, 1) := by decide +kernel
theorem dX10_negative_178 : decode cX10_negative 178 = .ok (.iload_n 3, 1) := by decide +kernel
theorem dX10_negative_179 : decode cX10_negative 179 = .ok (.iconst 2, 1) := by decide +kernel
theorem dX10_negative_180 : decode cX10_negative 180 = .ok (.invokevirtual 233, 3) := by decide +kernel
theorem dX10_negative_183 : decode cX10_negative 183 = .ok (.ireturn, 1) := by decide +kernel
theorem dX10_opposite_0 : decode cX10_opposite 0 = .ok (.aload_n 0, 1) := by decide +kernel
theorem dX10_opposite_1 : decode cX10_opposite 1 = .ok (.getfield 7, 3) := by decide +kernel
theorem dX10_opposite_4 : decode cX10_opposite 4 = .ok (.iload_n 1, 1) := by decide +kernel
theorem dX10_opposite_5 : decode cX10_opposite 5 = .ok (.baload, 1) := by decide +kernel
theorem dX10_opposite_6 : decode cX10_opposite 6 = .ok (.ifCond .eq 19, 3) := by decide +kernel
theorem dX10_opposite_9 : decode cX10_opposite 9 = .ok (.aload_n 0, 1) := by decide +kernel
theorem dX10_opposite_10 : decode cX10_opposite 10 = .ok (.aload_n 0, 1) := by decide +kernel
theorem dX10_opposite_11 : decode cX10_opposite 11 = .ok (.getfield 13, 3) := by decide +kernel
theorem dX10_opposite_14 : decode cX10_opposite 14 = .ok (.iload_n 1, 1) := by decide +kernel
theorem dX10_opposite_15 : decode cX10_opposite 15 = .ok (.iaload, 1) := by decide +kernel
theorem dX10_opposite_16 : decode cX10_opposite 16 = .ok (.ineg, 1) := by decide +kernel
theorem dX10_opposite_17 : decode cX10_opposite 17 = .ok (.sipush 128, 3) := by decide +kernel
theorem dX10_opposite_20 : decode cX10_opposite 20 = .ok (.idiv, 1) := by decide +kernel
theorem dX10_opposite_21 : decode cX10_opposite 21 = .ok (.invokevirtual 123, 3) := by decide +kernel
theorem dX10_opposite_24 : decode cX10_opposite 24 = .ok (.ireturn, 1) := by decide +kernel
theorem dX10_opposite_25 : decode cX10_opposite 25 = .ok (.aload_n 0, 1) := by decide +kernel
theorem dX10_opposite_26 : decode cX10_opposite 26 = .ok (.invokevirtual 131, 3) := by decide +kernel
theorem dX10_opposite_29 : decode cX10_opposite 29 = .ok (.iconst 0, 1) := by decide +kernel
theorem dX10_opposite_30 : decode cX10_opposite 30 = .ok (.istore_n 2, 1) := by decide +kernel
theorem dX10_opposite_31 : decode cX10_opposite 31 = .ok (.iload_n 2, 1) := by decide +kernel
theorem dX10_opposite_32 : decode cX10_opposite 32 = .ok (.iconst 2, 1) := by decide +kernel
theorem dX10_opposite_33 : decode cX10_opposite 33 = .ok (.if_icmp .ge 46, 3) := by decide +kernel
theorem dX10_opposite_36 : decode cX10_opposite 36 = .ok (.iconst 0, 1) := by decide +kernel
theorem dX10_opposite_37 : decode cX10_opposite 37 = .ok (.istore_n 3, 1) := by decide +kernel
theorem dX10_opposite_38 : decode cX10_opposite 38 = .ok (.iload_n 3, 1) := by decide +kernel
theorem dX10_opposite_39 : decode cX10_opposite 39 = .ok (.aload_n 0, 1) := by decide +kernel
theorem dX10_opposite_40 : decode cX10_opposite 40 = .ok (.iload_n 1, 1) := by decide +kernel
theorem dX10_opposite_41 : decode cX10_opposite 41 = .ok (.iload_n 2, 1) := by decide +kernel
theorem dX10_opposite_42 : decode cX10_opposite 42 = .ok (.invokevirtual 164, 3) := by decide +kernel
theorem dX10_opposite_45 : decode cX10_opposite 45 = .ok (.if_icmp .ge 28, 3) := by decide +kernel
theorem dX10_opposite_48 : decode cX10_opposite 48 = .ok (.aload_n 0, 1) := by decide +kernel
theorem dX10_opposite_49 : decode cX10_opposite 49 = .ok (.iconst 1, 1) := by decide +kernel
theorem dX10_opposite_50 : decode cX10_opposite 50 = .ok (.iload_n 2, 1) := by decide +kernel
theorem dX10_opposite_51 : decode cX10_opposite 51 = .ok (.isub, 1) := by decide +kernel
theorem dX10_opposite_52 : decode cX10_opposite 52 = .ok (.aload_n 0, 1) := by decide +kernel
theorem dX10_opposite_53 : decode cX10_opposite 53 = .ok (.getfield 87, 3) := by decide +kernel
theorem dX10_opposite_56 : decode cX10_opposite 56 = .ok (.aload_n 0, 1) := by decide +kernel
theorem dX10_opposite_57 : decode cX10_opposite 57 = .ok (.iload_n 1, 1) := by decide +kernel
theorem dX10_opposite_58 : decode cX10_opposite 58 = .ok (.iload_n 2, 1) := by decide +kernel
theorem dX10_opposite_59 : decode cX10_opposite 59 = .ok (.iload_n 3, 1) := by decide +kernel
theorem dX10_opposite_60 : decode cX10_opposite 60 = .ok (.invokevirtual 167, 3) := by decide +kernel
theorem dX10_opposite_63 : decode cX10_opposite 63 = .ok (.iaload, 1) := by decide +kernel
theorem dX10_opposite_64 : decode cX10_opposite 64 = .ok (.invokevirtual 134, 3) := by decide +kernel
theorem dX10_opposite_67 : decode cX10_opposite 67 = .ok (.iinc 3 1, 3) := by decide +kernel
theorem dX10_opposite_70 : decode cX10_opposite 70 = .ok (.goto (-32), 3) := by decide +kernel
theorem dX10_opposite_73 : decode cX10_opposite 73 = .ok (.iinc 2 1, 3) := by decide +kernel
theorem dX10_opposite_76 : decode cX10_opposite 76 = .ok (.goto (-45), 3) := by decide +kernel
theorem dX10_opposite_79 : decode cX10_opposite 79 = .ok (.aload_n 0, 1) := by decide +kernel
theorem dX10_opposite_80 : decode cX10_opposite 80 = .ok (.invokevirtual 138, 3) := by decide +kernel
theorem dX10_opposite_83 : decode cX10_opposite 83 = .ok (.ireturn, 1) := by decide +kernel
theorem dX10_needSide_0 : decode cX10_needSide 0 = .ok (.aload_n 0, 1) := by decide +kernel
theorem dX10_needSide_1 : decode cX10_needSide 1 = .ok (.iload_n 1, 1) := by decide +kernel
theorem dX10_needSide_2 : decode cX10_needSide 2 = .ok (.invokevirtual 236, 3) := by decide +kernel
theorem dX10_needSide_5 : decode cX10_needSide 5 = .ok (.ifCond .ne 7, 3) := by decide +kernel
theorem dX10_needSide_8 : decode cX10_needSide 8 = .ok (.iconst 1, 1) := by decide +kernel
theorem dX10_needSide_9 : decode cX10_needSide 9 = .ok (.goto 17, 3) := by decide +kernel
theorem dX10_needSide_12 : decode cX10_needSide 12 = .ok (.iload_n 2, 1) := by decide +kernel
theorem dX10_needSide_13 : decode cX10_needSide 13 = .ok (.iconst 0, 1) := by decide +kernel
theorem dX10_needSide_14 : decode cX10_needSide 14 = .ok (.iconst 1, 1) := by decide +kernel
theorem dX10_needSide_15 : decode cX10_needSide 15 = .ok (.invokestatic 152, 3) := by decide +kernel
theorem dX10_needSide_18 : decode cX10_needSide 18 = .ok (.ifCond .ne 7, 3) := by decide +kernel
theorem dX10_needSide_21 : decode cX10_needSide 21 = .ok (.iconst 2, 1) := by decide +kernel
theorem dX10_needSide_22 : decode cX10_needSide 22 = .ok (.goto 4, 3) := by decide +kernel
theorem dX10_needSide_25 : decode cX10_needSide 25 = .ok (.iconst 0, 1) := by decide +kernel
theorem dX10_needSide_26 : decode cX10_needSide 26 = .ok (.ireturn, 1) := by decide +kernel
theorem dX10_options_0 : decode cX10_options 0 = .ok (.aload_n 0, 1) := by decide +kernel
theorem dX10_options_1 : decode cX10_options 1 = .ok (.aload_n 0, 1) := by decide +kernel
theorem dX10_options_2 : decode cX10_options 2 = .ok (.iload_n 1, 1) := by decide +kernel
theorem dX10_options_3 : decode cX10_options 3 = .ok (.iload_n 2, 1) := by decide +kernel
theorem dX10_options_4 : decode cX10_options 4 = .ok (.invokevirtual 242, 3) := by decide +kernel
theorem dX10_options_7 : decode cX10_options 7 = .ok (.invokevirtual 227, 3) := by decide +kernel
theorem dX10_options_10 : decode cX10_options 10 = .ok (.ifCond .eq 7, 3) := by decide +kernel
theorem dX10_options_13 : decode cX10_options 13 = .ok (.iconst 0, 1) := by decide +kernel
theorem dX10_options_14 : decode cX10_options 14 = .ok (.goto 9, 3) := by decide +kernel
theorem dX10_options_17 : decode cX10_options 17 = .ok (.aload_n 0, 1) := by decide +kernel
theorem dX10_options_18 : decode cX10_options 18 = .ok (.iload_n 1, 1) := by decide +kernel
theorem dX10_options_19 : decode cX10_options 19 = .ok (.iload_n 2, 1) := by decide +kernel
theorem dX10_options_20 : decode cX10_options 20 = .ok (.invokevirtual 164, 3) := by decide +kernel
theorem dX10_options_23 : decode cX10_options 23 = .ok (.ireturn, 1) := by decide +kernel
theorem dX10_option_0 : decode cX10_option 0 = .ok (.aload_n 0, 1) := by decide +kernel
theorem dX10_option_1 : decode cX10_option 1 = .ok (.aload_n 0, 1) := by decide +kernel
theorem dX10_option_2 : decode cX10_option 2 = .ok (.iload_n 1, 1) := by decide +kernel
theorem dX10_option_3 : decode cX10_option 3 = .ok (.iload_n 2, 1) := by decide +kernel
theorem dX10_option_4 : decode cX10_option 4 = .ok (.invokevirtual 242, 3) := by decide +kernel
theorem dX10_option_7 : decode cX10_option 7 = .ok (.invokevirtual 227, 3) := by decide +kernel
theorem dX10_option_10 : decode cX10_option 10 = .ok (.ifCond .eq 5, 3) := by decide +kernel
theorem dX10_option_13 : decode cX10_option 13 = .ok (.iconst 0, 1) := by decide +kernel
theorem dX10_option_14 : decode cX10_option 14 = .ok (.ireturn, 1) := by decide +kernel
theorem dX10_option_15 : decode cX10_option 15 = .ok (.iload_n 3, 1) := by decide +kernel
theorem dX10_option_16 : decode cX10_option 16 = .ok (.iconst 0, 1) := by decide +kernel
theorem dX10_option_17 : decode cX10_option 17 = .ok (.aload_n 0, 1) := by decide +kernel
theorem dX10_option_18 : decode cX10_option 18 = .ok (.iload_n 1, 1) := by decide +kernel
theorem dX10_option_19 : decode cX10_option 19 = .ok (.iload_n 2, 1) := by decide +kernel
theorem dX10_option_20 : decode cX10_option 20 = .ok (.invokevirtual 164, 3) := by decide +kernel
theorem dX10_option_23 : decode cX10_option 23 = .ok (.iconst 1, 1) := by decide +kernel
theorem dX10_option_24 : decode cX10_option 24 = .ok (.isub, 1) := by decide +kernel
theorem dX10_option_25 : decode cX10_option 25 = .ok (.invokestatic 152, 3) := by decide +kernel
theorem dX10_option_28 : decode cX10_option 28 = .ok (.ifCond .eq 13, 3) := by decide +kernel
theorem dX10_option_31 : decode cX10_option 31 = .ok (.aload_n 0, 1) := by decide +kernel
theorem dX10_option_32 : decode cX10_option 32 = .ok (.iload_n 1, 1) := by decide +kernel
theorem dX10_option_33 : decode cX10_option 33 = .ok (.iload_n 2, 1) := by decide +kernel
theorem dX10_option_34 : decode cX10_option 34 = .ok (.iload_n 3, 1) := by decide +kernel
theorem dX10_option_35 : decode cX10_option 35 = .ok (.invokevirtual 167, 3) := by decide +kernel
theorem dX10_option_38 : decode cX10_option 38 = .ok (.goto 4, 3) := by decide +kernel
theorem dX10_option_41 : decode cX10_option 41 = .ok (.iconst (-1), 1) := by decide +kernel
theorem dX10_option_42 : decode cX10_option 42 = .ok (.ireturn, 1) := by decide +kernel
theorem dX10_depth_0 : decode cX10_depth 0 = .ok (.aload_n 0, 1) := by decide +kernel
theorem dX10_depth_1 : decode cX10_depth 1 = .ok (.aload_n 0, 1) := by decide +kernel
theorem dX10_depth_2 : decode cX10_depth 2 = .ok (.iload_n 1, 1) := by decide +kernel
theorem dX10_depth_3 : decode cX10_depth 3 = .ok (.invokevirtual 236, 3) := by decide +kernel
theorem dX10_depth_6 : decode cX10_depth 6 = .ok (.ifCond .eq 7, 3) := by decide +kernel
theorem dX10_depth_9 : decode cX10_depth 9 = .ok (.iconst 0, 1) := by decide +kernel
theorem dX10_depth_10 : decode cX10_depth 10 = .ok (.goto 4, 3) := by decide +kernel
theorem dX10_depth_13 : decode cX10_depth 13 = .ok (.iconst 1, 1) := by decide +kernel
theorem dX10_depth_14 : decode cX10_depth 14 = .ok (.invokevirtual 227, 3) := by decide +kernel
theorem dX10_depth_17 : decode cX10_depth 17 = .ok (.ifCond .eq 7, 3) := by decide +kernel
theorem dX10_depth_20 : decode cX10_depth 20 = .ok (.iconst 0, 1) := by decide +kernel
theorem dX10_depth_21 : decode cX10_depth 21 = .ok (.goto 9, 3) := by decide +kernel
theorem dX10_depth_24 : decode cX10_depth 24 = .ok (.aload_n 0, 1) := by decide +kernel
theorem dX10_depth_25 : decode cX10_depth 25 = .ok (.getfield 23, 3) := by decide +kernel
theorem dX10_depth_28 : decode cX10_depth 28 = .ok (.iload_n 1, 1) := by decide +kernel
theorem dX10_depth_29 : decode cX10_depth 29 = .ok (.iaload, 1) := by decide +kernel
theorem dX10_depth_30 : decode cX10_depth 30 = .ok (.ireturn, 1) := by decide +kernel
theorem dX10_is_0 : decode cX10_is 0 = .ok (.aload_n 0, 1) := by decide +kernel
theorem dX10_is_1 : decode cX10_is 1 = .ok (.getfield 44, 3) := by decide +kernel
theorem dX10_is_4 : decode cX10_is 4 = .ok (.bipush 40, 2) := by decide +kernel
theorem dX10_is_6 : decode cX10_is 6 = .ok (.iload_n 1, 1) := by decide +kernel
theorem dX10_is_7 : decode cX10_is 7 = .ok (.imul, 1) := by decide +kernel
theorem dX10_is_8 : decode cX10_is 8 = .ok (.iload_n 2, 1) := by decide +kernel
theorem dX10_is_9 : decode cX10_is 9 = .ok (.iadd, 1) := by decide +kernel
theorem dX10_is_10 : decode cX10_is 10 = .ok (.baload, 1) := by decide +kernel
theorem dX10_is_11 : decode cX10_is 11 = .ok (.ireturn, 1) := by decide +kernel
theorem dX10_compare_0 : decode cX10_compare 0 = .ok (.aload_n 0, 1) := by decide +kernel
theorem dX10_compare_1 : decode cX10_compare 1 = .ok (.aload_n 0, 1) := by decide +kernel
theorem dX10_compare_2 : decode cX10_compare 2 = .ok (.iload_n 1, 1) := by decide +kernel
theorem dX10_compare_3 : decode cX10_compare 3 = .ok (.invokevirtual 236, 3) := by decide +kernel
theorem dX10_compare_6 : decode cX10_compare 6 = .ok (.ifCond .eq 15, 3) := by decide +kernel
theorem dX10_compare_9 : decode cX10_compare 9 = .ok (.aload_n 0, 1) := by decide +kernel
theorem dX10_compare_10 : decode cX10_compare 10 = .ok (.iload_n 2, 1) := by decide +kernel
theorem dX10_compare_11 : decode cX10_compare 11 = .ok (.invokevirtual 236, 3) := by decide +kernel
theorem dX10_compare_14 : decode cX10_compare 14 = .ok (.ifCond .eq 7, 3) := by decide +kernel
theorem dX10_compare_17 : decode cX10_compare 17 = .ok (.iconst 0, 1) := by decide +kernel
theorem dX10_compare_18 : decode cX10_compare 18 = .ok (.goto 4, 3) := by decide +kernel
theorem dX10_compare_21 : decode cX10_compare 21 = .ok (.iconst 1, 1) := by decide +kernel
theorem dX10_compare_22 : decode cX10_compare 22 = .ok (.invokevirtual 227, 3) := by decide +kernel
theorem dX10_compare_25 : decode cX10_compare 25 = .ok (.ifCond .eq 5, 3) := by decide +kernel
theorem dX10_compare_28 : decode cX10_compare 28 = .ok (.iconst 0, 1) := by decide +kernel
theorem dX10_compare_29 : decode cX10_compare 29 = .ok (.ireturn, 1) := by decide +kernel
theorem dX10_compare_30 : decode cX10_compare 30 = .ok (.aload_n 0, 1) := by decide +kernel
theorem dX10_compare_31 : decode cX10_compare 31 = .ok (.iload_n 1, 1) := by decide +kernel
theorem dX10_compare_32 : decode cX10_compare 32 = .ok (.iload_n 2, 1) := by decide +kernel
theorem dX10_compare_33 : decode cX10_compare 33 = .ok (.invokevirtual 245, 3) := by decide +kernel
theorem dX10_compare_36 : decode cX10_compare 36 = .ok (.ifCond .eq 20, 3) := by decide +kernel
theorem dX10_compare_39 : decode cX10_compare 39 = .ok (.aload_n 0, 1) := by decide +kernel
theorem dX10_compare_40 : decode cX10_compare 40 = .ok (.iload_n 2, 1) := by decide +kernel
theorem dX10_compare_41 : decode cX10_compare 41 = .ok (.iload_n 1, 1) := by decide +kernel
theorem dX10_compare_42 : decode cX10_compare 42 = .ok (.invokevirtual 245, 3) := by decide +kernel
theorem dX10_compare_45 : decode cX10_compare 45 = .ok (.ifCond .eq 7, 3) := by decide +kernel
theorem dX10_compare_48 : decode cX10_compare 48 = .ok (.iconst 0, 1) := by decide +kernel
theorem dX10_compare_49 : decode cX10_compare 49 = .ok (.goto 21, 3) := by decide +kernel
theorem dX10_compare_52 : decode cX10_compare 52 = .ok (.iconst 1, 1) := by decide +kernel
theorem dX10_compare_53 : decode cX10_compare 53 = .ok (.goto 17, 3) := by decide +kernel
theorem dX10_compare_56 : decode cX10_compare 56 = .ok (.aload_n 0, 1) := by decide +kernel
theorem dX10_compare_57 : decode cX10_compare 57 = .ok (.iload_n 2, 1) := by decide +kernel
theorem dX10_compare_58 : decode cX10_compare 58 = .ok (.iload_n 1, 1) := by decide +kernel
theorem dX10_compare_59 : decode cX10_compare 59 = .ok (.invokevirtual 245, 3) := by decide +kernel
theorem dX10_compare_62 : decode cX10_compare 62 = .ok (.ifCond .eq 7, 3) := by decide +kernel
theorem dX10_compare_65 : decode cX10_compare 65 = .ok (.iconst 2, 1) := by decide +kernel
theorem dX10_compare_66 : decode cX10_compare 66 = .ok (.goto 4, 3) := by decide +kernel
theorem dX10_compare_69 : decode cX10_compare 69 = .ok (.iconst 3, 1) := by decide +kernel
theorem dX10_compare_70 : decode cX10_compare 70 = .ok (.ireturn, 1) := by decide +kernel
theorem dX10_isCold_0 : decode cX10_isCold 0 = .ok (.aload_n 0, 1) := by decide +kernel
theorem dX10_isCold_1 : decode cX10_isCold 1 = .ok (.aload_n 0, 1) := by decide +kernel
theorem dX10_isCold_2 : decode cX10_isCold 2 = .ok (.iload_n 1, 1) := by decide +kernel
theorem dX10_isCold_3 : decode cX10_isCold 3 = .ok (.invokevirtual 236, 3) := by decide +kernel
theorem dX10_isCold_6 : decode cX10_isCold 6 = .ok (.ifCond .eq 7, 3) := by decide +kernel
theorem dX10_isCold_9 : decode cX10_isCold 9 = .ok (.iconst 0, 1) := by decide +kernel
theorem dX10_isCold_10 : decode cX10_isCold 10 = .ok (.goto 4, 3) := by decide +kernel
theorem dX10_isCold_13 : decode cX10_isCold 13 = .ok (.iconst 1, 1) := by decide +kernel
theorem dX10_isCold_14 : decode cX10_isCold 14 = .ok (.invokevirtual 227, 3) := by decide +kernel
theorem dX10_isCold_17 : decode cX10_isCold 17 = .ok (.ifCond .ne 16, 3) := by decide +kernel
theorem dX10_isCold_20 : decode cX10_isCold 20 = .ok (.aload_n 0, 1) := by decide +kernel
theorem dX10_isCold_21 : decode cX10_isCold 21 = .ok (.getfield 26, 3) := by decide +kernel
theorem dX10_isCold_24 : decode cX10_isCold 24 = .ok (.iload_n 1, 1) := by decide +kernel
theorem dX10_isCold_25 : decode cX10_isCold 25 = .ok (.baload, 1) := by decide +kernel
theorem dX10_isCold_26 : decode cX10_isCold 26 = .ok (.ifCond .eq 7, 3) := by decide +kernel
theorem dX10_isCold_29 : decode cX10_isCold 29 = .ok (.iconst 1, 1) := by decide +kernel
theorem dX10_isCold_30 : decode cX10_isCold 30 = .ok (.goto 4, 3) := by decide +kernel
theorem dX10_isCold_33 : decode cX10_isCold 33 = .ok (.iconst 0, 1) := by decide +kernel
theorem dX10_isCold_34 : decode cX10_isCold 34 = .ok (.ireturn, 1) := by decide +kernel
theorem dX10_value_0 : decode cX10_value 0 = .ok (.aload_n 0, 1) := by decide +kernel
theorem dX10_value_1 : decode cX10_value 1 = .ok (.aload_n 0, 1) := by decide +kernel
theorem dX10_value_2 : decode cX10_value 2 = .ok (.iload_n 1, 1) := by decide +kernel
theorem dX10_value_3 : decode cX10_value 3 = .ok (.invokevirtual 236, 3) := by decide +kernel
theorem dX10_value_6 : decode cX10_value 6 = .ok (.ifCond .ne 7, 3) := by decide +kernel
theorem dX10_value_9 : decode cX10_value 9 = .ok (.iconst 1, 1) := by decide +kernel
theorem dX10_value_10 : decode cX10_value 10 = .ok (.goto 17, 3) := by decide +kernel
theorem dX10_value_13 : decode cX10_value 13 = .ok (.aload_n 0, 1) := by decide +kernel
theorem dX10_value_14 : decode cX10_value 14 = .ok (.getfield 26, 3) := by decide +kernel
theorem dX10_value_17 : decode cX10_value 17 = .ok (.iload_n 1, 1) := by decide +kernel
theorem dX10_value_18 : decode cX10_value 18 = .ok (.baload, 1) := by decide +kernel
theorem dX10_value_19 : decode cX10_value 19 = .ok (.ifCond .ne 7, 3) := by decide +kernel
theorem dX10_value_22 : decode cX10_value 22 = .ok (.iconst 2, 1) := by decide +kernel
theorem dX10_value_23 : decode cX10_value 23 = .ok (.goto 4, 3) := by decide +kernel
theorem dX10_value_26 : decode cX10_value 26 = .ok (.iconst 0, 1) := by decide +kernel
theorem dX10_value_27 : decode cX10_value 27 = .ok (.invokevirtual 227, 3) := by decide +kernel
theorem dX10_value_30 : decode cX10_value 30 = .ok (.ifCond .eq 5, 3) := by decide +kernel
theorem dX10_value_33 : decode cX10_value 33 = .ok (.iconst 0, 1) := by decide +kernel
theorem dX10_value_34 : decode cX10_value 34 = .ok (.ireturn, 1) := by decide +kernel
theorem dX10_value_35 : decode cX10_value 35 = .ok (.aload_n 0, 1) := by decide +kernel
theorem dX10_value_36 : decode cX10_value 36 = .ok (.getfield 29, 3) := by decide +kernel
theorem dX10_value_39 : decode cX10_value 39 = .ok (.iload_n 1, 1) := by decide +kernel
theorem dX10_value_40 : decode cX10_value 40 = .ok (.iaload, 1) := by decide +kernel
theorem dX10_value_41 : decode cX10_value 41 = .ok (.ireturn, 1) := by decide +kernel
theorem dX10_dominated_0 : decode cX10_dominated 0 = .ok (.aload_n 0, 1) := by decide +kernel
theorem dX10_dominated_1 : decode cX10_dominated 1 = .ok (.aload_n 0, 1) := by decide +kernel
theorem dX10_dominated_2 : decode cX10_dominated 2 = .ok (.iload_n 1, 1) := by decide +kernel
theorem dX10_dominated_3 : decode cX10_dominated 3 = .ok (.iload_n 2, 1) := by decide +kernel
theorem dX10_dominated_4 : decode cX10_dominated 4 = .ok (.invokevirtual 242, 3) := by decide +kernel
theorem dX10_dominated_7 : decode cX10_dominated 7 = .ok (.invokevirtual 227, 3) := by decide +kernel
theorem dX10_dominated_10 : decode cX10_dominated 10 = .ok (.ifCond .eq 5, 3) := by decide +kernel
theorem dX10_dominated_13 : decode cX10_dominated 13 = .ok (.iconst 0, 1) := by decide +kernel
theorem dX10_dominated_14 : decode cX10_dominated 14 = .ok (.ireturn, 1) := by decide +kernel
theorem dX10_dominated_15 : decode cX10_dominated 15 = .ok (.iload_n 3, 1) := by decide +kernel
theorem dX10_dominated_16 : decode cX10_dominated 16 = .ok (.iconst 0, 1) := by decide +kernel
theorem dX10_dominated_17 : decode cX10_dominated 17 = .ok (.aload_n 0, 1) := by decide +kernel
theorem dX10_dominated_18 : decode cX10_dominated 18 = .ok (.iload_n 1, 1) := by decide +kernel
theorem dX10_dominated_19 : decode cX10_dominated 19 = .ok (.iload_n 2, 1) := by decide +kernel
theorem dX10_dominated_20 : decode cX10_dominated 20 = .ok (.invokevirtual 164, 3) := by decide +kernel
theorem dX10_dominated_23 : decode cX10_dominated 23 = .ok (.iconst 1, 1) := by decide +kernel
theorem dX10_dominated_24 : decode cX10_dominated 24 = .ok (.isub, 1) := by decide +kernel
theorem dX10_dominated_25 : decode cX10_dominated 25 = .ok (.invokestatic 152, 3) := by decide +kernel
theorem dX10_dominated_28 : decode cX10_dominated 28 = .ok (.ifCond .ne 5, 3) := by decide +kernel
theorem dX10_dominated_31 : decode cX10_dominated 31 = .ok (.iconst (-1), 1) := by decide +kernel
theorem dX10_dominated_32 : decode cX10_dominated 32 = .ok (.ireturn, 1) := by decide +kernel
theorem dX10_dominated_33 : decode cX10_dominated 33 = .ok (.aload_n 0, 1) := by decide +kernel
theorem dX10_dominated_34 : decode cX10_dominated 34 = .ok (.iload_n 1, 1) := by decide +kernel
theorem dX10_dominated_35 : decode cX10_dominated 35 = .ok (.iload_n 2, 1) := by decide +kernel
theorem dX10_dominated_36 : decode cX10_dominated 36 = .ok (.iload_n 3, 1) := by decide +kernel
theorem dX10_dominated_37 : decode cX10_dominated 37 = .ok (.invokevirtual 167, 3) := by decide +kernel
theorem dX10_dominated_40 : decode cX10_dominated 40 = .ok (.istore 4, 2) := by decide +kernel
theorem dX10_dominated_42 : decode cX10_dominated 42 = .ok (.iconst 0, 1) := by decide +kernel
theorem dX10_dominated_43 : decode cX10_dominated 43 = .ok (.istore 5, 2) := by decide +kernel
theorem dX10_dominated_45 : decode cX10_dominated 45 = .ok (.iload 5, 2) := by decide +kernel
theorem dX10_dominated_47 : decode cX10_dominated 47 = .ok (.aload_n 0, 1) := by decide +kernel
theorem dX10_dominated_48 : decode cX10_dominated 48 = .ok (.iload_n 1, 1) := by decide +kernel
theorem dX10_dominated_49 : decode cX10_dominated 49 = .ok (.iload_n 2, 1) := by decide +kernel
theorem dX10_dominated_50 : decode cX10_dominated 50 = .ok (.invokevirtual 164, 3) := by decide +kernel
theorem dX10_dominated_53 : decode cX10_dominated 53 = .ok (.if_icmp .ge 94, 3) := by decide +kernel
theorem dX10_dominated_56 : decode cX10_dominated 56 = .ok (.aload_n 0, 1) := by decide +kernel
theorem dX10_dominated_57 : decode cX10_dominated 57 = .ok (.iload_n 1, 1) := by decide +kernel
theorem dX10_dominated_58 : decode cX10_dominated 58 = .ok (.iload_n 2, 1) := by decide +kernel
theorem dX10_dominated_59 : decode cX10_dominated 59 = .ok (.iload 5, 2) := by decide +kernel
theorem dX10_dominated_61 : decode cX10_dominated 61 = .ok (.invokevirtual 167, 3) := by decide +kernel
theorem dX10_dominated_64 : decode cX10_dominated 64 = .ok (.istore 6, 2) := by decide +kernel
theorem dX10_dominated_66 : decode cX10_dominated 66 = .ok (.iload_n 2, 1) := by decide +kernel
theorem dX10_dominated_67 : decode cX10_dominated 67 = .ok (.ifCond .ne 14, 3) := by decide +kernel
theorem dX10_dominated_70 : decode cX10_dominated 70 = .ok (.aload_n 0, 1) := by decide +kernel
theorem dX10_dominated_71 : decode cX10_dominated 71 = .ok (.iload 6, 2) := by decide +kernel
theorem dX10_dominated_73 : decode cX10_dominated 73 = .ok (.iload 4, 2) := by decide +kernel
theorem dX10_dominated_75 : decode cX10_dominated 75 = .ok (.invokevirtual 245, 3) := by decide +kernel
theorem dX10_dominated_78 : decode cX10_dominated 78 = .ok (.goto 11, 3) := by decide +kernel
theorem dX10_dominated_81 : decode cX10_dominated 81 = .ok (.aload_n 0, 1) := by decide +kernel
theorem dX10_dominated_82 : decode cX10_dominated 82 = .ok (.iload 4, 2) := by decide +kernel
theorem dX10_dominated_84 : decode cX10_dominated 84 = .ok (.iload 6, 2) := by decide +kernel
theorem dX10_dominated_86 : decode cX10_dominated 86 = .ok (.invokevirtual 245, 3) := by decide +kernel
theorem dX10_dominated_89 : decode cX10_dominated 89 = .ok (.istore 7, 2) := by decide +kernel
theorem dX10_dominated_91 : decode cX10_dominated 91 = .ok (.iload_n 2, 1) := by decide +kernel
theorem dX10_dominated_92 : decode cX10_dominated 92 = .ok (.ifCond .ne 14, 3) := by decide +kernel
theorem dX10_dominated_95 : decode cX10_dominated 95 = .ok (.aload_n 0, 1) := by decide +kernel
theorem dX10_dominated_96 : decode cX10_dominated 96 = .ok (.iload 4, 2) := by decide +kernel
theorem dX10_dominated_98 : decode cX10_dominated 98 = .ok (.iload 6, 2) := by decide +kernel
theorem dX10_dominated_100 : decode cX10_dominated 100 = .ok (.invokevirtual 245, 3) := by decide +kernel
theorem dX10_dominated_103 : decode cX10_dominated 103 = .ok (.goto 11, 3) := by decide +kernel
theorem dX10_dominated_106 : decode cX10_dominated 106 = .ok (.aload_n 0, 1) := by decide +kernel
theorem dX10_dominated_107 : decode cX10_dominated 107 = .ok (.iload 6, 2) := by decide +kernel
theorem dX10_dominated_109 : decode cX10_dominated 109 = .ok (.iload 4, 2) := by decide +kernel
theorem dX10_dominated_111 : decode cX10_dominated 111 = .ok (.invokevirtual 245, 3) := by decide +kernel
theorem dX10_dominated_114 : decode cX10_dominated 114 = .ok (.istore 8, 2) := by decide +kernel
theorem dX10_dominated_116 : decode cX10_dominated 116 = .ok (.iload 5, 2) := by decide +kernel
theorem dX10_dominated_118 : decode cX10_dominated 118 = .ok (.iload_n 3, 1) := by decide +kernel
theorem dX10_dominated_119 : decode cX10_dominated 119 = .ok (.if_icmp .eq 22, 3) := by decide +kernel
theorem dX10_dominated_122 : decode cX10_dominated 122 = .ok (.iload 7, 2) := by decide +kernel
theorem dX10_dominated_124 : decode cX10_dominated 124 = .ok (.ifCond .eq 17, 3) := by decide +kernel
theorem dX10_dominated_127 : decode cX10_dominated 127 = .ok (.iload 8, 2) := by decide +kernel
theorem dX10_dominated_129 : decode cX10_dominated 129 = .ok (.ifCond .eq 9, 3) := by decide +kernel
theorem dX10_dominated_132 : decode cX10_dominated 132 = .ok (.iload 5, 2) := by decide +kernel
theorem dX10_dominated_134 : decode cX10_dominated 134 = .ok (.iload_n 3, 1) := by decide +kernel
theorem dX10_dominated_135 : decode cX10_dominated 135 = .ok (.if_icmp .ge 6, 3) := by decide +kernel
theorem dX10_dominated_138 : decode cX10_dominated 138 = .ok (.iload 5, 2) := by decide +kernel
theorem dX10_dominated_140 : decode cX10_dominated 140 = .ok (.ireturn, 1) := by decide +kernel
theorem dX10_dominated_141 : decode cX10_dominated 141 = .ok (.iinc 5 1, 3) := by decide +kernel
theorem dX10_dominated_144 : decode cX10_dominated 144 = .ok (.goto (-99), 3) := by decide +kernel
theorem dX10_dominated_147 : decode cX10_dominated 147 = .ok (.iconst (-1), 1) := by decide +kernel
theorem dX10_dominated_148 : decode cX10_dominated 148 = .ok (.ireturn, 1) := by decide +kernel
theorem dX10_isBack_0 : decode cX10_isBack 0 = .ok (.sipush 1024, 3) := by decide +kernel
theorem dX10_isBack_3 : decode cX10_isBack 3 = .ok (.istore 4, 2) := by decide +kernel
theorem dX10_isBack_5 : decode cX10_isBack 5 = .ok (.iload_n 3, 1) := by decide +kernel
theorem dX10_isBack_6 : decode cX10_isBack 6 = .ok (.iload 4, 2) := by decide +kernel
theorem dX10_isBack_8 : decode cX10_isBack 8 = .ok (.irem, 1) := by decide +kernel
theorem dX10_isBack_9 : decode cX10_isBack 9 = .ok (.ifCond .eq 12, 3) := by decide +kernel
theorem dX10_isBack_12 : decode cX10_isBack 12 = .ok (.iload 4, 2) := by decide +kernel
theorem dX10_isBack_14 : decode cX10_isBack 14 = .ok (.iconst 2, 1) := by decide +kernel
theorem dX10_isBack_15 : decode cX10_isBack 15 = .ok (.idiv, 1) := by decide +kernel
theorem dX10_isBack_16 : decode cX10_isBack 16 = .ok (.istore 4, 2) := by decide +kernel
theorem dX10_isBack_18 : decode cX10_isBack 18 = .ok (.goto (-13), 3) := by decide +kernel
theorem dX10_isBack_21 : decode cX10_isBack 21 = .ok (.iload_n 2, 1) := by decide +kernel
theorem dX10_isBack_22 : decode cX10_isBack 22 = .ok (.ifCond .ne 33, 3) := by decide +kernel
theorem dX10_isBack_25 : decode cX10_isBack 25 = .ok (.iload 4, 2) := by decide +kernel
theorem dX10_isBack_27 : decode cX10_isBack 27 = .ok (.sipush 1024, 3) := by decide +kernel
theorem dX10_isBack_30 : decode cX10_isBack 30 = .ok (.if_icmp .lt 7, 3) := by decide +kernel
theorem dX10_isBack_33 : decode cX10_isBack 33 = .ok (.iload_n 3, 1) := by decide +kernel
theorem dX10_isBack_34 : decode cX10_isBack 34 = .ok (.ifCond .ge 19, 3) := by decide +kernel
theorem dX10_isBack_37 : decode cX10_isBack 37 = .ok (.aload_n 0, 1) := by decide +kernel
theorem dX10_isBack_38 : decode cX10_isBack 38 = .ok (.iload_n 1, 1) := by decide +kernel
theorem dX10_isBack_39 : decode cX10_isBack 39 = .ok (.iload_n 3, 1) := by decide +kernel
theorem dX10_isBack_40 : decode cX10_isBack 40 = .ok (.iload 4, 2) := by decide +kernel
theorem dX10_isBack_42 : decode cX10_isBack 42 = .ok (.iadd, 1) := by decide +kernel
theorem dX10_isBack_43 : decode cX10_isBack 43 = .ok (.invokevirtual 208, 3) := by decide +kernel
theorem dX10_isBack_46 : decode cX10_isBack 46 = .ok (.ifCond .eq 7, 3) := by decide +kernel
theorem dX10_isBack_49 : decode cX10_isBack 49 = .ok (.iconst 1, 1) := by decide +kernel
theorem dX10_isBack_50 : decode cX10_isBack 50 = .ok (.goto 4, 3) := by decide +kernel
theorem dX10_isBack_53 : decode cX10_isBack 53 = .ok (.iconst 0, 1) := by decide +kernel
theorem dX10_isBack_54 : decode cX10_isBack 54 = .ok (.ireturn, 1) := by decide +kernel
theorem dX10_isBack_55 : decode cX10_isBack 55 = .ok (.iload 4, 2) := by decide +kernel
theorem dX10_isBack_57 : decode cX10_isBack 57 = .ok (.sipush 1024, 3) := by decide +kernel
theorem dX10_isBack_60 : decode cX10_isBack 60 = .ok (.if_icmp .lt 7, 3) := by decide +kernel
theorem dX10_isBack_63 : decode cX10_isBack 63 = .ok (.iload_n 3, 1) := by decide +kernel
theorem dX10_isBack_64 : decode cX10_isBack 64 = .ok (.ifCond .le 19, 3) := by decide +kernel
theorem dX10_isBack_67 : decode cX10_isBack 67 = .ok (.aload_n 0, 1) := by decide +kernel
theorem dX10_isBack_68 : decode cX10_isBack 68 = .ok (.iload_n 1, 1) := by decide +kernel
theorem dX10_isBack_69 : decode cX10_isBack 69 = .ok (.iload_n 3, 1) := by decide +kernel
theorem dX10_isBack_70 : decode cX10_isBack 70 = .ok (.iload 4, 2) := by decide +kernel
theorem dX10_isBack_72 : decode cX10_isBack 72 = .ok (.isub, 1) := by decide +kernel
theorem dX10_isBack_73 : decode cX10_isBack 73 = .ok (.invokevirtual 211, 3) := by decide +kernel
theorem dX10_isBack_76 : decode cX10_isBack 76 = .ok (.ifCond .eq 7, 3) := by decide +kernel
theorem dX10_isBack_79 : decode cX10_isBack 79 = .ok (.iconst 1, 1) := by decide +kernel
theorem dX10_isBack_80 : decode cX10_isBack 80 = .ok (.goto 4, 3) := by decide +kernel
theorem dX10_isBack_83 : decode cX10_isBack 83 = .ok (.iconst 0, 1) := by decide +kernel
theorem dX10_isBack_84 : decode cX10_isBack 84 = .ok (.ireturn, 1) := by decide +kernel
theorem dX10_reversible_0 : decode cX10_reversible 0 = .ok (.aload_n 0, 1) := by decide +kernel
theorem dX10_reversible_1 : decode cX10_reversible 1 = .ok (.aload_n 0, 1) := by decide +kernel
theorem dX10_reversible_2 : decode cX10_reversible 2 = .ok (.iload_n 1, 1) := by decide +kernel
theorem dX10_reversible_3 : decode cX10_reversible 3 = .ok (.iload_n 2, 1) := by decide +kernel
theorem dX10_reversible_4 : decode cX10_reversible 4 = .ok (.invokevirtual 242, 3) := by decide +kernel
theorem dX10_reversible_7 : decode cX10_reversible 7 = .ok (.invokevirtual 227, 3) := by decide +kernel
theorem dX10_reversible_10 : decode cX10_reversible 10 = .ok (.ifCond .eq 5, 3) := by decide +kernel
theorem dX10_reversible_13 : decode cX10_reversible 13 = .ok (.iconst 0, 1) := by decide +kernel
theorem dX10_reversible_14 : decode cX10_reversible 14 = .ok (.ireturn, 1) := by decide +kernel
theorem dX10_reversible_15 : decode cX10_reversible 15 = .ok (.iload_n 3, 1) := by decide +kernel
theorem dX10_reversible_16 : decode cX10_reversible 16 = .ok (.iconst 0, 1) := by decide +kernel
theorem dX10_reversible_17 : decode cX10_reversible 17 = .ok (.aload_n 0, 1) := by decide +kernel
theorem dX10_reversible_18 : decode cX10_reversible 18 = .ok (.iload_n 1, 1) := by decide +kernel
theorem dX10_reversible_19 : decode cX10_reversible 19 = .ok (.iload_n 2, 1) := by decide +kernel
theorem dX10_reversible_20 : decode cX10_reversible 20 = .ok (.invokevirtual 164, 3) := by decide +kernel
theorem dX10_reversible_23 : decode cX10_reversible 23 = .ok (.iconst 1, 1) := by decide +kernel
theorem dX10_reversible_24 : decode cX10_reversible 24 = .ok (.isub, 1) := by decide +kernel
theorem dX10_reversible_25 : decode cX10_reversible 25 = .ok (.invokestatic 152, 3) := by decide +kernel
theorem dX10_reversible_28 : decode cX10_reversible 28 = .ok (.ifCond .ne 5, 3) := by decide +kernel
theorem dX10_reversible_31 : decode cX10_reversible 31 = .ok (.iconst (-1), 1) := by decide +kernel
theorem dX10_reversible_32 : decode cX10_reversible 32 = .ok (.ireturn, 1) := by decide +kernel
theorem dX10_reversible_33 : decode cX10_reversible 33 = .ok (.aload_n 0, 1) := by decide +kernel
theorem dX10_reversible_34 : decode cX10_reversible 34 = .ok (.iload_n 1, 1) := by decide +kernel
theorem dX10_reversible_35 : decode cX10_reversible 35 = .ok (.iload_n 2, 1) := by decide +kernel
theorem dX10_reversible_36 : decode cX10_reversible 36 = .ok (.iload_n 3, 1) := by decide +kernel
theorem dX10_reversible_37 : decode cX10_reversible 37 = .ok (.invokevirtual 167, 3) := by decide +kernel
theorem dX10_reversible_40 : decode cX10_reversible 40 = .ok (.istore 4, 2) := by decide +kernel
theorem dX10_reversible_42 : decode cX10_reversible 42 = .ok (.aload_n 0, 1) := by decide +kernel
theorem dX10_reversible_43 : decode cX10_reversible 43 = .ok (.getfield 7, 3) := by decide +kernel
theorem dX10_reversible_46 : decode cX10_reversible 46 = .ok (.iload 4, 2) := by decide +kernel
theorem dX10_reversible_48 : decode cX10_reversible 48 = .ok (.baload, 1) := by decide +kernel
theorem dX10_reversible_49 : decode cX10_reversible 49 = .ok (.ifCond .eq 25, 3) := by decide +kernel
theorem dX10_reversible_52 : decode cX10_reversible 52 = .ok (.aload_n 0, 1) := by decide +kernel
theorem dX10_reversible_53 : decode cX10_reversible 53 = .ok (.iload_n 1, 1) := by decide +kernel
theorem dX10_reversible_54 : decode cX10_reversible 54 = .ok (.iload_n 2, 1) := by decide +kernel
theorem dX10_reversible_55 : decode cX10_reversible 55 = .ok (.aload_n 0, 1) := by decide +kernel
theorem dX10_reversible_56 : decode cX10_reversible 56 = .ok (.getfield 13, 3) := by decide +kernel
theorem dX10_reversible_59 : decode cX10_reversible 59 = .ok (.iload 4, 2) := by decide +kernel
theorem dX10_reversible_61 : decode cX10_reversible 61 = .ok (.iaload, 1) := by decide +kernel
theorem dX10_reversible_62 : decode cX10_reversible 62 = .ok (.invokevirtual 248, 3) := by decide +kernel
theorem dX10_reversible_65 : decode cX10_reversible 65 = .ok (.ifCond .eq 7, 3) := by decide +kernel
theorem dX10_reversible_68 : decode cX10_reversible 68 = .ok (.iconst 1, 1) := by decide +kernel
theorem dX10_reversible_69 : decode cX10_reversible 69 = .ok (.goto 4, 3) := by decide +kernel
theorem dX10_reversible_72 : decode cX10_reversible 72 = .ok (.iconst 0, 1) := by decide +kernel
theorem dX10_reversible_73 : decode cX10_reversible 73 = .ok (.ireturn, 1) := by decide +kernel
theorem dX10_reversible_74 : decode cX10_reversible 74 = .ok (.iconst 0, 1) := by decide +kernel
theorem dX10_reversible_75 : decode cX10_reversible 75 = .ok (.istore 5, 2) := by decide +kernel
theorem dX10_reversible_77 : decode cX10_reversible 77 = .ok (.iconst 0, 1) := by decide +kernel
theorem dX10_reversible_78 : decode cX10_reversible 78 = .ok (.istore 6, 2) := by decide +kernel
theorem dX10_reversible_80 : decode cX10_reversible 80 = .ok (.iload 6, 2) := by decide +kernel
theorem dX10_reversible_82 : decode cX10_reversible 82 = .ok (.aload_n 0, 1) := by decide +kernel
theorem dX10_reversible_83 : decode cX10_reversible 83 = .ok (.iload 4, 2) := by decide +kernel
theorem dX10_reversible_85 : decode cX10_reversible 85 = .ok (.iconst 1, 1) := by decide +kernel
theorem dX10_reversible_86 : decode cX10_reversible 86 = .ok (.iload_n 2, 1) := by decide +kernel
theorem dX10_reversible_87 : decode cX10_reversible 87 = .ok (.isub, 1) := by decide +kernel
theorem dX10_reversible_88 : decode cX10_reversible 88 = .ok (.invokevirtual 164, 3) := by decide +kernel
theorem dX10_reversible_91 : decode cX10_reversible 91 = .ok (.if_icmp .ge 59, 3) := by decide +kernel
theorem dX10_reversible_94 : decode cX10_reversible 94 = .ok (.aload_n 0, 1) := by decide +kernel
theorem dX10_reversible_95 : decode cX10_reversible 95 = .ok (.iload 4, 2) := by decide +kernel
theorem dX10_reversible_97 : decode cX10_reversible 97 = .ok (.iconst 1, 1) := by decide +kernel
theorem dX10_reversible_98 : decode cX10_reversible 98 = .ok (.iload_n 2, 1) := by decide +kernel
theorem dX10_reversible_99 : decode cX10_reversible 99 = .ok (.isub, 1) := by decide +kernel
theorem dX10_reversible_100 : decode cX10_reversible 100 = .ok (.iload 6, 2) := by decide +kernel
theorem dX10_reversible_102 : decode cX10_reversible 102 = .ok (.invokevirtual 167, 3) := by decide +kernel
theorem dX10_reversible_105 : decode cX10_reversible 105 = .ok (.istore 7, 2) := by decide +kernel
theorem dX10_reversible_107 : decode cX10_reversible 107 = .ok (.iload 5, 2) := by decide +kernel
theorem dX10_reversible_109 : decode cX10_reversible 109 = .ok (.iload_n 2, 1) := by decide +kernel
theorem dX10_reversible_110 : decode cX10_reversible 110 = .ok (.ifCond .ne 16, 3) := by decide +kernel
theorem dX10_reversible_113 : decode cX10_reversible 113 = .ok (.aload_n 0, 1) := by decide +kernel
theorem dX10_reversible_114 : decode cX10_reversible 114 = .ok (.iload_n 1, 1) := by decide +kernel
theorem dX10_reversible_115 : decode cX10_reversible 115 = .ok (.iload 7, 2) := by decide +kernel
theorem dX10_reversible_117 : decode cX10_reversible 117 = .ok (.invokevirtual 245, 3) := by decide +kernel
theorem dX10_reversible_120 : decode cX10_reversible 120 = .ok (.ifCond .eq 20, 3) := by decide +kernel
theorem dX10_reversible_123 : decode cX10_reversible 123 = .ok (.goto 13, 3) := by decide +kernel
theorem dX10_reversible_126 : decode cX10_reversible 126 = .ok (.aload_n 0, 1) := by decide +kernel
theorem dX10_reversible_127 : decode cX10_reversible 127 = .ok (.iload 7, 2) := by decide +kernel
theorem dX10_reversible_129 : decode cX10_reversible 129 = .ok (.iload_n 1, 1) := by decide +kernel
theorem dX10_reversible_130 : decode cX10_reversible 130 = .ok (.invokevirtual 245, 3) := by decide +kernel
theorem dX10_reversible_133 : decode cX10_reversible 133 = .ok (.ifCond .eq 7, 3) := by decide +kernel
theorem dX10_reversible_136 : decode cX10_reversible 136 = .ok (.iconst 1, 1) := by decide +kernel
theorem dX10_reversible_137 : decode cX10_reversible 137 = .ok (.goto 4, 3) := by decide +kernel
theorem dX10_reversible_140 : decode cX10_reversible 140 = .ok (.iconst 0, 1) := by decide +kernel
theorem dX10_reversible_141 : decode cX10_reversible 141 = .ok (.ior, 1) := by decide +kernel
theorem dX10_reversible_142 : decode cX10_reversible 142 = .ok (.istore 5, 2) := by decide +kernel
theorem dX10_reversible_144 : decode cX10_reversible 144 = .ok (.iinc 6 1, 3) := by decide +kernel
theorem dX10_reversible_147 : decode cX10_reversible 147 = .ok (.goto (-67), 3) := by decide +kernel
theorem dX10_reversible_150 : decode cX10_reversible 150 = .ok (.iload 5, 2) := by decide +kernel
theorem dX10_reversible_152 : decode cX10_reversible 152 = .ok (.ireturn, 1) := by decide +kernel
theorem dX10_mean_0 : decode cX10_mean 0 = .ok (.aload_n 0, 1) := by decide +kernel
theorem dX10_mean_1 : decode cX10_mean 1 = .ok (.aload_n 0, 1) := by decide +kernel
theorem dX10_mean_2 : decode cX10_mean 2 = .ok (.iload_n 1, 1) := by decide +kernel
theorem dX10_mean_3 : decode cX10_mean 3 = .ok (.invokevirtual 236, 3) := by decide +kernel
theorem dX10_mean_6 : decode cX10_mean 6 = .ok (.ifCond .eq 7, 3) := by decide +kernel
theorem dX10_mean_9 : decode cX10_mean 9 = .ok (.iconst 0, 1) := by decide +kernel
theorem dX10_mean_10 : decode cX10_mean 10 = .ok (.goto 4, 3) := by decide +kernel
theorem dX10_mean_13 : decode cX10_mean 13 = .ok (.iconst 1, 1) := by decide +kernel
theorem dX10_mean_14 : decode cX10_mean 14 = .ok (.invokevirtual 227, 3) := by decide +kernel
theorem dX10_mean_17 : decode cX10_mean 17 = .ok (.ifCond .eq 7, 3) := by decide +kernel
theorem dX10_mean_20 : decode cX10_mean 20 = .ok (.iconst 0, 1) := by decide +kernel
theorem dX10_mean_21 : decode cX10_mean 21 = .ok (.goto 9, 3) := by decide +kernel
theorem dX10_mean_24 : decode cX10_mean 24 = .ok (.aload_n 0, 1) := by decide +kernel
theorem dX10_mean_25 : decode cX10_mean 25 = .ok (.getfield 47, 3) := by decide +kernel
theorem dX10_mean_28 : decode cX10_mean 28 = .ok (.iload_n 1, 1) := by decide +kernel
theorem dX10_mean_29 : decode cX10_mean 29 = .ok (.iaload, 1) := by decide +kernel
theorem dX10_mean_30 : decode cX10_mean 30 = .ok (.ireturn, 1) := by decide +kernel
theorem dX10_temperature_0 : decode cX10_temperature 0 = .ok (.aload_n 0, 1) := by decide +kernel
theorem dX10_temperature_1 : decode cX10_temperature 1 = .ok (.aload_n 0, 1) := by decide +kernel
theorem dX10_temperature_2 : decode cX10_temperature 2 = .ok (.iload_n 1, 1) := by decide +kernel
theorem dX10_temperature_3 : decode cX10_temperature 3 = .ok (.invokevirtual 236, 3) := by decide +kernel
theorem dX10_temperature_6 : decode cX10_temperature 6 = .ok (.ifCond .eq 7, 3) := by decide +kernel
theorem dX10_temperature_9 : decode cX10_temperature 9 = .ok (.iconst 0, 1) := by decide +kernel
theorem dX10_temperature_10 : decode cX10_temperature 10 = .ok (.goto 4, 3) := by decide +kernel
theorem dX10_temperature_13 : decode cX10_temperature 13 = .ok (.iconst 1, 1) := by decide +kernel
theorem dX10_temperature_14 : decode cX10_temperature 14 = .ok (.invokevirtual 227, 3) := by decide +kernel
theorem dX10_temperature_17 : decode cX10_temperature 17 = .ok (.ifCond .eq 7, 3) := by decide +kernel
theorem dX10_temperature_20 : decode cX10_temperature 20 = .ok (.iconst 0, 1) := by decide +kernel
theorem dX10_temperature_21 : decode cX10_temperature 21 = .ok (.goto 9, 3) := by decide +kernel
theorem dX10_temperature_24 : decode cX10_temperature 24 = .ok (.aload_n 0, 1) := by decide +kernel
theorem dX10_temperature_25 : decode cX10_temperature 25 = .ok (.getfield 50, 3) := by decide +kernel
theorem dX10_temperature_28 : decode cX10_temperature 28 = .ok (.iload_n 1, 1) := by decide +kernel
theorem dX10_temperature_29 : decode cX10_temperature 29 = .ok (.iaload, 1) := by decide +kernel
theorem dX10_temperature_30 : decode cX10_temperature 30 = .ok (.ireturn, 1) := by decide +kernel
theorem dX10_wall_0 : decode cX10_wall 0 = .ok (.aload_n 0, 1) := by decide +kernel
theorem dX10_wall_1 : decode cX10_wall 1 = .ok (.aload_n 0, 1) := by decide +kernel
theorem dX10_wall_2 : decode cX10_wall 2 = .ok (.iload_n 1, 1) := by decide +kernel
