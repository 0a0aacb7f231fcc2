theorem dX12_init_0 : decode cX12_init 0 = .ok (.aload_n 0, 1) := by decide +kernel
theorem dX12_init_1 : decode cX12_init 1 = .ok (.invokespecial 1, 3) := by decide +kernel
theorem dX12_init_4 : decode cX12_init 4 = .ok (.aload_n 0, 1) := by decide +kernel
theorem dX12_init_5 : decode cX12_init 5 = .ok (.sipush 800, 3) := by decide +kernel
theorem dX12_init_8 : decode cX12_init 8 = .ok (.newarray .byte, 2) := by decide +kernel
theorem dX12_init_10 : decode cX12_init 10 = .ok (.putfield 7, 3) := by decide +kernel
theorem dX12_init_13 : decode cX12_init 13 = .ok (.aload_n 0, 1) := by decide +kernel
theorem dX12_init_14 : decode cX12_init 14 = .ok (.iconst (-1), 1) := by decide +kernel
theorem dX12_init_15 : decode cX12_init 15 = .ok (.putfield 13, 3) := by decide +kernel
theorem dX12_init_18 : decode cX12_init 18 = .ok (.aload_n 0, 1) := by decide +kernel
theorem dX12_init_19 : decode cX12_init 19 = .ok (.bipush 8, 2) := by decide +kernel
theorem dX12_init_21 : decode cX12_init 21 = .ok (.newarray .int, 2) := by decide +kernel
theorem dX12_init_23 : decode cX12_init 23 = .ok (.putfield 17, 3) := by decide +kernel
theorem dX12_init_26 : decode cX12_init 26 = .ok (.aload_n 0, 1) := by decide +kernel
theorem dX12_init_27 : decode cX12_init 27 = .ok (.iconst 2, 1) := by decide +kernel
theorem dX12_init_28 : decode cX12_init 28 = .ok (.newarray .int, 2) := by decide +kernel
theorem dX12_init_30 : decode cX12_init 30 = .ok (.putfield 21, 3) := by decide +kernel
theorem dX12_init_33 : decode cX12_init 33 = .ok (.aload_n 0, 1) := by decide +kernel
theorem dX12_init_34 : decode cX12_init 34 = .ok (.bipush 80, 2) := by decide +kernel
theorem dX12_init_36 : decode cX12_init 36 = .ok (.newarray .long, 2) := by decide +kernel
theorem dX12_init_38 : decode cX12_init 38 = .ok (.putfield 24, 3) := by decide +kernel
theorem dX12_init_41 : decode cX12_init 41 = .ok (.aload_n 0, 1) := by decide +kernel
theorem dX12_init_42 : decode cX12_init 42 = .ok (.bipush 80, 2) := by decide +kernel
theorem dX12_init_44 : decode cX12_init 44 = .ok (.newarray .int, 2) := by decide +kernel
theorem dX12_init_46 : decode cX12_init 46 = .ok (.putfield 28, 3) := by decide +kernel
theorem dX12_init_49 : decode cX12_init 49 = .ok (.aload_n 0, 1) := by decide +kernel
theorem dX12_init_50 : decode cX12_init 50 = .ok (.bipush 80, 2) := by decide +kernel
theorem dX12_init_52 : decode cX12_init 52 = .ok (.newarray .int, 2) := by decide +kernel
theorem dX12_init_54 : decode cX12_init 54 = .ok (.putfield 31, 3) := by decide +kernel
theorem dX12_init_57 : decode cX12_init 57 = .ok (.aload_n 0, 1) := by decide +kernel
theorem dX12_init_58 : decode cX12_init 58 = .ok (.bipush 80, 2) := by decide +kernel
theorem dX12_init_60 : decode cX12_init 60 = .ok (.newarray .int, 2) := by decide +kernel
theorem dX12_init_62 : decode cX12_init 62 = .ok (.putfield 34, 3) := by decide +kernel
theorem dX12_init_65 : decode cX12_init 65 = .ok (.aload_n 0, 1) := by decide +kernel
theorem dX12_init_66 : decode cX12_init 66 = .ok (.bipush 80, 2) := by decide +kernel
theorem dX12_init_68 : decode cX12_init 68 = .ok (.newarray .int, 2) := by decide +kernel
theorem dX12_init_70 : decode cX12_init 70 = .ok (.putfield 37, 3) := by decide +kernel
theorem dX12_init_73 : decode cX12_init 73 = .ok (.aload_n 0, 1) := by decide +kernel
theorem dX12_init_74 : decode cX12_init 74 = .ok (.sipush 240, 3) := by decide +kernel
theorem dX12_init_77 : decode cX12_init 77 = .ok (.newarray .int, 2) := by decide +kernel
theorem dX12_init_79 : decode cX12_init 79 = .ok (.putfield 40, 3) := by decide +kernel
theorem dX12_init_82 : decode cX12_init 82 = .ok (.aload_n 0, 1) := by decide +kernel
theorem dX12_init_83 : decode cX12_init 83 = .ok (.bipush 80, 2) := by decide +kernel
theorem dX12_init_85 : decode cX12_init 85 = .ok (.newarray .long, 2) := by decide +kernel
theorem dX12_init_87 : decode cX12_init 87 = .ok (.putfield 43, 3) := by decide +kernel
theorem dX12_init_90 : decode cX12_init 90 = .ok (.aload_n 0, 1) := by decide +kernel
theorem dX12_init_91 : decode cX12_init 91 = .ok (.sipush 400, 3) := by decide +kernel
theorem dX12_init_94 : decode cX12_init 94 = .ok (.newarray .int, 2) := by decide +kernel
theorem dX12_init_96 : decode cX12_init 96 = .ok (.putfield 46, 3) := by decide +kernel
theorem dX12_init_99 : decode cX12_init 99 = .ok (.aload_n 0, 1) := by decide +kernel
theorem dX12_init_100 : decode cX12_init 100 = .ok (.sipush 400, 3) := by decide +kernel
theorem dX12_init_103 : decode cX12_init 103 = .ok (.newarray .int, 2) := by decide +kernel
theorem dX12_init_105 : decode cX12_init 105 = .ok (.putfield 49, 3) := by decide +kernel
theorem dX12_init_108 : decode cX12_init 108 = .ok (.aload_n 0, 1) := by decide +kernel
theorem dX12_init_109 : decode cX12_init 109 = .ok (.sipush 400, 3) := by decide +kernel
theorem dX12_init_112 : decode cX12_init 112 = .ok (.newarray .int, 2) := by decide +kernel
theorem dX12_init_114 : decode cX12_init 114 = .ok (.putfield 52, 3) := by decide +kernel
theorem dX12_init_117 : decode cX12_init 117 = .ok (.aload_n 0, 1) := by decide +kernel
theorem dX12_init_118 : decode cX12_init 118 = .ok (.sipush 400, 3) := by decide +kernel
theorem dX12_init_121 : decode cX12_init 121 = .ok (.newarray .int, 2) := by decide +kernel
theorem dX12_init_123 : decode cX12_init 123 = .ok (.putfield 55, 3) := by decide +kernel
theorem dX12_init_126 : decode cX12_init 126 = .ok (.aload_n 0, 1) := by decide +kernel
theorem dX12_init_127 : decode cX12_init 127 = .ok (.sipush 400, 3) := by decide +kernel
theorem dX12_init_130 : decode cX12_init 130 = .ok (.newarray .int, 2) := by decide +kernel
theorem dX12_init_132 : decode cX12_init 132 = .ok (.putfield 58, 3) := by decide +kernel
theorem dX12_init_135 : decode cX12_init 135 = .ok (.aload_n 0, 1) := by decide +kernel
theorem dX12_init_136 : decode cX12_init 136 = .ok (.sipush 400, 3) := by decide +kernel
theorem dX12_init_139 : decode cX12_init 139 = .ok (.newarray .int, 2) := by decide +kernel
theorem dX12_init_141 : decode cX12_init 141 = .ok (.putfield 61, 3) := by decide +kernel
theorem dX12_init_144 : decode cX12_init 144 = .ok (.aload_n 0, 1) := by decide +kernel
theorem dX12_init_145 : decode cX12_init 145 = .ok (.sipush 400, 3) := by decide +kernel
theorem dX12_init_148 : decode cX12_init 148 = .ok (.newarray .int, 2) := by decide +kernel
theorem dX12_init_150 : decode cX12_init 150 = .ok (.putfield 64, 3) := by decide +kernel
theorem dX12_init_153 : decode cX12_init 153 = .ok (.aload_n 0, 1) := by decide +kernel
theorem dX12_init_154 : decode cX12_init 154 = .ok (.sipush 400, 3) := by decide +kernel
theorem dX12_init_157 : decode cX12_init 157 = .ok (.newarray .int, 2) := by decide +kernel
theorem dX12_init_159 : decode cX12_init 159 = .ok (.putfield 67, 3) := by decide +kernel
theorem dX12_init_162 : decode cX12_init 162 = .ok (.aload_n 0, 1) := by decide +kernel
theorem dX12_init_163 : decode cX12_init 163 = .ok (.sipush 400, 3) := by decide +kernel
theorem dX12_init_166 : decode cX12_init 166 = .ok (.newarray .int, 2) := by decide +kernel
theorem dX12_init_168 : decode cX12_init 168 = .ok (.putfield 70, 3) := by decide +kernel
theorem dX12_init_171 : decode cX12_init 171 = .ok (.aload_n 0, 1) := by decide +kernel
theorem dX12_init_172 : decode cX12_init 172 = .ok (.bipush 12, 2) := by decide +kernel
theorem dX12_init_174 : decode cX12_init 174 = .ok (.newarray .int, 2) := by decide +kernel
theorem dX12_init_176 : decode cX12_init 176 = .ok (.putfield 73, 3) := by decide +kernel
theorem dX12_init_179 : decode cX12_init 179 = .ok (.aload_n 0, 1) := by decide +kernel
theorem dX12_init_180 : decode cX12_init 180 = .ok (.bipush 12, 2) := by decide +kernel
theorem dX12_init_182 : decode cX12_init 182 = .ok (.newarray .int, 2) := by decide +kernel
theorem dX12_init_184 : decode cX12_init 184 = .ok (.putfield 76, 3) := by decide +kernel
theorem dX12_init_187 : decode cX12_init 187 = .ok (.aload_n 0, 1) := by decide +kernel
theorem dX12_init_188 : decode cX12_init 188 = .ok (.bipush 12, 2) := by decide +kernel
theorem dX12_init_190 : decode cX12_init 190 = .ok (.newarray .int, 2) := by decide +kernel
theorem dX12_init_192 : decode cX12_init 192 = .ok (.putfield 79, 3) := by decide +kernel
theorem dX12_init_195 : decode cX12_init 195 = .ok (.aload_n 0, 1) := by decide +kernel
theorem dX12_init_196 : decode cX12_init 196 = .ok (.bipush 24, 2) := by decide +kernel
theorem dX12_init_198 : decode cX12_init 198 = .ok (.newarray .int, 2) := by decide +kernel
theorem dX12_init_200 : decode cX12_init 200 = .ok (.putfield 82, 3) := by decide +kernel
theorem dX12_init_203 : decode cX12_init 203 = .ok (.aload_n 0, 1) := by decide +kernel
theorem dX12_init_204 : decode cX12_init 204 = .ok (.bipush 24, 2) := by decide +kernel
theorem dX12_init_206 : decode cX12_init 206 = .ok (.newarray .int, 2) := by decide +kernel
theorem dX12_init_208 : decode cX12_init 208 = .ok (.putfield 85, 3) := by decide +kernel
theorem dX12_init_211 : decode cX12_init 211 = .ok (.aload_n 0, 1) := by decide +kernel
theorem dX12_init_212 : decode cX12_init 212 = .ok (.bipush 24, 2) := by decide +kernel
theorem dX12_init_214 : decode cX12_init 214 = .ok (.newarray .int, 2) := by decide +kernel
theorem dX12_init_216 : decode cX12_init 216 = .ok (.putfield 88, 3) := by decide +kernel
theorem dX12_init_219 : decode cX12_init 219 = .ok (.aload_n 0, 1) := by decide +kernel
theorem dX12_init_220 : decode cX12_init 220 = .ok (.bipush 24, 2) := by decide +kernel
theorem dX12_init_222 : decode cX12_init 222 = .ok (.newarray .int, 2) := by decide +kernel
theorem dX12_init_224 : decode cX12_init 224 = .ok (.putfield 91, 3) := by decide +kernel
theorem dX12_init_227 : decode cX12_init 227 = .ok (.aload_n 0, 1) := by decide +kernel
theorem dX12_init_228 : decode cX12_init 228 = .ok (.bipush 24, 2) := by decide +kernel
theorem dX12_init_230 : decode cX12_init 230 = .ok (.newarray .int, 2) := by decide +kernel
theorem dX12_init_232 : decode cX12_init 232 = .ok (.putfield 94, 3) := by decide +kernel
theorem dX12_init_235 : decode cX12_init 235 = .ok (.aload_n 0, 1) := by decide +kernel
theorem dX12_init_236 : decode cX12_init 236 = .ok (.bipush 24, 2) := by decide +kernel
theorem dX12_init_238 : decode cX12_init 238 = .ok (.newarray .int, 2) := by decide +kernel
theorem dX12_init_240 : decode cX12_init 240 = .ok (.putfield 97, 3) := by decide +kernel
theorem dX12_init_243 : decode cX12_init 243 = .ok (.aload_n 0, 1) := by decide +kernel
theorem dX12_init_244 : decode cX12_init 244 = .ok (.bipush 12, 2) := by decide +kernel
theorem dX12_init_246 : decode cX12_init 246 = .ok (.newarray .int, 2) := by decide +kernel
theorem dX12_init_248 : decode cX12_init 248 = .ok (.putfield 100, 3) := by decide +kernel
theorem dX12_init_251 : decode cX12_init 251 = .ok (.aload_n 0, 1) := by decide +kernel
theorem dX12_init_252 : decode cX12_init 252 = .ok (.bipush 40, 2) := by decide +kernel
theorem dX12_init_254 : decode cX12_init 254 = .ok (.newarray .long, 2) := by decide +kernel
theorem dX12_init_256 : decode cX12_init 256 = .ok (.putfield 103, 3) := by decide +kernel
theorem dX12_init_259 : decode cX12_init 259 = .ok (.aload_n 0, 1) := by decide +kernel
theorem dX12_init_260 : decode cX12_init 260 = .ok (.bipush 40, 2) := by decide +kernel
theorem dX12_init_262 : decode cX12_init 262 = .ok (.newarray .int, 2) := by decide +kernel
theorem dX12_init_264 : decode cX12_init 264 = .ok (.putfield 106, 3) := by decide +kernel
theorem dX12_init_267 : decode cX12_init 267 = .ok (.aload_n 0, 1) := by decide +kernel
theorem dX12_init_268 : decode cX12_init 268 = .ok (.sipush 320, 3) := by decide +kernel
theorem dX12_init_271 : decode cX12_init 271 = .ok (.newarray .int, 2) := by decide +kernel
theorem dX12_init_273 : decode cX12_init 273 = .ok (.putfield 109, 3) := by decide +kernel
theorem dX12_init_276 : decode cX12_init 276 = .ok (.aload_n 0, 1) := by decide +kernel
theorem dX12_init_277 : decode cX12_init 277 = .ok (.bipush 40, 2) := by decide +kernel
theorem dX12_init_279 : decode cX12_init 279 = .ok (.newarray .long, 2) := by decide +kernel
theorem dX12_init_281 : decode cX12_init 281 = .ok (.putfield 112, 3) := by decide +kernel
theorem dX12_init_284 : decode cX12_init 284 = .ok (.aload_n 0, 1) := by decide +kernel
theorem dX12_init_285 : decode cX12_init 285 = .ok (.bipush 40, 2) := by decide +kernel
theorem dX12_init_287 : decode cX12_init 287 = .ok (.newarray .int, 2) := by decide +kernel
theorem dX12_init_289 : decode cX12_init 289 = .ok (.putfield 115, 3) := by decide +kernel
theorem dX12_init_292 : decode cX12_init 292 = .ok (.aload_n 0, 1) := by decide +kernel
theorem dX12_init_293 : decode cX12_init 293 = .ok (.bipush 40, 2) := by decide +kernel
theorem dX12_init_295 : decode cX12_init 295 = .ok (.newarray .int, 2) := by decide +kernel
theorem dX12_init_297 : decode cX12_init 297 = .ok (.putfield 118, 3) := by decide +kernel
theorem dX12_init_300 : decode cX12_init 300 = .ok (.aload_n 0, 1) := by decide +kernel
theorem dX12_init_301 : decode cX12_init 301 = .ok (.bipush 120, 2) := by decide +kernel
theorem dX12_init_303 : decode cX12_init 303 = .ok (.newarray .int, 2) := by decide +kernel
theorem dX12_init_305 : decode cX12_init 305 = .ok (.putfield 121, 3) := by decide +kernel
theorem dX12_init_308 : decode cX12_init 308 = .ok (.aload_n 0, 1) := by decide +kernel
theorem dX12_init_309 : decode cX12_init 309 = .ok (.sipush 234, 3) := by decide +kernel
theorem dX12_init_312 : decode cX12_init 312 = .ok (.newarray .int, 2) := by decide +kernel
theorem dX12_init_314 : decode cX12_init 314 = .ok (.putfield 124, 3) := by decide +kernel
theorem dX12_init_317 : decode cX12_init 317 = .ok (.aload_n 0, 1) := by decide +kernel
theorem dX12_init_318 : decode cX12_init 318 = .ok (.bipush 9, 2) := by decide +kernel
theorem dX12_init_320 : decode cX12_init 320 = .ok (.newarray .int, 2) := by decide +kernel
theorem dX12_init_322 : decode cX12_init 322 = .ok (.putfield 127, 3) := by decide +kernel
theorem dX12_init_325 : decode cX12_init 325 = .ok (.aload_n 0, 1) := by decide +kernel
theorem dX12_init_326 : decode cX12_init 326 = .ok (.bipush 12, 2) := by decide +kernel
theorem dX12_init_328 : decode cX12_init 328 = .ok (.newarray .int, 2) := by decide +kernel
theorem dX12_init_330 : decode cX12_init 330 = .ok (.putfield 130, 3) := by decide +kernel
theorem dX12_init_333 : decode cX12_init 333 = .ok (.aload_n 0, 1) := by decide +kernel
theorem dX12_init_334 : decode cX12_init 334 = .ok (.bipush 9, 2) := by decide +kernel
theorem dX12_init_336 : decode cX12_init 336 = .ok (.newarray .int, 2) := by decide +kernel
theorem dX12_init_338 : decode cX12_init 338 = .ok (.putfield 133, 3) := by decide +kernel
theorem dX12_init_341 : decode cX12_init 341 = .ok (.aload_n 0, 1) := by decide +kernel
theorem dX12_init_342 : decode cX12_init 342 = .ok (.bipush 9, 2) := by decide +kernel
theorem dX12_init_344 : decode cX12_init 344 = .ok (.newarray .int, 2) := by decide +kernel
theorem dX12_init_346 : decode cX12_init 346 = .ok (.putfield 136, 3) := by decide +kernel
theorem dX12_init_349 : decode cX12_init 349 = .ok (.aload_n 0, 1) := by decide +kernel
theorem dX12_init_350 : decode cX12_init 350 = .ok (.bipush 9, 2) := by decide +kernel
theorem dX12_init_352 : decode cX12_init 352 = .ok (.newarray .int, 2) := by decide +kernel
theorem dX12_init_354 : decode cX12_init 354 = .ok (.putfield 139, 3) := by decide +kernel
theorem dX12_init_357 : decode cX12_init 357 = .ok (.aload_n 0, 1) := by decide +kernel
theorem dX12_init_358 : decode cX12_init 358 = .ok (.bipush 10, 2) := by decide +kernel
theorem dX12_init_360 : decode cX12_init 360 = .ok (.newarray .int, 2) := by decide +kernel
theorem dX12_init_362 : decode cX12_init 362 = .ok (.putfield 142, 3) := by decide +kernel
theorem dX12_init_365 : decode cX12_init 365 = .ok (.aload_n 0, 1) := by decide +kernel
theorem dX12_init_366 : decode cX12_init 366 = .ok (.bipush 24, 2) := by decide +kernel
theorem dX12_init_368 : decode cX12_init 368 = .ok (.newarray .int, 2) := by decide +kernel
theorem dX12_init_370 : decode cX12_init 370 = .ok (.putfield 145, 3) := by decide +kernel
theorem dX12_init_373 : decode cX12_init 373 = .ok (.aload_n 0, 1) := by decide +kernel
theorem dX12_init_374 : decode cX12_init 374 = .ok (.bipush 24, 2) := by decide +kernel
theorem dX12_init_376 : decode cX12_init 376 = .ok (.newarray .int, 2) := by decide +kernel
theorem dX12_init_378 : decode cX12_init 378 = .ok (.putfield 148, 3) := by decide +kernel
theorem dX12_init_381 : decode cX12_init 381 = .ok (.aload_n 0, 1) := by decide +kernel
theorem dX12_init_382 : decode cX12_init 382 = .ok (.bipush 25, 2) := by decide +kernel
theorem dX12_init_384 : decode cX12_init 384 = .ok (.newarray .int, 2) := by decide +kernel
theorem dX12_init_386 : decode cX12_init 386 = .ok (.putfield 151, 3) := by decide +kernel
theorem dX12_init_389 : decode cX12_init 389 = .ok (.aload_n 0, 1) := by decide +kernel
theorem dX12_init_390 : decode cX12_init 390 = .ok (.bipush 25, 2) := by decide +kernel
theorem dX12_init_392 : decode cX12_init 392 = .ok (.newarray .int, 2) := by decide +kernel
theorem dX12_init_394 : decode cX12_init 394 = .ok (.putfield 154, 3) := by decide +kernel
theorem dX12_init_397 : decode cX12_init 397 = .ok (.aload_n 0, 1) := by decide +kernel
theorem dX12_init_398 : decode cX12_init 398 = .ok (.bipush 24, 2) := by decide +kernel
theorem dX12_init_400 : decode cX12_init 400 = .ok (.newarray .int, 2) := by decide +kernel
theorem dX12_init_402 : decode cX12_init 402 = .ok (.putfield 157, 3) := by decide +kernel
theorem dX12_init_405 : decode cX12_init 405 = .ok (.aload_n 0, 1) := by decide +kernel
theorem dX12_init_406 : decode cX12_init 406 = .ok (.bipush 24, 2) := by decide +kernel
theorem dX12_init_408 : decode cX12_init 408 = .ok (.newarray .int, 2) := by decide +kernel
theorem dX12_init_410 : decode cX12_init 410 = .ok (.putfield 160, 3) := by decide +kernel
theorem dX12_init_413 : decode cX12_init 413 = .ok (.aload_n 0, 1) := by decide +kernel
theorem dX12_init_414 : decode cX12_init 414 = .ok (.sipush 23040, 3) := by decide +kernel
theorem dX12_init_417 : decode cX12_init 417 = .ok (.newarray .boolean, 2) := by decide +kernel
theorem dX12_init_419 : decode cX12_init 419 = .ok (.putfield 163, 3) := by decide +kernel
theorem dX12_init_422 : decode cX12_init 422 = .ok (.aload_n 0, 1) := by decide +kernel
theorem dX12_init_423 : decode cX12_init 423 = .ok (.bipush 25, 2) := by decide +kernel
theorem dX12_init_425 : decode cX12_init 425 = .ok (.newarray .int, 2) := by decide +kernel
theorem dX12_init_427 : decode cX12_init 427 = .ok (.putfield 167, 3) := by decide +kernel
theorem dX12_init_430 : decode cX12_init 430 = .ok (.aload_n 0, 1) := by decide +kernel
theorem dX12_init_431 : decode cX12_init 431 = .ok (.bipush 25, 2) := by decide +kernel
theorem dX12_init_433 : decode cX12_init 433 = .ok (.newarray .int, 2) := by decide +kernel
theorem dX12_init_435 : decode cX12_init 435 = .ok (.putfield 170, 3) := by decide +kernel
theorem dX12_init_438 : decode cX12_init 438 = .ok (.aload_n 0, 1) := by decide +kernel
theorem dX12_init_439 : decode cX12_init 439 = .ok (.bipush 25, 2) := by decide +kernel
theorem dX12_init_441 : decode cX12_init 441 = .ok (.newarray .int, 2) := by decide +kernel
theorem dX12_init_443 : decode cX12_init 443 = .ok (.putfield 173, 3) := by decide +kernel
theorem dX12_init_446 : decode cX12_init 446 = .ok (.aload_n 0, 1) := by decide +kernel
theorem dX12_init_447 : decode cX12_init 447 = .ok (.bipush 25, 2) := by decide +kernel
theorem dX12_init_449 : decode cX12_init 449 = .ok (.newarray .int, 2) := by decide +kernel
theorem dX12_init_451 : decode cX12_init 451 = .ok (.putfield 176, 3) := by decide +kernel
theorem dX12_init_454 : decode cX12_init 454 = .ok (.aload_n 0, 1) := by decide +kernel
theorem dX12_init_455 : decode cX12_init 455 = .ok (.bipush 24, 2) := by decide +kernel
theorem dX12_init_457 : decode cX12_init 457 = .ok (.newarray .int, 2) := by decide +kernel
theorem dX12_init_459 : decode cX12_init 459 = .ok (.putfield 179, 3) := by decide +kernel
theorem dX12_init_462 : decode cX12_init 462 = .ok (.aload_n 0, 1) := by decide +kernel
theorem dX12_init_463 : decode cX12_init 463 = .ok (.bipush 24, 2) := by decide +kernel
theorem dX12_init_465 : decode cX12_init 465 = .ok (.newarray .int, 2) := by decide +kernel
theorem dX12_init_467 : decode cX12_init 467 = .ok (.putfield 182, 3) := by decide +kernel
theorem dX12_init_470 : decode cX12_init 470 = .ok (.aload_n 0, 1) := by decide +kernel
theorem dX12_init_471 : decode cX12_init 471 = .ok (.bipush 12, 2) := by decide +kernel
theorem dX12_init_473 : decode cX12_init 473 = .ok (.newarray .int, 2) := by decide +kernel
theorem dX12_init_475 : decode cX12_init 475 = .ok (.putfield 185, 3) := by decide +kernel
theorem dX12_init_478 : decode cX12_init 478 = .ok (.aload_n 0, 1) := by decide +kernel
theorem dX12_init_479 : decode cX12_init 479 = .ok (.sipush 156, 3) := by decide +kernel
theorem dX12_init_482 : decode cX12_init 482 = .ok (.newarray .int, 2) := by decide +kernel
theorem dX12_init_484 : decode cX12_init 484 = .ok (.putfield 188, 3) := by decide +kernel
theorem dX12_init_487 : decode cX12_init 487 = .ok (.aload_n 0, 1) := by decide +kernel
theorem dX12_init_488 : decode cX12_init 488 = .ok (.sipush 156, 3) := by decide +kernel
theorem dX12_init_491 : decode cX12_init 491 = .ok (.newarray .int, 2) := by decide +kernel
theorem dX12_init_493 : decode cX12_init 493 = .ok (.putfield 191, 3) := by decide +kernel
theorem dX12_init_496 : decode cX12_init 496 = .ok (.aload_n 0, 1) := by decide +kernel
theorem dX12_init_497 : decode cX12_init 497 = .ok (.sipush 1872, 3) := by decide +kernel
theorem dX12_init_500 : decode cX12_init 500 = .ok (.newarray .int, 2) := by decide +kernel
theorem dX12_init_502 : decode cX12_init 502 = .ok (.putfield 194, 3) := by decide +kernel
theorem dX12_init_505 : decode cX12_init 505 = .ok (.aload_n 0, 1) := by decide +kernel
theorem dX12_init_506 : decode cX12_init 506 = .ok (.sipush 1885, 3) := by decide +kernel
theorem dX12_init_509 : decode cX12_init 509 = .ok (.newarray .int, 2) := by decide +kernel
theorem dX12_init_511 : decode cX12_init 511 = .ok (.putfield 197, 3) := by decide +kernel
theorem dX12_init_514 : decode cX12_init 514 = .ok (.aload_n 0, 1) := by decide +kernel
theorem dX12_init_515 : decode cX12_init 515 = .ok (.bipush 12, 2) := by decide +kernel
theorem dX12_init_517 : decode cX12_init 517 = .ok (.newarray .int, 2) := by decide +kernel
theorem dX12_init_519 : decode cX12_init 519 = .ok (.putfield 200, 3) := by decide +kernel
theorem dX12_init_522 : decode cX12_init 522 = .ok (.aload_n 0, 1) := by decide +kernel
theorem dX12_init_523 : decode cX12_init 523 = .ok (.bipush 12, 2) := by decide +kernel
theorem dX12_init_525 : decode cX12_init 525 = .ok (.newarray .int, 2) := by decide +kernel
theorem dX12_init_527 : decode cX12_init 527 = .ok (.putfield 203, 3) := by decide +kernel
theorem dX12_init_530 : decode cX12_init 530 = .ok (.aload_n 0, 1) := by decide +kernel
theorem dX12_init_531 : decode cX12_init 531 = .ok (.sipush 144, 3) := by decide +kernel
theorem dX12_init_534 : decode cX12_init 534 = .ok (.newarray .int, 2) := by decide +kernel
theorem dX12_init_536 : decode cX12_init 536 = .ok (.putfield 206, 3) := by decide +kernel
theorem dX12_init_539 : decode cX12_init 539 = .ok (.aload_n 0, 1) := by decide +kernel
theorem dX12_init_540 : decode cX12_init 540 = .ok (.bipush 60, 2) := by decide +kernel
theorem dX12_init_542 : decode cX12_init 542 = .ok (.newarray .int, 2) := by decide +kernel
theorem dX12_init_544 : decode cX12_init 544 = .ok (.putfield 209, 3) := by decide +kernel
theorem dX12_init_547 : decode cX12_init 547 = .ok (.aload_n 0, 1) := by decide +kernel
theorem dX12_init_548 : decode cX12_init 548 = .ok (.bipush 60, 2) := by decide +kernel
theorem dX12_init_550 : decode cX12_init 550 = .ok (.newarray .int, 2) := by decide +kernel
theorem dX12_init_552 : decode cX12_init 552 = .ok (.putfield 212, 3) := by decide +kernel
theorem dX12_init_555 : decode cX12_init 555 = .ok (.aload_n 0, 1) := by decide +kernel
theorem dX12_init_556 : decode cX12_init 556 = .ok (.bipush 60, 2) := by decide +kernel
theorem dX12_init_558 : decode cX12_init 558 = .ok (.newarray .int, 2) := by decide +kernel
theorem dX12_init_560 : decode cX12_init 560 = .ok (.putfield 215, 3) := by decide +kernel
theorem dX12_init_563 : decode cX12_init 563 = .ok (.aload_n 0, 1) := by decide +kernel
theorem dX12_init_564 : decode cX12_init 564 = .ok (.bipush 60, 2) := by decide +kernel
theorem dX12_init_566 : decode cX12_init 566 = .ok (.newarray .int, 2) := by decide +kernel
theorem dX12_init_568 : decode cX12_init 568 = .ok (.putfield 218, 3) := by decide +kernel
theorem dX12_init_571 : decode cX12_init 571 = .ok (.aload_n 0, 1) := by decide +kernel
theorem dX12_init_572 : decode cX12_init 572 = .ok (.sipush 180, 3) := by decide +kernel
theorem dX12_init_575 : decode cX12_init 575 = .ok (.newarray .int, 2) := by decide +kernel
theorem dX12_init_577 : decode cX12_init 577 = .ok (.putfield 221, 3) := by decide +kernel
theorem dX12_init_580 : decode cX12_init 580 = .ok (.aload_n 0, 1) := by decide +kernel
theorem dX12_init_581 : decode cX12_init 581 = .ok (.invokevirtual 224, 3) := by decide +kernel
theorem dX12_init_584 : decode cX12_init 584 = .ok (.aload_n 0, 1) := by decide +kernel
theorem dX12_init_585 : decode cX12_init 585 = .ok (.invokevirtual 227, 3) := by decide +kernel
theorem dX12_init_588 : decode cX12_init 588 = .ok (.return_, 1) := by decide +kernel
theorem wM_0 (cA : Nat → ClassId) (h0 : Nat) : wM cA (fun _ => h0) 0 0 = [(h0, .inr (12, (List.range 103).map (fM (fun _ => h0) 0 0)))] := rfl
theorem wM_D {K : List Lk} {cA : Nat → ClassId} {q : Nat → Nat} {σ σ' : St} {A : Nat → Prop} (h : va_D A (xws K cA q σ)) : va_D A (xws K cA q σ') := ((xws_D (σ := σ') (cA := cA) (xD_of h)).weaken (fun _ _ _ ha => xA_of h _ ha))
set_option maxHeartbeats 8000000 in
set_option maxRecDepth 100000 in
theorem k_X12_init {l : Launch} {g : XG} (N : Nat) {σ1 σ2 : St} (hb1 : f_X12_beginDraft σM0 = some σ1) (hb2 : f_X12_takeDraft N σ1 = some σ2) (h0 sz : Nat) : Met l yX12_init (.code yX12_init cX12_init 1 none :: lw_g) { frames := 2, cells := 69, slots := 34257, locals := 200 } (va_Pc [.ref h0] (fun U => U.heap.size = sz ∧ va_P g.D xcl [(h0, .inr (12, (List.range 103).map (fM (fun _ => h0) 0 0)))] U.heap ∧ va_K g.D xcl (xty g.cA) U ∧ va_D (fun _ => True) [(h0, .inr (12, (List.range 103).map (fM (fun _ => h0) 0 0)))] ∧ xcs (va_A [(h0, .inr (12, (List.range 103).map (fM (fun _ => h0) 0 0)))] sz) g U U.heap)) (va_Qv (fun _ : Unit => True) (fun _ t => ∃ q : Nat → Nat, q 0 = h0 ∧ va_P g.D xcl (xws KM g.cA q σ2) t.heap ∧ va_D (va_A [(h0, .inr (12, (List.range 103).map (fM (fun _ => h0) 0 0)))] sz) (xws KM g.cA q σ2)) (va_A [(h0, .inr (12, (List.range 103).map (fM (fun _ => h0) 0 0)))] sz)) 69 34257 (va_A [(h0, .inr (12, (List.range 103).map (fM (fun _ => h0) 0 0)))] sz) := by
  refine Met.ofW (cc := cX12_init) (maxL := 1) (ret := none) pn_X12 rfl ?_
  intro p e s m args below meth c s₁ B hml hv
  obtain ⟨rfl, hsz, hP, hK, hD0, hcs⟩ := hv
  have hx := B.exec
  have hb := B.bytes
  have hr := B.returns
  have hts1 := atoms_spec (ws := .code yX12_init cX12_init 1 none :: lw_g) B.pre
  have hts : ∀ w ∈ lw_g, w.before _ s = true := fun w hw => hts1 w (List.mem_cons_of_mem _ hw)
  have hown : s.vm.findClass RX12 = some m.cls := findClass_of_methodNamed B.named
  have hlocks := B.notSynchronized
  have hin : meth.name = "<init>" := (name_of_methodNamed B.named B.method).1
  subst hsz
  have hD := hD0.self (sz := s.heap.size)
  generalize hAe : va_A [(h0, .inr (12, (List.range 103).map (fM (fun _ => h0) 0 0)))] s.heap.size = A at hD hcs ⊢
  have hA : ∀ q : Nat, s.heap.size ≤ q → A q := fun q h => by rw [← hAe]; exact Or.inr h
  have hS : va_S A s.heap s.heap [] := va_S.rf
  have hP : va_P g.D xcl [(h0, .inr (12, (List.range 103).map (fM (fun _ => h0) 0 0)))] s.heap := hP
  have hl := lv_entry ([.ref h0]) (n := 1) (Nat.le_of_ble_eq_true rfl)
  rw [lg_entry_eq]
  generalize (lg_sl ([.ref h0]) ++ List.replicate (1 - (lg_sl ([.ref h0])).length) Slot.unset).toArray = ls at hl ⊢
  have hl : lv_has ls 1 [(0, .ref h0)] := hl
  refine lv_aload_n hx hb dX12_init_0 rfl (lv_at hl 0 rfl) ?_
  refine W.objInit hx hb hown (hts _ ml_X12_1) (hts _ xoi_i) (hts _ xoi_c) rfl (by rw [hml]; exact hl.1) rfl dX12_init_1 (Nat.le_of_ble_eq_true rfl) (Nat.le_of_ble_eq_true rfl) ?_
  refine W.eq (g2 := F0 m 4 ls []) rfl ?_
  obtain ⟨q0, hq, eq0⟩ : ∃ q : Nat → Nat, q 0 = h0 ∧ q = fun _ => h0 := ⟨_, rfl, rfl⟩
  have hP0 : va_P g.D xcl (wM g.cA q0 0 0) s.heap := by rw [eq0]; exact hP
  have hD0 : va_D A (wM g.cA q0 0 0) := by rw [eq0]; exact hD
  have hS0 := hS
  rw [← hq] at hl
  clear hP hD hS eq0
  refine lv_aload_n hx hb dX12_init_4 rfl (lv_at hl 0 rfl) ?_
  refine lv_sipush (v := 800) hx hb dX12_init_5 rfl ?_
  refine mkM (t := 2) (k := 0) (N := 800) (i := 0) hx hb hts hown hin hK hP0 hD0 hS0 hA (by decide) (by decide) rfl (by decide) rfl rfl fl_12_7 rfl (fun _ => rfl) (fun _ => rfl) (Nat.le_of_ble_eq_true rfl) (Nat.le_of_ble_eq_true rfl) dX12_init_8 dX12_init_10 (fun q1 H1 locs1 e1 hP1 hD1 hS1 => ?_)
  rw [← e1] at hl hq
  clear e1 hP0 hD0 hS0
  refine W.widen (k := 1) (n := 800) (Nat.le_of_ble_eq_true rfl) (Nat.le_of_ble_eq_true rfl) ?_
  refine lv_aload_n hx hb dX12_init_13 rfl (lv_at hl 0 rfl) ?_
  refine lv_iconst (v := (-1)) hx hb dX12_init_14 rfl ?_
  refine mkZ hx hb hts hown hin hK hP1 hD1 hS1 fl_12_13 dX12_init_15 (fun H2 locs2 hP2 hD2 hS2 => ?_)
  clear hP1 hD1 hS1
  refine lv_aload_n hx hb dX12_init_18 rfl (lv_at hl 0 rfl) ?_
  refine lv_bipush (v := 8) hx hb dX12_init_19 rfl ?_
  refine mkM (t := 0) (k := 12) (N := 8) (i := 1) hx hb hts hown hin hK hP2 hD2 hS2 hA (by decide) (by decide) rfl (by decide) rfl rfl fl_12_17 rfl (fun _ => rfl) (fun _ => rfl) (Nat.le_of_ble_eq_true rfl) (Nat.le_of_ble_eq_true rfl) dX12_init_21 dX12_init_23 (fun q3 H3 locs3 e1 hP3 hD3 hS3 => ?_)
  rw [← e1] at hl hq
  clear e1 hP2 hD2 hS2
  refine W.widen (k := 2) (n := 808) (Nat.le_of_ble_eq_true rfl) (Nat.le_of_ble_eq_true rfl) ?_
  refine lv_aload_n hx hb dX12_init_26 rfl (lv_at hl 0 rfl) ?_
  refine lv_iconst (v := 2) hx hb dX12_init_27 rfl ?_
  refine mkM (t := 0) (k := 13) (N := 2) (i := 2) hx hb hts hown hin hK hP3 hD3 hS3 hA (by decide) (by decide) rfl (by decide) rfl rfl fl_12_21 rfl (fun _ => rfl) (fun _ => rfl) (Nat.le_of_ble_eq_true rfl) (Nat.le_of_ble_eq_true rfl) dX12_init_28 dX12_init_30 (fun q4 H4 locs4 e1 hP4 hD4 hS4 => ?_)
  rw [← e1] at hl hq
  clear e1 hP3 hD3 hS3
  refine W.widen (k := 3) (n := 810) (Nat.le_of_ble_eq_true rfl) (Nat.le_of_ble_eq_true rfl) ?_
  refine lv_aload_n hx hb dX12_init_33 rfl (lv_at hl 0 rfl) ?_
  refine lv_bipush (v := 80) hx hb dX12_init_34 rfl ?_
  refine mkM (t := 1) (k := 14) (N := 80) (i := 3) hx hb hts hown hin hK hP4 hD4 hS4 hA (by decide) (by decide) rfl (by decide) rfl rfl fl_12_24 rfl (fun _ => rfl) (fun _ => rfl) (Nat.le_of_ble_eq_true rfl) (Nat.le_of_ble_eq_true rfl) dX12_init_36 dX12_init_38 (fun q5 H5 locs5 e1 hP5 hD5 hS5 => ?_)
  rw [← e1] at hl hq
  clear e1 hP4 hD4 hS4
  refine W.widen (k := 4) (n := 890) (Nat.le_of_ble_eq_true rfl) (Nat.le_of_ble_eq_true rfl) ?_
  refine lv_aload_n hx hb dX12_init_41 rfl (lv_at hl 0 rfl) ?_
  refine lv_bipush (v := 80) hx hb dX12_init_42 rfl ?_
  refine mkM (t := 0) (k := 15) (N := 80) (i := 4) hx hb hts hown hin hK hP5 hD5 hS5 hA (by decide) (by decide) rfl (by decide) rfl rfl fl_12_28 rfl (fun _ => rfl) (fun _ => rfl) (Nat.le_of_ble_eq_true rfl) (Nat.le_of_ble_eq_true rfl) dX12_init_44 dX12_init_46 (fun q6 H6 locs6 e1 hP6 hD6 hS6 => ?_)
  rw [← e1] at hl hq
  clear e1 hP5 hD5 hS5
  refine W.widen (k := 5) (n := 970) (Nat.le_of_ble_eq_true rfl) (Nat.le_of_ble_eq_true rfl) ?_
  refine lv_aload_n hx hb dX12_init_49 rfl (lv_at hl 0 rfl) ?_
  refine lv_bipush (v := 80) hx hb dX12_init_50 rfl ?_
  refine mkM (t := 0) (k := 16) (N := 80) (i := 5) hx hb hts hown hin hK hP6 hD6 hS6 hA (by decide) (by decide) rfl (by decide) rfl rfl fl_12_31 rfl (fun _ => rfl) (fun _ => rfl) (Nat.le_of_ble_eq_true rfl) (Nat.le_of_ble_eq_true rfl) dX12_init_52 dX12_init_54 (fun q7 H7 locs7 e1 hP7 hD7 hS7 => ?_)
  rw [← e1] at hl hq
  clear e1 hP6 hD6 hS6
  refine W.widen (k := 6) (n := 1050) (Nat.le_of_ble_eq_true rfl) (Nat.le_of_ble_eq_true rfl) ?_
  refine lv_aload_n hx hb dX12_init_57 rfl (lv_at hl 0 rfl) ?_
  refine lv_bipush (v := 80) hx hb dX12_init_58 rfl ?_
  refine mkM (t := 0) (k := 17) (N := 80) (i := 6) hx hb hts hown hin hK hP7 hD7 hS7 hA (by decide) (by decide) rfl (by decide) rfl rfl fl_12_34 rfl (fun _ => rfl) (fun _ => rfl) (Nat.le_of_ble_eq_true rfl) (Nat.le_of_ble_eq_true rfl) dX12_init_60 dX12_init_62 (fun q8 H8 locs8 e1 hP8 hD8 hS8 => ?_)
  rw [← e1] at hl hq
  clear e1 hP7 hD7 hS7
  refine W.widen (k := 7) (n := 1130) (Nat.le_of_ble_eq_true rfl) (Nat.le_of_ble_eq_true rfl) ?_
  refine lv_aload_n hx hb dX12_init_65 rfl (lv_at hl 0 rfl) ?_
  refine lv_bipush (v := 80) hx hb dX12_init_66 rfl ?_
  refine mkM (t := 0) (k := 18) (N := 80) (i := 7) hx hb hts hown hin hK hP8 hD8 hS8 hA (by decide) (by decide) rfl (by decide) rfl rfl fl_12_37 rfl (fun _ => rfl) (fun _ => rfl) (Nat.le_of_ble_eq_true rfl) (Nat.le_of_ble_eq_true rfl) dX12_init_68 dX12_init_70 (fun q9 H9 locs9 e1 hP9 hD9 hS9 => ?_)
  rw [← e1] at hl hq
  clear e1 hP8 hD8 hS8
  refine W.widen (k := 8) (n := 1210) (Nat.le_of_ble_eq_true rfl) (Nat.le_of_ble_eq_true rfl) ?_
  refine lv_aload_n hx hb dX12_init_73 rfl (lv_at hl 0 rfl) ?_
  refine lv_sipush (v := 240) hx hb dX12_init_74 rfl ?_
  refine mkM (t := 0) (k := 19) (N := 240) (i := 8) hx hb hts hown hin hK hP9 hD9 hS9 hA (by decide) (by decide) rfl (by decide) rfl rfl fl_12_40 rfl (fun _ => rfl) (fun _ => rfl) (Nat.le_of_ble_eq_true rfl) (Nat.le_of_ble_eq_true rfl) dX12_init_77 dX12_init_79 (fun q10 H10 locs10 e1 hP10 hD10 hS10 => ?_)
  rw [← e1] at hl hq
  clear e1 hP9 hD9 hS9
  refine W.widen (k := 9) (n := 1450) (Nat.le_of_ble_eq_true rfl) (Nat.le_of_ble_eq_true rfl) ?_
  refine lv_aload_n hx hb dX12_init_82 rfl (lv_at hl 0 rfl) ?_
  refine lv_bipush (v := 80) hx hb dX12_init_83 rfl ?_
  refine mkM (t := 1) (k := 20) (N := 80) (i := 9) hx hb hts hown hin hK hP10 hD10 hS10 hA (by decide) (by decide) rfl (by decide) rfl rfl fl_12_43 rfl (fun _ => rfl) (fun _ => rfl) (Nat.le_of_ble_eq_true rfl) (Nat.le_of_ble_eq_true rfl) dX12_init_85 dX12_init_87 (fun q11 H11 locs11 e1 hP11 hD11 hS11 => ?_)
  rw [← e1] at hl hq
  clear e1 hP10 hD10 hS10
  refine W.widen (k := 10) (n := 1530) (Nat.le_of_ble_eq_true rfl) (Nat.le_of_ble_eq_true rfl) ?_
  refine lv_aload_n hx hb dX12_init_90 rfl (lv_at hl 0 rfl) ?_
  refine lv_sipush (v := 400) hx hb dX12_init_91 rfl ?_
  refine mkM (t := 0) (k := 22) (N := 400) (i := 10) hx hb hts hown hin hK hP11 hD11 hS11 hA (by decide) (by decide) rfl (by decide) rfl rfl fl_12_46 rfl (fun _ => rfl) (fun _ => rfl) (Nat.le_of_ble_eq_true rfl) (Nat.le_of_ble_eq_true rfl) dX12_init_94 dX12_init_96 (fun q12 H12 locs12 e1 hP12 hD12 hS12 => ?_)
  rw [← e1] at hl hq
  clear e1 hP11 hD11 hS11
  refine W.widen (k := 11) (n := 1930) (Nat.le_of_ble_eq_true rfl) (Nat.le_of_ble_eq_true rfl) ?_
  refine lv_aload_n hx hb dX12_init_99 rfl (lv_at hl 0 rfl) ?_
  refine lv_sipush (v := 400) hx hb dX12_init_100 rfl ?_
  refine mkM (t := 0) (k := 23) (N := 400) (i := 11) hx hb hts hown hin hK hP12 hD12 hS12 hA (by decide) (by decide) rfl (by decide) rfl rfl fl_12_49 rfl (fun _ => rfl) (fun _ => rfl) (Nat.le_of_ble_eq_true rfl) (Nat.le_of_ble_eq_true rfl) dX12_init_103 dX12_init_105 (fun q13 H13 locs13 e1 hP13 hD13 hS13 => ?_)
  rw [← e1] at hl hq
  clear e1 hP12 hD12 hS12
  refine W.widen (k := 12) (n := 2330) (Nat.le_of_ble_eq_true rfl) (Nat.le_of_ble_eq_true rfl) ?_
  refine lv_aload_n hx hb dX12_init_108 rfl (lv_at hl 0 rfl) ?_
  refine lv_sipush (v := 400) hx hb dX12_init_109 rfl ?_
  refine mkM (t := 0) (k := 24) (N := 400) (i := 12) hx hb hts hown hin hK hP13 hD13 hS13 hA (by decide) (by decide) rfl (by decide) rfl rfl fl_12_52 rfl (fun _ => rfl) (fun _ => rfl) (Nat.le_of_ble_eq_true rfl) (Nat.le_of_ble_eq_true rfl) dX12_init_112 dX12_init_114 (fun q14 H14 locs14 e1 hP14 hD14 hS14 => ?_)
  rw [← e1] at hl hq
  clear e1 hP13 hD13 hS13
  refine W.widen (k := 13) (n := 2730) (Nat.le_of_ble_eq_true rfl) (Nat.le_of_ble_eq_true rfl) ?_
  refine lv_aload_n hx hb dX12_init_117 rfl (lv_at hl 0 rfl) ?_
  refine lv_sipush (v := 400) hx hb dX12_init_118 rfl ?_
  refine mkM (t := 0) (k := 25) (N := 400) (i := 13) hx hb hts hown hin hK hP14 hD14 hS14 hA (by decide) (by decide) rfl (by decide) rfl rfl fl_12_55 rfl (fun _ => rfl) (fun _ => rfl) (Nat.le_of_ble_eq_true rfl) (Nat.le_of_ble_eq_true rfl) dX12_init_121 dX12_init_123 (fun q15 H15 locs15 e1 hP15 hD15 hS15 => ?_)
  rw [← e1] at hl hq
  clear e1 hP14 hD14 hS14
  refine W.widen (k := 14) (n := 3130) (Nat.le_of_ble_eq_true rfl) (Nat.le_of_ble_eq_true rfl) ?_
  refine lv_aload_n hx hb dX12_init_126 rfl (lv_at hl 0 rfl) ?_
  refine lv_sipush (v := 400) hx hb dX12_init_127 rfl ?_
  refine mkM (t := 0) (k := 26) (N := 400) (i := 14) hx hb hts hown hin hK hP15 hD15 hS15 hA (by decide) (by decide) rfl (by decide) rfl rfl fl_12_58 rfl (fun _ => rfl) (fun _ => rfl) (Nat.le_of_ble_eq_true rfl) (Nat.le_of_ble_eq_true rfl) dX12_init_130 dX12_init_132 (fun q16 H16 locs16 e1 hP16 hD16 hS16 => ?_)
  rw [← e1] at hl hq
  clear e1 hP15 hD15 hS15
  refine W.widen (k := 15) (n := 3530) (Nat.le_of_ble_eq_true rfl) (Nat.le_of_ble_eq_true rfl) ?_
  refine lv_aload_n hx hb dX12_init_135 rfl (lv_at hl 0 rfl) ?_
  refine lv_sipush (v := 400) hx hb dX12_init_136 rfl ?_
  refine mkM (t := 0) (k := 27) (N := 400) (i := 15) hx hb hts hown hin hK hP16 hD16 hS16 hA (by decide) (by decide) rfl (by decide) rfl rfl fl_12_61 rfl (fun _ => rfl) (fun _ => rfl) (Nat.le_of_ble_eq_true rfl) (Nat.le_of_ble_eq_true rfl) dX12_init_139 dX12_init_141 (fun q17 H17 locs17 e1 hP17 hD17 hS17 => ?_)
  rw [← e1] at hl hq
  clear e1 hP16 hD16 hS16
  refine W.widen (k := 16) (n := 3930) (Nat.le_of_ble_eq_true rfl) (Nat.le_of_ble_eq_true rfl) ?_
  refine lv_aload_n hx hb dX12_init_144 rfl (lv_at hl 0 rfl) ?_
  refine lv_sipush (v := 400) hx hb dX12_init_145 rfl ?_
  refine mkM (t := 0) (k := 28) (N := 400) (i := 16) hx hb hts hown hin hK hP17 hD17 hS17 hA (by decide) (by decide) rfl (by decide) rfl rfl fl_12_64 rfl (fun _ => rfl) (fun _ => rfl) (Nat.le_of_ble_eq_true rfl) (Nat.le_of_ble_eq_true rfl) dX12_init_148 dX12_init_150 (fun q18 H18 locs18 e1 hP18 hD18 hS18 => ?_)
  rw [← e1] at hl hq
  clear e1 hP17 hD17 hS17
  refine W.widen (k := 17) (n := 4330) (Nat.le_of_ble_eq_true rfl) (Nat.le_of_ble_eq_true rfl) ?_
  refine lv_aload_n hx hb dX12_init_153 rfl (lv_at hl 0 rfl) ?_
  refine lv_sipush (v := 400) hx hb dX12_init_154 rfl ?_
  refine mkM (t := 0) (k := 29) (N := 400) (i := 17) hx hb hts hown hin hK hP18 hD18 hS18 hA (by decide) (by decide) rfl (by decide) rfl rfl fl_12_67 rfl (fun _ => rfl) (fun _ => rfl) (Nat.le_of_ble_eq_true rfl) (Nat.le_of_ble_eq_true rfl) dX12_init_157 dX12_init_159 (fun q19 H19 locs19 e1 hP19 hD19 hS19 => ?_)
  rw [← e1] at hl hq
  clear e1 hP18 hD18 hS18
  refine W.widen (k := 18) (n := 4730) (Nat.le_of_ble_eq_true rfl) (Nat.le_of_ble_eq_true rfl) ?_
  refine lv_aload_n hx hb dX12_init_162 rfl (lv_at hl 0 rfl) ?_
  refine lv_sipush (v := 400) hx hb dX12_init_163 rfl ?_
  refine mkM (t := 0) (k := 30) (N := 400) (i := 18) hx hb hts hown hin hK hP19 hD19 hS19 hA (by decide) (by decide) rfl (by decide) rfl rfl fl_12_70 rfl (fun _ => rfl) (fun _ => rfl) (Nat.le_of_ble_eq_true rfl) (Nat.le_of_ble_eq_true rfl) dX12_init_166 dX12_init_168 (fun q20 H20 locs20 e1 hP20 hD20 hS20 => ?_)
  rw [← e1] at hl hq
  clear e1 hP19 hD19 hS19
  refine W.widen (k := 19) (n := 5130) (Nat.le_of_ble_eq_true rfl) (Nat.le_of_ble_eq_true rfl) ?_
  refine lv_aload_n hx hb dX12_init_171 rfl (lv_at hl 0 rfl) ?_
  refine lv_bipush (v := 12) hx hb dX12_init_172 rfl ?_
  refine mkM (t := 0) (k := 37) (N := 12) (i := 19) hx hb hts hown hin hK hP20 hD20 hS20 hA (by decide) (by decide) rfl (by decide) rfl rfl fl_12_73 rfl (fun _ => rfl) (fun _ => rfl) (Nat.le_of_ble_eq_true rfl) (Nat.le_of_ble_eq_true rfl) dX12_init_174 dX12_init_176 (fun q21 H21 locs21 e1 hP21 hD21 hS21 => ?_)
  rw [← e1] at hl hq
  clear e1 hP20 hD20 hS20
  refine W.widen (k := 20) (n := 5142) (Nat.le_of_ble_eq_true rfl) (Nat.le_of_ble_eq_true rfl) ?_
  refine lv_aload_n hx hb dX12_init_179 rfl (lv_at hl 0 rfl) ?_
  refine lv_bipush (v := 12) hx hb dX12_init_180 rfl ?_
  refine mkM (t := 0) (k := 38) (N := 12) (i := 20) hx hb hts hown hin hK hP21 hD21 hS21 hA (by decide) (by decide) rfl (by decide) rfl rfl fl_12_76 rfl (fun _ => rfl) (fun _ => rfl) (Nat.le_of_ble_eq_true rfl) (Nat.le_of_ble_eq_true rfl) dX12_init_182 dX12_init_184 (fun q22 H22 locs22 e1 hP22 hD22 hS22 => ?_)
  rw [← e1] at hl hq
  clear e1 hP21 hD21 hS21
  refine W.widen (k := 21) (n := 5154) (Nat.le_of_ble_eq_true rfl) (Nat.le_of_ble_eq_true rfl) ?_
  refine lv_aload_n hx hb dX12_init_187 rfl (lv_at hl 0 rfl) ?_
  refine lv_bipush (v := 12) hx hb dX12_init_188 rfl ?_
  refine mkM (t := 0) (k := 39) (N := 12) (i := 21) hx hb hts hown hin hK hP22 hD22 hS22 hA (by decide) (by decide) rfl (by decide) rfl rfl fl_12_79 rfl (fun _ => rfl) (fun _ => rfl) (Nat.le_of_ble_eq_true rfl) (Nat.le_of_ble_eq_true rfl) dX12_init_190 dX12_init_192 (fun q23 H23 locs23 e1 hP23 hD23 hS23 => ?_)
  rw [← e1] at hl hq
  clear e1 hP22 hD22 hS22
  refine W.widen (k := 22) (n := 5166) (Nat.le_of_ble_eq_true rfl) (Nat.le_of_ble_eq_true rfl) ?_
  refine lv_aload_n hx hb dX12_init_195 rfl (lv_at hl 0 rfl) ?_
  refine lv_bipush (v := 24) hx hb dX12_init_196 rfl ?_
  refine mkM (t := 0) (k := 40) (N := 24) (i := 22) hx hb hts hown hin hK hP23 hD23 hS23 hA (by decide) (by decide) rfl (by decide) rfl rfl fl_12_82 rfl (fun _ => rfl) (fun _ => rfl) (Nat.le_of_ble_eq_true rfl) (Nat.le_of_ble_eq_true rfl) dX12_init_198 dX12_init_200 (fun q24 H24 locs24 e1 hP24 hD24 hS24 => ?_)
  rw [← e1] at hl hq
  clear e1 hP23 hD23 hS23
  refine W.widen (k := 23) (n := 5190) (Nat.le_of_ble_eq_true rfl) (Nat.le_of_ble_eq_true rfl) ?_
  refine lv_aload_n hx hb dX12_init_203 rfl (lv_at hl 0 rfl) ?_
  refine lv_bipush (v := 24) hx hb dX12_init_204 rfl ?_
  refine mkM (t := 0) (k := 41) (N := 24) (i := 23) hx hb hts hown hin hK hP24 hD24 hS24 hA (by decide) (by decide) rfl (by decide) rfl rfl fl_12_85 rfl (fun _ => rfl) (fun _ => rfl) (Nat.le_of_ble_eq_true rfl) (Nat.le_of_ble_eq_true rfl) dX12_init_206 dX12_init_208 (fun q25 H25 locs25 e1 hP25 hD25 hS25 => ?_)
  rw [← e1] at hl hq
  clear e1 hP24 hD24 hS24
  refine W.widen (k := 24) (n := 5214) (Nat.le_of_ble_eq_true rfl) (Nat.le_of_ble_eq_true rfl) ?_
  refine lv_aload_n hx hb dX12_init_211 rfl (lv_at hl 0 rfl) ?_
  refine lv_bipush (v := 24) hx hb dX12_init_212 rfl ?_
  refine mkM (t := 0) (k := 42) (N := 24) (i := 24) hx hb hts hown hin hK hP25 hD25 hS25 hA (by decide) (by decide) rfl (by decide) rfl rfl fl_12_88 rfl (fun _ => rfl) (fun _ => rfl) (Nat.le_of_ble_eq_true rfl) (Nat.le_of_ble_eq_true rfl) dX12_init_214 dX12_init_216 (fun q26 H26 locs26 e1 hP26 hD26 hS26 => ?_)
  rw [← e1] at hl hq
  clear e1 hP25 hD25 hS25
  refine W.widen (k := 25) (n := 5238) (Nat.le_of_ble_eq_true rfl) (Nat.le_of_ble_eq_true rfl) ?_
  refine lv_aload_n hx hb dX12_init_219 rfl (lv_at hl 0 rfl) ?_
  refine lv_bipush (v := 24) hx hb dX12_init_220 rfl ?_
  refine mkM (t := 0) (k := 43) (N := 24) (i := 25) hx hb hts hown hin hK hP26 hD26 hS26 hA (by decide) (by decide) rfl (by decide) rfl rfl fl_12_91 rfl (fun _ => rfl) (fun _ => rfl) (Nat.le_of_ble_eq_true rfl) (Nat.le_of_ble_eq_true rfl) dX12_init_222 dX12_init_224 (fun q27 H27 locs27 e1 hP27 hD27 hS27 => ?_)
  rw [← e1] at hl hq
  clear e1 hP26 hD26 hS26
  refine W.widen (k := 26) (n := 5262) (Nat.le_of_ble_eq_true rfl) (Nat.le_of_ble_eq_true rfl) ?_
  refine lv_aload_n hx hb dX12_init_227 rfl (lv_at hl 0 rfl) ?_
  refine lv_bipush (v := 24) hx hb dX12_init_228 rfl ?_
  refine mkM (t := 0) (k := 44) (N := 24) (i := 26) hx hb hts hown hin hK hP27 hD27 hS27 hA (by decide) (by decide) rfl (by decide) rfl rfl fl_12_94 rfl (fun _ => rfl) (fun _ => rfl) (Nat.le_of_ble_eq_true rfl) (Nat.le_of_ble_eq_true rfl) dX12_init_230 dX12_init_232 (fun q28 H28 locs28 e1 hP28 hD28 hS28 => ?_)
  rw [← e1] at hl hq
  clear e1 hP27 hD27 hS27
  refine W.widen (k := 27) (n := 5286) (Nat.le_of_ble_eq_true rfl) (Nat.le_of_ble_eq_true rfl) ?_
  refine lv_aload_n hx hb dX12_init_235 rfl (lv_at hl 0 rfl) ?_
  refine lv_bipush (v := 24) hx hb dX12_init_236 rfl ?_
  refine mkM (t := 0) (k := 45) (N := 24) (i := 27) hx hb hts hown hin hK hP28 hD28 hS28 hA (by decide) (by decide) rfl (by decide) rfl rfl fl_12_97 rfl (fun _ => rfl) (fun _ => rfl) (Nat.le_of_ble_eq_true rfl) (Nat.le_of_ble_eq_true rfl) dX12_init_238 dX12_init_240 (fun q29 H29 locs29 e1 hP29 hD29 hS29 => ?_)
  rw [← e1] at hl hq
  clear e1 hP28 hD28 hS28
  refine W.widen (k := 28) (n := 5310) (Nat.le_of_ble_eq_true rfl) (Nat.le_of_ble_eq_true rfl) ?_
  refine lv_aload_n hx hb dX12_init_243 rfl (lv_at hl 0 rfl) ?_
  refine lv_bipush (v := 12) hx hb dX12_init_244 rfl ?_
  refine mkM (t := 0) (k := 47) (N := 12) (i := 28) hx hb hts hown hin hK hP29 hD29 hS29 hA (by decide) (by decide) rfl (by decide) rfl rfl fl_12_100 rfl (fun _ => rfl) (fun _ => rfl) (Nat.le_of_ble_eq_true rfl) (Nat.le_of_ble_eq_true rfl) dX12_init_246 dX12_init_248 (fun q30 H30 locs30 e1 hP30 hD30 hS30 => ?_)
  rw [← e1] at hl hq
  clear e1 hP29 hD29 hS29
  refine W.widen (k := 29) (n := 5322) (Nat.le_of_ble_eq_true rfl) (Nat.le_of_ble_eq_true rfl) ?_
  refine lv_aload_n hx hb dX12_init_251 rfl (lv_at hl 0 rfl) ?_
  refine lv_bipush (v := 40) hx hb dX12_init_252 rfl ?_
  refine mkM (t := 1) (k := 50) (N := 40) (i := 29) hx hb hts hown hin hK hP30 hD30 hS30 hA (by decide) (by decide) rfl (by decide) rfl rfl fl_12_103 rfl (fun _ => rfl) (fun _ => rfl) (Nat.le_of_ble_eq_true rfl) (Nat.le_of_ble_eq_true rfl) dX12_init_254 dX12_init_256 (fun q31 H31 locs31 e1 hP31 hD31 hS31 => ?_)
  rw [← e1] at hl hq
  clear e1 hP30 hD30 hS30
  refine W.widen (k := 30) (n := 5362) (Nat.le_of_ble_eq_true rfl) (Nat.le_of_ble_eq_true rfl) ?_
  refine lv_aload_n hx hb dX12_init_259 rfl (lv_at hl 0 rfl) ?_
  refine lv_bipush (v := 40) hx hb dX12_init_260 rfl ?_
  refine mkM (t := 0) (k := 51) (N := 40) (i := 30) hx hb hts hown hin hK hP31 hD31 hS31 hA (by decide) (by decide) rfl (by decide) rfl rfl fl_12_106 rfl (fun _ => rfl) (fun _ => rfl) (Nat.le_of_ble_eq_true rfl) (Nat.le_of_ble_eq_true rfl) dX12_init_262 dX12_init_264 (fun q32 H32 locs32 e1 hP32 hD32 hS32 => ?_)
  rw [← e1] at hl hq
  clear e1 hP31 hD31 hS31
  refine W.widen (k := 31) (n := 5402) (Nat.le_of_ble_eq_true rfl) (Nat.le_of_ble_eq_true rfl) ?_
  refine lv_aload_n hx hb dX12_init_267 rfl (lv_at hl 0 rfl) ?_
  refine lv_sipush (v := 320) hx hb dX12_init_268 rfl ?_
  refine mkM (t := 0) (k := 52) (N := 320) (i := 31) hx hb hts hown hin hK hP32 hD32 hS32 hA (by decide) (by decide) rfl (by decide) rfl rfl fl_12_109 rfl (fun _ => rfl) (fun _ => rfl) (Nat.le_of_ble_eq_true rfl) (Nat.le_of_ble_eq_true rfl) dX12_init_271 dX12_init_273 (fun q33 H33 locs33 e1 hP33 hD33 hS33 => ?_)
  rw [← e1] at hl hq
  clear e1 hP32 hD32 hS32
  refine W.widen (k := 32) (n := 5722) (Nat.le_of_ble_eq_true rfl) (Nat.le_of_ble_eq_true rfl) ?_
  refine lv_aload_n hx hb dX12_init_276 rfl (lv_at hl 0 rfl) ?_
  refine lv_bipush (v := 40) hx hb dX12_init_277 rfl ?_
  refine mkM (t := 1) (k := 53) (N := 40) (i := 32) hx hb hts hown hin hK hP33 hD33 hS33 hA (by decide) (by decide) rfl (by decide) rfl rfl fl_12_112 rfl (fun _ => rfl) (fun _ => rfl) (Nat.le_of_ble_eq_true rfl) (Nat.le_of_ble_eq_true rfl) dX12_init_279 dX12_init_281 (fun q34 H34 locs34 e1 hP34 hD34 hS34 => ?_)
  rw [← e1] at hl hq
  clear e1 hP33 hD33 hS33
  refine W.widen (k := 33) (n := 5762) (Nat.le_of_ble_eq_true rfl) (Nat.le_of_ble_eq_true rfl) ?_
  refine lv_aload_n hx hb dX12_init_284 rfl (lv_at hl 0 rfl) ?_
  refine lv_bipush (v := 40) hx hb dX12_init_285 rfl ?_
  refine mkM (t := 0) (k := 54) (N := 40) (i := 33) hx hb hts hown hin hK hP34 hD34 hS34 hA (by decide) (by decide) rfl (by decide) rfl rfl fl_12_115 rfl (fun _ => rfl) (fun _ => rfl) (Nat.le_of_ble_eq_true rfl) (Nat.le_of_ble_eq_true rfl) dX12_init_287 dX12_init_289 (fun q35 H35 locs35 e1 hP35 hD35 hS35 => ?_)
  rw [← e1] at hl hq
  clear e1 hP34 hD34 hS34
  refine W.widen (k := 34) (n := 5802) (Nat.le_of_ble_eq_true rfl) (Nat.le_of_ble_eq_true rfl) ?_
  refine lv_aload_n hx hb dX12_init_292 rfl (lv_at hl 0 rfl) ?_
  refine lv_bipush (v := 40) hx hb dX12_init_293 rfl ?_
  refine mkM (t := 0) (k := 55) (N := 40) (i := 34) hx hb hts hown hin hK hP35 hD35 hS35 hA (by decide) (by decide) rfl (by decide) rfl rfl fl_12_118 rfl (fun _ => rfl) (fun _ => rfl) (Nat.le_of_ble_eq_true rfl) (Nat.le_of_ble_eq_true rfl) dX12_init_295 dX12_init_297 (fun q36 H36 locs36 e1 hP36 hD36 hS36 => ?_)
  rw [← e1] at hl hq
  clear e1 hP35 hD35 hS35
  refine W.widen (k := 35) (n := 5842) (Nat.le_of_ble_eq_true rfl) (Nat.le_of_ble_eq_true rfl) ?_
  refine lv_aload_n hx hb dX12_init_300 rfl (lv_at hl 0 rfl) ?_
  refine lv_bipush (v := 120) hx hb dX12_init_301 rfl ?_
  refine mkM (t := 0) (k := 56) (N := 120) (i := 35) hx hb hts hown hin hK hP36 hD36 hS36 hA (by decide) (by decide) rfl (by decide) rfl rfl fl_12_121 rfl (fun _ => rfl) (fun _ => rfl) (Nat.le_of_ble_eq_true rfl) (Nat.le_of_ble_eq_true rfl) dX12_init_303 dX12_init_305 (fun q37 H37 locs37 e1 hP37 hD37 hS37 => ?_)
  rw [← e1] at hl hq
  clear e1 hP36 hD36 hS36
  refine W.widen (k := 36) (n := 5962) (Nat.le_of_ble_eq_true rfl) (Nat.le_of_ble_eq_true rfl) ?_
  refine lv_aload_n hx hb dX12_init_308 rfl (lv_at hl 0 rfl) ?_
  refine lv_sipush (v := 234) hx hb dX12_init_309 rfl ?_
  refine mkM (t := 0) (k := 57) (N := 234) (i := 36) hx hb hts hown hin hK hP37 hD37 hS37 hA (by decide) (by decide) rfl (by decide) rfl rfl fl_12_124 rfl (fun _ => rfl) (fun _ => rfl) (Nat.le_of_ble_eq_true rfl) (Nat.le_of_ble_eq_true rfl) dX12_init_312 dX12_init_314 (fun q38 H38 locs38 e1 hP38 hD38 hS38 => ?_)
  rw [← e1] at hl hq
  clear e1 hP37 hD37 hS37
  refine W.widen (k := 37) (n := 6196) (Nat.le_of_ble_eq_true rfl) (Nat.le_of_ble_eq_true rfl) ?_
  refine lv_aload_n hx hb dX12_init_317 rfl (lv_at hl 0 rfl) ?_
  refine lv_bipush (v := 9) hx hb dX12_init_318 rfl ?_
  refine mkM (t := 0) (k := 58) (N := 9) (i := 37) hx hb hts hown hin hK hP38 hD38 hS38 hA (by decide) (by decide) rfl (by decide) rfl rfl fl_12_127 rfl (fun _ => rfl) (fun _ => rfl) (Nat.le_of_ble_eq_true rfl) (Nat.le_of_ble_eq_true rfl) dX12_init_320 dX12_init_322 (fun q39 H39 locs39 e1 hP39 hD39 hS39 => ?_)
  rw [← e1] at hl hq
  clear e1 hP38 hD38 hS38
  refine W.widen (k := 38) (n := 6205) (Nat.le_of_ble_eq_true rfl) (Nat.le_of_ble_eq_true rfl) ?_
  refine lv_aload_n hx hb dX12_init_325 rfl (lv_at hl 0 rfl) ?_
  refine lv_bipush (v := 12) hx hb dX12_init_326 rfl ?_
  refine mkM (t := 0) (k := 59) (N := 12) (i := 38) hx hb hts hown hin hK hP39 hD39 hS39 hA (by decide) (by decide) rfl (by decide) rfl rfl fl_12_130 rfl (fun _ => rfl) (fun _ => rfl) (Nat.le_of_ble_eq_true rfl) (Nat.le_of_ble_eq_true rfl) dX12_init_328 dX12_init_330 (fun q40 H40 locs40 e1 hP40 hD40 hS40 => ?_)
  rw [← e1] at hl hq
  clear e1 hP39 hD39 hS39
  refine W.widen (k := 39) (n := 6217) (Nat.le_of_ble_eq_true rfl) (Nat.le_of_ble_eq_true rfl) ?_
  refine lv_aload_n hx hb dX12_init_333 rfl (lv_at hl 0 rfl) ?_
  refine lv_bipush (v := 9) hx hb dX12_init_334 rfl ?_
  refine mkM (t := 0) (k := 64) (N := 9) (i := 39) hx hb hts hown hin hK hP40 hD40 hS40 hA (by decide) (by decide) rfl (by decide) rfl rfl fl_12_133 rfl (fun _ => rfl) (fun _ => rfl) (Nat.le_of_ble_eq_true rfl) (Nat.le_of_ble_eq_true rfl) dX12_init_336 dX12_init_338 (fun q41 H41 locs41 e1 hP41 hD41 hS41 => ?_)
  rw [← e1] at hl hq
  clear e1 hP40 hD40 hS40
  refine W.widen (k := 40) (n := 6226) (Nat.le_of_ble_eq_true rfl) (Nat.le_of_ble_eq_true rfl) ?_
  refine lv_aload_n hx hb dX12_init_341 rfl (lv_at hl 0 rfl) ?_
  refine lv_bipush (v := 9) hx hb dX12_init_342 rfl ?_
  refine mkM (t := 0) (k := 65) (N := 9) (i := 40) hx hb hts hown hin hK hP41 hD41 hS41 hA (by decide) (by decide) rfl (by decide) rfl rfl fl_12_136 rfl (fun _ => rfl) (fun _ => rfl) (Nat.le_of_ble_eq_true rfl) (Nat.le_of_ble_eq_true rfl) dX12_init_344 dX12_init_346 (fun q42 H42 locs42 e1 hP42 hD42 hS42 => ?_)
  rw [← e1] at hl hq
  clear e1 hP41 hD41 hS41
  refine W.widen (k := 41) (n := 6235) (Nat.le_of_ble_eq_true rfl) (Nat.le_of_ble_eq_true rfl) ?_
  refine lv_aload_n hx hb dX12_init_349 rfl (lv_at hl 0 rfl) ?_
  refine lv_bipush (v := 9) hx hb dX12_init_350 rfl ?_
  refine mkM (t := 0) (k := 66) (N := 9) (i := 41) hx hb hts hown hin hK hP42 hD42 hS42 hA (by decide) (by decide) rfl (by decide) rfl rfl fl_12_139 rfl (fun _ => rfl) (fun _ => rfl) (Nat.le_of_ble_eq_true rfl) (Nat.le_of_ble_eq_true rfl) dX12_init_352 dX12_init_354 (fun q43 H43 locs43 e1 hP43 hD43 hS43 => ?_)
  rw [← e1] at hl hq
  clear e1 hP42 hD42 hS42
  refine W.widen (k := 42) (n := 6244) (Nat.le_of_ble_eq_true rfl) (Nat.le_of_ble_eq_true rfl) ?_
  refine lv_aload_n hx hb dX12_init_357 rfl (lv_at hl 0 rfl) ?_
  refine lv_bipush (v := 10) hx hb dX12_init_358 rfl ?_
  refine mkM (t := 0) (k := 67) (N := 10) (i := 42) hx hb hts hown hin hK hP43 hD43 hS43 hA (by decide) (by decide) rfl (by decide) rfl rfl fl_12_142 rfl (fun _ => rfl) (fun _ => rfl) (Nat.le_of_ble_eq_true rfl) (Nat.le_of_ble_eq_true rfl) dX12_init_360 dX12_init_362 (fun q44 H44 locs44 e1 hP44 hD44 hS44 => ?_)
  rw [← e1] at hl hq
  clear e1 hP43 hD43 hS43
  refine W.widen (k := 43) (n := 6254) (Nat.le_of_ble_eq_true rfl) (Nat.le_of_ble_eq_true rfl) ?_
  refine lv_aload_n hx hb dX12_init_365 rfl (lv_at hl 0 rfl) ?_
  refine lv_bipush (v := 24) hx hb dX12_init_366 rfl ?_
  refine mkM (t := 0) (k := 70) (N := 24) (i := 43) hx hb hts hown hin hK hP44 hD44 hS44 hA (by decide) (by decide) rfl (by decide) rfl rfl fl_12_145 rfl (fun _ => rfl) (fun _ => rfl) (Nat.le_of_ble_eq_true rfl) (Nat.le_of_ble_eq_true rfl) dX12_init_368 dX12_init_370 (fun q45 H45 locs45 e1 hP45 hD45 hS45 => ?_)
  rw [← e1] at hl hq
  clear e1 hP44 hD44 hS44
  refine W.widen (k := 44) (n := 6278) (Nat.le_of_ble_eq_true rfl) (Nat.le_of_ble_eq_true rfl) ?_
  refine lv_aload_n hx hb dX12_init_373 rfl (lv_at hl 0 rfl) ?_
  refine lv_bipush (v := 24) hx hb dX12_init_374 rfl ?_
  refine mkM (t := 0) (k := 71) (N := 24) (i := 44) hx hb hts hown hin hK hP45 hD45 hS45 hA (by decide) (by decide) rfl (by decide) rfl rfl fl_12_148 rfl (fun _ => rfl) (fun _ => rfl) (Nat.le_of_ble_eq_true rfl) (Nat.le_of_ble_eq_true rfl) dX12_init_376 dX12_init_378 (fun q46 H46 locs46 e1 hP46 hD46 hS46 => ?_)
  rw [← e1] at hl hq
  clear e1 hP45 hD45 hS45
  refine W.widen (k := 45) (n := 6302) (Nat.le_of_ble_eq_true rfl) (Nat.le_of_ble_eq_true rfl) ?_
  refine lv_aload_n hx hb dX12_init_381 rfl (lv_at hl 0 rfl) ?_
  refine lv_bipush (v := 25) hx hb dX12_init_382 rfl ?_
  refine mkM (t := 0) (k := 72) (N := 25) (i := 45) hx hb hts hown hin hK hP46 hD46 hS46 hA (by decide) (by decide) rfl (by decide) rfl rfl fl_12_151 rfl (fun _ => rfl) (fun _ => rfl) (Nat.le_of_ble_eq_true rfl) (Nat.le_of_ble_eq_true rfl) dX12_init_384 dX12_init_386 (fun q47 H47 locs47 e1 hP47 hD47 hS47 => ?_)
  rw [← e1] at hl hq
  clear e1 hP46 hD46 hS46
  refine W.widen (k := 46) (n := 6327) (Nat.le_of_ble_eq_true rfl) (Nat.le_of_ble_eq_true rfl) ?_
  refine lv_aload_n hx hb dX12_init_389 rfl (lv_at hl 0 rfl) ?_
  refine lv_bipush (v := 25) hx hb dX12_init_390 rfl ?_
  refine mkM (t := 0) (k := 73) (N := 25) (i := 46) hx hb hts hown hin hK hP47 hD47 hS47 hA (by decide) (by decide) rfl (by decide) rfl rfl fl_12_154 rfl (fun _ => rfl) (fun _ => rfl) (Nat.le_of_ble_eq_true rfl) (Nat.le_of_ble_eq_true rfl) dX12_init_392 dX12_init_394 (fun q48 H48 locs48 e1 hP48 hD48 hS48 => ?_)
  rw [← e1] at hl hq
  clear e1 hP47 hD47 hS47
  refine W.widen (k := 47) (n := 6352) (Nat.le_of_ble_eq_true rfl) (Nat.le_of_ble_eq_true rfl) ?_
  refine lv_aload_n hx hb dX12_init_397 rfl (lv_at hl 0 rfl) ?_
  refine lv_bipush (v := 24) hx hb dX12_init_398 rfl ?_
  refine mkM (t := 0) (k := 75) (N := 24) (i := 47) hx hb hts hown hin hK hP48 hD48 hS48 hA (by decide) (by decide) rfl (by decide) rfl rfl fl_12_157 rfl (fun _ => rfl) (fun _ => rfl) (Nat.le_of_ble_eq_true rfl) (Nat.le_of_ble_eq_true rfl) dX12_init_400 dX12_init_402 (fun q49 H49 locs49 e1 hP49 hD49 hS49 => ?_)
  rw [← e1] at hl hq
  clear e1 hP48 hD48 hS48
  refine W.widen (k := 48) (n := 6376) (Nat.le_of_ble_eq_true rfl) (Nat.le_of_ble_eq_true rfl) ?_
  refine lv_aload_n hx hb dX12_init_405 rfl (lv_at hl 0 rfl) ?_
  refine lv_bipush (v := 24) hx hb dX12_init_406 rfl ?_
  refine mkM (t := 0) (k := 76) (N := 24) (i := 48) hx hb hts hown hin hK hP49 hD49 hS49 hA (by decide) (by decide) rfl (by decide) rfl rfl fl_12_160 rfl (fun _ => rfl) (fun _ => rfl) (Nat.le_of_ble_eq_true rfl) (Nat.le_of_ble_eq_true rfl) dX12_init_408 dX12_init_410 (fun q50 H50 locs50 e1 hP50 hD50 hS50 => ?_)
  rw [← e1] at hl hq
  clear e1 hP49 hD49 hS49
  refine W.widen (k := 49) (n := 6400) (Nat.le_of_ble_eq_true rfl) (Nat.le_of_ble_eq_true rfl) ?_
  refine lv_aload_n hx hb dX12_init_413 rfl (lv_at hl 0 rfl) ?_
  refine lv_sipush (v := 23040) hx hb dX12_init_414 rfl ?_
  refine mkM (t := 3) (k := 77) (N := 23040) (i := 49) hx hb hts hown hin hK hP50 hD50 hS50 hA (by decide) (by decide) rfl (by decide) rfl rfl fl_12_163 rfl (fun _ => rfl) (fun _ => rfl) (Nat.le_of_ble_eq_true rfl) (Nat.le_of_ble_eq_true rfl) dX12_init_417 dX12_init_419 (fun q51 H51 locs51 e1 hP51 hD51 hS51 => ?_)
  rw [← e1] at hl hq
  clear e1 hP50 hD50 hS50
  refine W.widen (k := 50) (n := 29440) (Nat.le_of_ble_eq_true rfl) (Nat.le_of_ble_eq_true rfl) ?_
  refine lv_aload_n hx hb dX12_init_422 rfl (lv_at hl 0 rfl) ?_
  refine lv_bipush (v := 25) hx hb dX12_init_423 rfl ?_
  refine mkM (t := 0) (k := 78) (N := 25) (i := 50) hx hb hts hown hin hK hP51 hD51 hS51 hA (by decide) (by decide) rfl (by decide) rfl rfl fl_12_167 rfl (fun _ => rfl) (fun _ => rfl) (Nat.le_of_ble_eq_true rfl) (Nat.le_of_ble_eq_true rfl) dX12_init_425 dX12_init_427 (fun q52 H52 locs52 e1 hP52 hD52 hS52 => ?_)
  rw [← e1] at hl hq
  clear e1 hP51 hD51 hS51
  refine W.widen (k := 51) (n := 29465) (Nat.le_of_ble_eq_true rfl) (Nat.le_of_ble_eq_true rfl) ?_
  refine lv_aload_n hx hb dX12_init_430 rfl (lv_at hl 0 rfl) ?_
  refine lv_bipush (v := 25) hx hb dX12_init_431 rfl ?_
  refine mkM (t := 0) (k := 79) (N := 25) (i := 51) hx hb hts hown hin hK hP52 hD52 hS52 hA (by decide) (by decide) rfl (by decide) rfl rfl fl_12_170 rfl (fun _ => rfl) (fun _ => rfl) (Nat.le_of_ble_eq_true rfl) (Nat.le_of_ble_eq_true rfl) dX12_init_433 dX12_init_435 (fun q53 H53 locs53 e1 hP53 hD53 hS53 => ?_)
  rw [← e1] at hl hq
  clear e1 hP52 hD52 hS52
  refine W.widen (k := 52) (n := 29490) (Nat.le_of_ble_eq_true rfl) (Nat.le_of_ble_eq_true rfl) ?_
  refine lv_aload_n hx hb dX12_init_438 rfl (lv_at hl 0 rfl) ?_
  refine lv_bipush (v := 25) hx hb dX12_init_439 rfl ?_
  refine mkM (t := 0) (k := 80) (N := 25) (i := 52) hx hb hts hown hin hK hP53 hD53 hS53 hA (by decide) (by decide) rfl (by decide) rfl rfl fl_12_173 rfl (fun _ => rfl) (fun _ => rfl) (Nat.le_of_ble_eq_true rfl) (Nat.le_of_ble_eq_true rfl) dX12_init_441 dX12_init_443 (fun q54 H54 locs54 e1 hP54 hD54 hS54 => ?_)
  rw [← e1] at hl hq
  clear e1 hP53 hD53 hS53
  refine W.widen (k := 53) (n := 29515) (Nat.le_of_ble_eq_true rfl) (Nat.le_of_ble_eq_true rfl) ?_
  refine lv_aload_n hx hb dX12_init_446 rfl (lv_at hl 0 rfl) ?_
  refine lv_bipush (v := 25) hx hb dX12_init_447 rfl ?_
  refine mkM (t := 0) (k := 81) (N := 25) (i := 53) hx hb hts hown hin hK hP54 hD54 hS54 hA (by decide) (by decide) rfl (by decide) rfl rfl fl_12_176 rfl (fun _ => rfl) (fun _ => rfl) (Nat.le_of_ble_eq_true rfl) (Nat.le_of_ble_eq_true rfl) dX12_init_449 dX12_init_451 (fun q55 H55 locs55 e1 hP55 hD55 hS55 => ?_)
  rw [← e1] at hl hq
  clear e1 hP54 hD54 hS54
  refine W.widen (k := 54) (n := 29540) (Nat.le_of_ble_eq_true rfl) (Nat.le_of_ble_eq_true rfl) ?_
  refine lv_aload_n hx hb dX12_init_454 rfl (lv_at hl 0 rfl) ?_
  refine lv_bipush (v := 24) hx hb dX12_init_455 rfl ?_
  refine mkM (t := 0) (k := 83) (N := 24) (i := 54) hx hb hts hown hin hK hP55 hD55 hS55 hA (by decide) (by decide) rfl (by decide) rfl rfl fl_12_179 rfl (fun _ => rfl) (fun _ => rfl) (Nat.le_of_ble_eq_true rfl) (Nat.le_of_ble_eq_true rfl) dX12_init_457 dX12_init_459 (fun q56 H56 locs56 e1 hP56 hD56 hS56 => ?_)
  rw [← e1] at hl hq
  clear e1 hP55 hD55 hS55
  refine W.widen (k := 55) (n := 29564) (Nat.le_of_ble_eq_true rfl) (Nat.le_of_ble_eq_true rfl) ?_
  refine lv_aload_n hx hb dX12_init_462 rfl (lv_at hl 0 rfl) ?_
  refine lv_bipush (v := 24) hx hb dX12_init_463 rfl ?_
  refine mkM (t := 0) (k := 84) (N := 24) (i := 55) hx hb hts hown hin hK hP56 hD56 hS56 hA (by decide) (by decide) rfl (by decide) rfl rfl fl_12_182 rfl (fun _ => rfl) (fun _ => rfl) (Nat.le_of_ble_eq_true rfl) (Nat.le_of_ble_eq_true rfl) dX12_init_465 dX12_init_467 (fun q57 H57 locs57 e1 hP57 hD57 hS57 => ?_)
  rw [← e1] at hl hq
  clear e1 hP56 hD56 hS56
  refine W.widen (k := 56) (n := 29588) (Nat.le_of_ble_eq_true rfl) (Nat.le_of_ble_eq_true rfl) ?_
  refine lv_aload_n hx hb dX12_init_470 rfl (lv_at hl 0 rfl) ?_
  refine lv_bipush (v := 12) hx hb dX12_init_471 rfl ?_
  refine mkM (t := 0) (k := 87) (N := 12) (i := 56) hx hb hts hown hin hK hP57 hD57 hS57 hA (by decide) (by decide) rfl (by decide) rfl rfl fl_12_185 rfl (fun _ => rfl) (fun _ => rfl) (Nat.le_of_ble_eq_true rfl) (Nat.le_of_ble_eq_true rfl) dX12_init_473 dX12_init_475 (fun q58 H58 locs58 e1 hP58 hD58 hS58 => ?_)
  rw [← e1] at hl hq
  clear e1 hP57 hD57 hS57
  refine W.widen (k := 57) (n := 29600) (Nat.le_of_ble_eq_true rfl) (Nat.le_of_ble_eq_true rfl) ?_
  refine lv_aload_n hx hb dX12_init_478 rfl (lv_at hl 0 rfl) ?_
  refine lv_sipush (v := 156) hx hb dX12_init_479 rfl ?_
  refine mkM (t := 0) (k := 88) (N := 156) (i := 57) hx hb hts hown hin hK hP58 hD58 hS58 hA (by decide) (by decide) rfl (by decide) rfl rfl fl_12_188 rfl (fun _ => rfl) (fun _ => rfl) (Nat.le_of_ble_eq_true rfl) (Nat.le_of_ble_eq_true rfl) dX12_init_482 dX12_init_484 (fun q59 H59 locs59 e1 hP59 hD59 hS59 => ?_)
  rw [← e1] at hl hq
  clear e1 hP58 hD58 hS58
  refine W.widen (k := 58) (n := 29756) (Nat.le_of_ble_eq_true rfl) (Nat.le_of_ble_eq_true rfl) ?_
  refine lv_aload_n hx hb dX12_init_487 rfl (lv_at hl 0 rfl) ?_
  refine lv_sipush (v := 156) hx hb dX12_init_488 rfl ?_
  refine mkM (t := 0) (k := 89) (N := 156) (i := 58) hx hb hts hown hin hK hP59 hD59 hS59 hA (by decide) (by decide) rfl (by decide) rfl rfl fl_12_191 rfl (fun _ => rfl) (fun _ => rfl) (Nat.le_of_ble_eq_true rfl) (Nat.le_of_ble_eq_true rfl) dX12_init_491 dX12_init_493 (fun q60 H60 locs60 e1 hP60 hD60 hS60 => ?_)
  rw [← e1] at hl hq
  clear e1 hP59 hD59 hS59
  refine W.widen (k := 59) (n := 29912) (Nat.le_of_ble_eq_true rfl) (Nat.le_of_ble_eq_true rfl) ?_
  refine lv_aload_n hx hb dX12_init_496 rfl (lv_at hl 0 rfl) ?_
  refine lv_sipush (v := 1872) hx hb dX12_init_497 rfl ?_
  refine mkM (t := 0) (k := 90) (N := 1872) (i := 59) hx hb hts hown hin hK hP60 hD60 hS60 hA (by decide) (by decide) rfl (by decide) rfl rfl fl_12_194 rfl (fun _ => rfl) (fun _ => rfl) (Nat.le_of_ble_eq_true rfl) (Nat.le_of_ble_eq_true rfl) dX12_init_500 dX12_init_502 (fun q61 H61 locs61 e1 hP61 hD61 hS61 => ?_)
  rw [← e1] at hl hq
  clear e1 hP60 hD60 hS60
  refine W.widen (k := 60) (n := 31784) (Nat.le_of_ble_eq_true rfl) (Nat.le_of_ble_eq_true rfl) ?_
  refine lv_aload_n hx hb dX12_init_505 rfl (lv_at hl 0 rfl) ?_
  refine lv_sipush (v := 1885) hx hb dX12_init_506 rfl ?_
  refine mkM (t := 0) (k := 92) (N := 1885) (i := 60) hx hb hts hown hin hK hP61 hD61 hS61 hA (by decide) (by decide) rfl (by decide) rfl rfl fl_12_197 rfl (fun _ => rfl) (fun _ => rfl) (Nat.le_of_ble_eq_true rfl) (Nat.le_of_ble_eq_true rfl) dX12_init_509 dX12_init_511 (fun q62 H62 locs62 e1 hP62 hD62 hS62 => ?_)
  rw [← e1] at hl hq
  clear e1 hP61 hD61 hS61
  refine W.widen (k := 61) (n := 33669) (Nat.le_of_ble_eq_true rfl) (Nat.le_of_ble_eq_true rfl) ?_
  refine lv_aload_n hx hb dX12_init_514 rfl (lv_at hl 0 rfl) ?_
  refine lv_bipush (v := 12) hx hb dX12_init_515 rfl ?_
  refine mkM (t := 0) (k := 93) (N := 12) (i := 61) hx hb hts hown hin hK hP62 hD62 hS62 hA (by decide) (by decide) rfl (by decide) rfl rfl fl_12_200 rfl (fun _ => rfl) (fun _ => rfl) (Nat.le_of_ble_eq_true rfl) (Nat.le_of_ble_eq_true rfl) dX12_init_517 dX12_init_519 (fun q63 H63 locs63 e1 hP63 hD63 hS63 => ?_)
  rw [← e1] at hl hq
  clear e1 hP62 hD62 hS62
  refine W.widen (k := 62) (n := 33681) (Nat.le_of_ble_eq_true rfl) (Nat.le_of_ble_eq_true rfl) ?_
  refine lv_aload_n hx hb dX12_init_522 rfl (lv_at hl 0 rfl) ?_
  refine lv_bipush (v := 12) hx hb dX12_init_523 rfl ?_
  refine mkM (t := 0) (k := 94) (N := 12) (i := 62) hx hb hts hown hin hK hP63 hD63 hS63 hA (by decide) (by decide) rfl (by decide) rfl rfl fl_12_203 rfl (fun _ => rfl) (fun _ => rfl) (Nat.le_of_ble_eq_true rfl) (Nat.le_of_ble_eq_true rfl) dX12_init_525 dX12_init_527 (fun q64 H64 locs64 e1 hP64 hD64 hS64 => ?_)
  rw [← e1] at hl hq
  clear e1 hP63 hD63 hS63
  refine W.widen (k := 63) (n := 33693) (Nat.le_of_ble_eq_true rfl) (Nat.le_of_ble_eq_true rfl) ?_
  refine lv_aload_n hx hb dX12_init_530 rfl (lv_at hl 0 rfl) ?_
  refine lv_sipush (v := 144) hx hb dX12_init_531 rfl ?_
  refine mkM (t := 0) (k := 95) (N := 144) (i := 63) hx hb hts hown hin hK hP64 hD64 hS64 hA (by decide) (by decide) rfl (by decide) rfl rfl fl_12_206 rfl (fun _ => rfl) (fun _ => rfl) (Nat.le_of_ble_eq_true rfl) (Nat.le_of_ble_eq_true rfl) dX12_init_534 dX12_init_536 (fun q65 H65 locs65 e1 hP65 hD65 hS65 => ?_)
  rw [← e1] at hl hq
  clear e1 hP64 hD64 hS64
  refine W.widen (k := 64) (n := 33837) (Nat.le_of_ble_eq_true rfl) (Nat.le_of_ble_eq_true rfl) ?_
  refine lv_aload_n hx hb dX12_init_539 rfl (lv_at hl 0 rfl) ?_
  refine lv_bipush (v := 60) hx hb dX12_init_540 rfl ?_
  refine mkM (t := 0) (k := 98) (N := 60) (i := 64) hx hb hts hown hin hK hP65 hD65 hS65 hA (by decide) (by decide) rfl (by decide) rfl rfl fl_12_209 rfl (fun _ => rfl) (fun _ => rfl) (Nat.le_of_ble_eq_true rfl) (Nat.le_of_ble_eq_true rfl) dX12_init_542 dX12_init_544 (fun q66 H66 locs66 e1 hP66 hD66 hS66 => ?_)
  rw [← e1] at hl hq
  clear e1 hP65 hD65 hS65
  refine W.widen (k := 65) (n := 33897) (Nat.le_of_ble_eq_true rfl) (Nat.le_of_ble_eq_true rfl) ?_
  refine lv_aload_n hx hb dX12_init_547 rfl (lv_at hl 0 rfl) ?_
  refine lv_bipush (v := 60) hx hb dX12_init_548 rfl ?_
  refine mkM (t := 0) (k := 99) (N := 60) (i := 65) hx hb hts hown hin hK hP66 hD66 hS66 hA (by decide) (by decide) rfl (by decide) rfl rfl fl_12_212 rfl (fun _ => rfl) (fun _ => rfl) (Nat.le_of_ble_eq_true rfl) (Nat.le_of_ble_eq_true rfl) dX12_init_550 dX12_init_552 (fun q67 H67 locs67 e1 hP67 hD67 hS67 => ?_)
  rw [← e1] at hl hq
  clear e1 hP66 hD66 hS66
  refine W.widen (k := 66) (n := 33957) (Nat.le_of_ble_eq_true rfl) (Nat.le_of_ble_eq_true rfl) ?_
  refine lv_aload_n hx hb dX12_init_555 rfl (lv_at hl 0 rfl) ?_
  refine lv_bipush (v := 60) hx hb dX12_init_556 rfl ?_
  refine mkM (t := 0) (k := 100) (N := 60) (i := 66) hx hb hts hown hin hK hP67 hD67 hS67 hA (by decide) (by decide) rfl (by decide) rfl rfl fl_12_215 rfl (fun _ => rfl) (fun _ => rfl) (Nat.le_of_ble_eq_true rfl) (Nat.le_of_ble_eq_true rfl) dX12_init_558 dX12_init_560 (fun q68 H68 locs68 e1 hP68 hD68 hS68 => ?_)
  rw [← e1] at hl hq
  clear e1 hP67 hD67 hS67
  refine W.widen (k := 67) (n := 34017) (Nat.le_of_ble_eq_true rfl) (Nat.le_of_ble_eq_true rfl) ?_
  refine lv_aload_n hx hb dX12_init_563 rfl (lv_at hl 0 rfl) ?_
  refine lv_bipush (v := 60) hx hb dX12_init_564 rfl ?_
  refine mkM (t := 0) (k := 101) (N := 60) (i := 67) hx hb hts hown hin hK hP68 hD68 hS68 hA (by decide) (by decide) rfl (by decide) rfl rfl fl_12_218 rfl (fun _ => rfl) (fun _ => rfl) (Nat.le_of_ble_eq_true rfl) (Nat.le_of_ble_eq_true rfl) dX12_init_566 dX12_init_568 (fun q69 H69 locs69 e1 hP69 hD69 hS69 => ?_)
  rw [← e1] at hl hq
  clear e1 hP68 hD68 hS68
  refine W.widen (k := 68) (n := 34077) (Nat.le_of_ble_eq_true rfl) (Nat.le_of_ble_eq_true rfl) ?_
  refine lv_aload_n hx hb dX12_init_571 rfl (lv_at hl 0 rfl) ?_
  refine lv_sipush (v := 180) hx hb dX12_init_572 rfl ?_
  refine mkM (t := 0) (k := 102) (N := 180) (i := 68) hx hb hts hown hin hK hP69 hD69 hS69 hA (by decide) (by decide) rfl (by decide) rfl rfl fl_12_221 rfl (fun _ => rfl) (fun _ => rfl) (Nat.le_of_ble_eq_true rfl) (Nat.le_of_ble_eq_true rfl) dX12_init_575 dX12_init_577 (fun q70 H70 locs70 e1 hP70 hD70 hS70 => ?_)
  rw [← e1] at hl hq
  clear e1 hP69 hD69 hS69
  refine W.widen (k := 69) (n := 34257) (Nat.le_of_ble_eq_true rfl) (Nat.le_of_ble_eq_true rfl) ?_
  refine lv_aload_n hx hb dX12_init_580 rfl (lv_at hl 0 rfl) ?_
  rw [wM_end] at hP70 hD70
  have hDq := xD_of hD70
  have hsub := xA_of hD70
  refine kc_V (K := KM) (g := (g.1, g.2.1, q70, g.2.2.2)) (As := []) (rest := []) hx hb hml hown hts hK hcs KM_ok hDq hsub hP70 hS70 (m_X12_beginDraft _ hb1) mf_X12_beginDraft mv_X12_beginDraft ml_X12_224 ⟨rfl, rfl⟩ ⟨Nat.le_of_ble_eq_true rfl, Nat.le_of_ble_eq_true rfl⟩ ⟨Nat.le_of_ble_eq_true rfl, Nat.le_of_ble_eq_true rfl⟩ KM_0 rfl hl.1 rfl rfl (Nat.le_of_ble_eq_true rfl) dX12_init_581 (fun H1 locs1 hP1 hz1 hk1 hS1 => ?_)
  refine W.eq (g2 := F0 m 584 ls []) rfl ?_
  refine lv_aload_n hx hb dX12_init_584 rfl (lv_at hl 0 rfl) ?_
  refine kc_V (K := KM) (g := (g.1, g.2.1, q70, g.2.2.2)) (As := []) (rest := []) hx hb hml hown hts hK hcs KM_ok hDq hsub hP1 hS1 (m_X12_takeDraft N _ hb2) mf_X12_takeDraft mv_X12_takeDraft ml_X12_227 ⟨rfl, rfl⟩ ⟨Nat.le_of_ble_eq_true rfl, Nat.le_of_ble_eq_true rfl⟩ ⟨Nat.le_of_ble_eq_true rfl, Nat.le_of_ble_eq_true rfl⟩ KM_0 rfl hl.1 rfl rfl (Nat.le_of_ble_eq_true rfl) dX12_init_585 (fun H2 locs2 hP2 hz2 hk2 hS2 => ?_)
  refine W.eq (g2 := F0 m 588 ls []) rfl ?_
  exact W.vret hx hb hr (fun t ht hW => ⟨⟨(), rfl, trivial, q70, hq, by rw [ht]; exact hP2, wM_D hD70⟩, hS2.F ht⟩) hS2.2.2 dX12_init_588
