theorem dX12_percentOf_0 : decode cX12_percentOf 0 = .ok (.ldc_w 502, 3) := by decide +kernel
theorem dX12_percentOf_3 : decode cX12_percentOf 3 = .ok (.iload_n 3, 1) := by decide +kernel
theorem dX12_percentOf_4 : decode cX12_percentOf 4 = .ok (.invokevirtual 250, 3) := by decide +kernel
theorem dX12_percentOf_7 : decode cX12_percentOf 7 = .ok (.bipush 48, 2) := by decide +kernel
theorem dX12_percentOf_9 : decode cX12_percentOf 9 = .ok (.isub, 1) := by decide +kernel
theorem dX12_percentOf_10 : decode cX12_percentOf 10 = .ok (.istore 4, 2) := by decide +kernel
theorem dX12_percentOf_12 : decode cX12_percentOf 12 = .ok (.aload_n 0, 1) := by decide +kernel
theorem dX12_percentOf_13 : decode cX12_percentOf 13 = .ok (.getfield 28, 3) := by decide +kernel
theorem dX12_percentOf_16 : decode cX12_percentOf 16 = .ok (.aload_n 1, 1) := by decide +kernel
theorem dX12_percentOf_17 : decode cX12_percentOf 17 = .ok (.iload_n 2, 1) := by decide +kernel
theorem dX12_percentOf_18 : decode cX12_percentOf 18 = .ok (.iaload, 1) := by decide +kernel
theorem dX12_percentOf_19 : decode cX12_percentOf 19 = .ok (.iaload, 1) := by decide +kernel
theorem dX12_percentOf_20 : decode cX12_percentOf 20 = .ok (.istore 5, 2) := by decide +kernel
theorem dX12_percentOf_22 : decode cX12_percentOf 22 = .ok (.aload_n 0, 1) := by decide +kernel
theorem dX12_percentOf_23 : decode cX12_percentOf 23 = .ok (.getfield 31, 3) := by decide +kernel
theorem dX12_percentOf_26 : decode cX12_percentOf 26 = .ok (.aload_n 1, 1) := by decide +kernel
theorem dX12_percentOf_27 : decode cX12_percentOf 27 = .ok (.iload_n 2, 1) := by decide +kernel
theorem dX12_percentOf_28 : decode cX12_percentOf 28 = .ok (.iaload, 1) := by decide +kernel
theorem dX12_percentOf_29 : decode cX12_percentOf 29 = .ok (.iaload, 1) := by decide +kernel
theorem dX12_percentOf_30 : decode cX12_percentOf 30 = .ok (.istore 6, 2) := by decide +kernel
theorem dX12_percentOf_32 : decode cX12_percentOf 32 = .ok (.iload 4, 2) := by decide +kernel
theorem dX12_percentOf_34 : decode cX12_percentOf 34 = .ok (.iconst 1, 1) := by decide +kernel
theorem dX12_percentOf_35 : decode cX12_percentOf 35 = .ok (.if_icmp .le 16, 3) := by decide +kernel
theorem dX12_percentOf_38 : decode cX12_percentOf 38 = .ok (.aload_n 0, 1) := by decide +kernel
theorem dX12_percentOf_39 : decode cX12_percentOf 39 = .ok (.getfield 28, 3) := by decide +kernel
theorem dX12_percentOf_42 : decode cX12_percentOf 42 = .ok (.aload_n 1, 1) := by decide +kernel
theorem dX12_percentOf_43 : decode cX12_percentOf 43 = .ok (.iload_n 2, 1) := by decide +kernel
theorem dX12_percentOf_44 : decode cX12_percentOf 44 = .ok (.iconst 1, 1) := by decide +kernel
theorem dX12_percentOf_45 : decode cX12_percentOf 45 = .ok (.iadd, 1) := by decide +kernel
theorem dX12_percentOf_46 : decode cX12_percentOf 46 = .ok (.iaload, 1) := by decide +kernel
theorem dX12_percentOf_47 : decode cX12_percentOf 47 = .ok (.iaload, 1) := by decide +kernel
theorem dX12_percentOf_48 : decode cX12_percentOf 48 = .ok (.goto 4, 3) := by decide +kernel
theorem dX12_percentOf_51 : decode cX12_percentOf 51 = .ok (.iconst 0, 1) := by decide +kernel
theorem dX12_percentOf_52 : decode cX12_percentOf 52 = .ok (.istore 7, 2) := by decide +kernel
theorem dX12_percentOf_54 : decode cX12_percentOf 54 = .ok (.iload 4, 2) := by decide +kernel
theorem dX12_percentOf_56 : decode cX12_percentOf 56 = .ok (.iconst 1, 1) := by decide +kernel
theorem dX12_percentOf_57 : decode cX12_percentOf 57 = .ok (.if_icmp .le 16, 3) := by decide +kernel
theorem dX12_percentOf_60 : decode cX12_percentOf 60 = .ok (.aload_n 0, 1) := by decide +kernel
theorem dX12_percentOf_61 : decode cX12_percentOf 61 = .ok (.getfield 31, 3) := by decide +kernel
theorem dX12_percentOf_64 : decode cX12_percentOf 64 = .ok (.aload_n 1, 1) := by decide +kernel
theorem dX12_percentOf_65 : decode cX12_percentOf 65 = .ok (.iload_n 2, 1) := by decide +kernel
theorem dX12_percentOf_66 : decode cX12_percentOf 66 = .ok (.iconst 1, 1) := by decide +kernel
theorem dX12_percentOf_67 : decode cX12_percentOf 67 = .ok (.iadd, 1) := by decide +kernel
theorem dX12_percentOf_68 : decode cX12_percentOf 68 = .ok (.iaload, 1) := by decide +kernel
theorem dX12_percentOf_69 : decode cX12_percentOf 69 = .ok (.iaload, 1) := by decide +kernel
theorem dX12_percentOf_70 : decode cX12_percentOf 70 = .ok (.goto 4, 3) := by decide +kernel
theorem dX12_percentOf_73 : decode cX12_percentOf 73 = .ok (.iconst 0, 1) := by decide +kernel
theorem dX12_percentOf_74 : decode cX12_percentOf 74 = .ok (.istore 8, 2) := by decide +kernel
theorem dX12_percentOf_76 : decode cX12_percentOf 76 = .ok (.iload 4, 2) := by decide +kernel
theorem dX12_percentOf_78 : decode cX12_percentOf 78 = .ok (.iconst 2, 1) := by decide +kernel
theorem dX12_percentOf_79 : decode cX12_percentOf 79 = .ok (.if_icmp .le 16, 3) := by decide +kernel
theorem dX12_percentOf_82 : decode cX12_percentOf 82 = .ok (.aload_n 0, 1) := by decide +kernel
theorem dX12_percentOf_83 : decode cX12_percentOf 83 = .ok (.getfield 28, 3) := by decide +kernel
theorem dX12_percentOf_86 : decode cX12_percentOf 86 = .ok (.aload_n 1, 1) := by decide +kernel
theorem dX12_percentOf_87 : decode cX12_percentOf 87 = .ok (.iload_n 2, 1) := by decide +kernel
theorem dX12_percentOf_88 : decode cX12_percentOf 88 = .ok (.iconst 2, 1) := by decide +kernel
theorem dX12_percentOf_89 : decode cX12_percentOf 89 = .ok (.iadd, 1) := by decide +kernel
theorem dX12_percentOf_90 : decode cX12_percentOf 90 = .ok (.iaload, 1) := by decide +kernel
theorem dX12_percentOf_91 : decode cX12_percentOf 91 = .ok (.iaload, 1) := by decide +kernel
theorem dX12_percentOf_92 : decode cX12_percentOf 92 = .ok (.goto 4, 3) := by decide +kernel
theorem dX12_percentOf_95 : decode cX12_percentOf 95 = .ok (.iconst 0, 1) := by decide +kernel
theorem dX12_percentOf_96 : decode cX12_percentOf 96 = .ok (.istore 9, 2) := by decide +kernel
theorem dX12_percentOf_98 : decode cX12_percentOf 98 = .ok (.iload 4, 2) := by decide +kernel
theorem dX12_percentOf_100 : decode cX12_percentOf 100 = .ok (.iconst 2, 1) := by decide +kernel
theorem dX12_percentOf_101 : decode cX12_percentOf 101 = .ok (.if_icmp .le 16, 3) := by decide +kernel
theorem dX12_percentOf_104 : decode cX12_percentOf 104 = .ok (.aload_n 0, 1) := by decide +kernel
theorem dX12_percentOf_105 : decode cX12_percentOf 105 = .ok (.getfield 31, 3) := by decide +kernel
theorem dX12_percentOf_108 : decode cX12_percentOf 108 = .ok (.aload_n 1, 1) := by decide +kernel
theorem dX12_percentOf_109 : decode cX12_percentOf 109 = .ok (.iload_n 2, 1) := by decide +kernel
theorem dX12_percentOf_110 : decode cX12_percentOf 110 = .ok (.iconst 2, 1) := by decide +kernel
theorem dX12_percentOf_111 : decode cX12_percentOf 111 = .ok (.iadd, 1) := by decide +kernel
theorem dX12_percentOf_112 : decode cX12_percentOf 112 = .ok (.iaload, 1) := by decide +kernel
theorem dX12_percentOf_113 : decode cX12_percentOf 113 = .ok (.iaload, 1) := by decide +kernel
theorem dX12_percentOf_114 : decode cX12_percentOf 114 = .ok (.goto 4, 3) := by decide +kernel
theorem dX12_percentOf_117 : decode cX12_percentOf 117 = .ok (.iconst 0, 1) := by decide +kernel
theorem dX12_percentOf_118 : decode cX12_percentOf 118 = .ok (.istore 10, 2) := by decide +kernel
theorem dX12_percentOf_120 : decode cX12_percentOf 120 = .ok (.iload 4, 2) := by decide +kernel
theorem dX12_percentOf_122 : decode cX12_percentOf 122 = .ok (.iconst 3, 1) := by decide +kernel
theorem dX12_percentOf_123 : decode cX12_percentOf 123 = .ok (.if_icmp .le 16, 3) := by decide +kernel
theorem dX12_percentOf_126 : decode cX12_percentOf 126 = .ok (.aload_n 0, 1) := by decide +kernel
theorem dX12_percentOf_127 : decode cX12_percentOf 127 = .ok (.getfield 28, 3) := by decide +kernel
theorem dX12_percentOf_130 : decode cX12_percentOf 130 = .ok (.aload_n 1, 1) := by decide +kernel
theorem dX12_percentOf_131 : decode cX12_percentOf 131 = .ok (.iload_n 2, 1) := by decide +kernel
theorem dX12_percentOf_132 : decode cX12_percentOf 132 = .ok (.iconst 3, 1) := by decide +kernel
theorem dX12_percentOf_133 : decode cX12_percentOf 133 = .ok (.iadd, 1) := by decide +kernel
theorem dX12_percentOf_134 : decode cX12_percentOf 134 = .ok (.iaload, 1) := by decide +kernel
theorem dX12_percentOf_135 : decode cX12_percentOf 135 = .ok (.iaload, 1) := by decide +kernel
theorem dX12_percentOf_136 : decode cX12_percentOf 136 = .ok (.goto 4, 3) := by decide +kernel
theorem dX12_percentOf_139 : decode cX12_percentOf 139 = .ok (.iconst 0, 1) := by decide +kernel
theorem dX12_percentOf_140 : decode cX12_percentOf 140 = .ok (.istore 11, 2) := by decide +kernel
theorem dX12_percentOf_142 : decode cX12_percentOf 142 = .ok (.iload 4, 2) := by decide +kernel
theorem dX12_percentOf_144 : decode cX12_percentOf 144 = .ok (.iconst 3, 1) := by decide +kernel
theorem dX12_percentOf_145 : decode cX12_percentOf 145 = .ok (.if_icmp .le 16, 3) := by decide +kernel
theorem dX12_percentOf_148 : decode cX12_percentOf 148 = .ok (.aload_n 0, 1) := by decide +kernel
theorem dX12_percentOf_149 : decode cX12_percentOf 149 = .ok (.getfield 31, 3) := by decide +kernel
theorem dX12_percentOf_152 : decode cX12_percentOf 152 = .ok (.aload_n 1, 1) := by decide +kernel
theorem dX12_percentOf_153 : decode cX12_percentOf 153 = .ok (.iload_n 2, 1) := by decide +kernel
theorem dX12_percentOf_154 : decode cX12_percentOf 154 = .ok (.iconst 3, 1) := by decide +kernel
theorem dX12_percentOf_155 : decode cX12_percentOf 155 = .ok (.iadd, 1) := by decide +kernel
theorem dX12_percentOf_156 : decode cX12_percentOf 156 = .ok (.iaload, 1) := by decide +kernel
theorem dX12_percentOf_157 : decode cX12_percentOf 157 = .ok (.iaload, 1) := by decide +kernel
theorem dX12_percentOf_158 : decode cX12_percentOf 158 = .ok (.goto 4, 3) := by decide +kernel
theorem dX12_percentOf_161 : decode cX12_percentOf 161 = .ok (.iconst 0, 1) := by decide +kernel
theorem dX12_percentOf_162 : decode cX12_percentOf 162 = .ok (.istore 12, 2) := by decide +kernel
theorem dX12_percentOf_164 : decode cX12_percentOf 164 = .ok (.iload_n 3, 1) := by decide +kernel
theorem dX12_percentOf_165 : decode cX12_percentOf 165 = .ok (.tableswitch 332 0 9 #[55, 64, 84, 104, 135, 166, 197, 228, 259, 290], 55) := by decide +kernel
theorem dX12_percentOf_220 : decode cX12_percentOf 220 = .ok (.aload_n 0, 1) := by decide +kernel
theorem dX12_percentOf_221 : decode cX12_percentOf 221 = .ok (.iload 5, 2) := by decide +kernel
theorem dX12_percentOf_223 : decode cX12_percentOf 223 = .ok (.iload 6, 2) := by decide +kernel
theorem dX12_percentOf_225 : decode cX12_percentOf 225 = .ok (.invokevirtual 398, 3) := by decide +kernel
theorem dX12_percentOf_228 : decode cX12_percentOf 228 = .ok (.ireturn, 1) := by decide +kernel
theorem dX12_percentOf_229 : decode cX12_percentOf 229 = .ok (.aload_n 0, 1) := by decide +kernel
theorem dX12_percentOf_230 : decode cX12_percentOf 230 = .ok (.aload_n 0, 1) := by decide +kernel
theorem dX12_percentOf_231 : decode cX12_percentOf 231 = .ok (.iload 5, 2) := by decide +kernel
theorem dX12_percentOf_233 : decode cX12_percentOf 233 = .ok (.iload 7, 2) := by decide +kernel
theorem dX12_percentOf_235 : decode cX12_percentOf 235 = .ok (.invokevirtual 504, 3) := by decide +kernel
theorem dX12_percentOf_238 : decode cX12_percentOf 238 = .ok (.iload 6, 2) := by decide +kernel
theorem dX12_percentOf_240 : decode cX12_percentOf 240 = .ok (.iload 8, 2) := by decide +kernel
theorem dX12_percentOf_242 : decode cX12_percentOf 242 = .ok (.invokestatic 381, 3) := by decide +kernel
theorem dX12_percentOf_245 : decode cX12_percentOf 245 = .ok (.invokevirtual 398, 3) := by decide +kernel
theorem dX12_percentOf_248 : decode cX12_percentOf 248 = .ok (.ireturn, 1) := by decide +kernel
theorem dX12_percentOf_249 : decode cX12_percentOf 249 = .ok (.aload_n 0, 1) := by decide +kernel
theorem dX12_percentOf_250 : decode cX12_percentOf 250 = .ok (.iload 5, 2) := by decide +kernel
theorem dX12_percentOf_252 : decode cX12_percentOf 252 = .ok (.iload 7, 2) := by decide +kernel
theorem dX12_percentOf_254 : decode cX12_percentOf 254 = .ok (.invokestatic 381, 3) := by decide +kernel
theorem dX12_percentOf_257 : decode cX12_percentOf 257 = .ok (.aload_n 0, 1) := by decide +kernel
theorem dX12_percentOf_258 : decode cX12_percentOf 258 = .ok (.iload 6, 2) := by decide +kernel
theorem dX12_percentOf_260 : decode cX12_percentOf 260 = .ok (.iload 8, 2) := by decide +kernel
theorem dX12_percentOf_262 : decode cX12_percentOf 262 = .ok (.invokevirtual 504, 3) := by decide +kernel
theorem dX12_percentOf_265 : decode cX12_percentOf 265 = .ok (.invokevirtual 398, 3) := by decide +kernel
theorem dX12_percentOf_268 : decode cX12_percentOf 268 = .ok (.ireturn, 1) := by decide +kernel
theorem dX12_percentOf_269 : decode cX12_percentOf 269 = .ok (.aload_n 0, 1) := by decide +kernel
theorem dX12_percentOf_270 : decode cX12_percentOf 270 = .ok (.aload_n 0, 1) := by decide +kernel
theorem dX12_percentOf_271 : decode cX12_percentOf 271 = .ok (.iload 5, 2) := by decide +kernel
theorem dX12_percentOf_273 : decode cX12_percentOf 273 = .ok (.aload_n 0, 1) := by decide +kernel
theorem dX12_percentOf_274 : decode cX12_percentOf 274 = .ok (.iload 7, 2) := by decide +kernel
theorem dX12_percentOf_276 : decode cX12_percentOf 276 = .ok (.iload 9, 2) := by decide +kernel
theorem dX12_percentOf_278 : decode cX12_percentOf 278 = .ok (.invokevirtual 504, 3) := by decide +kernel
theorem dX12_percentOf_281 : decode cX12_percentOf 281 = .ok (.invokevirtual 504, 3) := by decide +kernel
theorem dX12_percentOf_284 : decode cX12_percentOf 284 = .ok (.iload 6, 2) := by decide +kernel
theorem dX12_percentOf_286 : decode cX12_percentOf 286 = .ok (.iload 8, 2) := by decide +kernel
theorem dX12_percentOf_288 : decode cX12_percentOf 288 = .ok (.iload 10, 2) := by decide +kernel
theorem dX12_percentOf_290 : decode cX12_percentOf 290 = .ok (.invokestatic 381, 3) := by decide +kernel
theorem dX12_percentOf_293 : decode cX12_percentOf 293 = .ok (.invokestatic 381, 3) := by decide +kernel
theorem dX12_percentOf_296 : decode cX12_percentOf 296 = .ok (.invokevirtual 398, 3) := by decide +kernel
theorem dX12_percentOf_299 : decode cX12_percentOf 299 = .ok (.ireturn, 1) := by decide +kernel
theorem dX12_percentOf_300 : decode cX12_percentOf 300 = .ok (.aload_n 0, 1) := by decide +kernel
theorem dX12_percentOf_301 : decode cX12_percentOf 301 = .ok (.iload 5, 2) := by decide +kernel
theorem dX12_percentOf_303 : decode cX12_percentOf 303 = .ok (.iload 7, 2) := by decide +kernel
theorem dX12_percentOf_305 : decode cX12_percentOf 305 = .ok (.iload 9, 2) := by decide +kernel
theorem dX12_percentOf_307 : decode cX12_percentOf 307 = .ok (.invokestatic 381, 3) := by decide +kernel
theorem dX12_percentOf_310 : decode cX12_percentOf 310 = .ok (.invokestatic 381, 3) := by decide +kernel
theorem dX12_percentOf_313 : decode cX12_percentOf 313 = .ok (.aload_n 0, 1) := by decide +kernel
theorem dX12_percentOf_314 : decode cX12_percentOf 314 = .ok (.iload 6, 2) := by decide +kernel
theorem dX12_percentOf_316 : decode cX12_percentOf 316 = .ok (.aload_n 0, 1) := by decide +kernel
theorem dX12_percentOf_317 : decode cX12_percentOf 317 = .ok (.iload 8, 2) := by decide +kernel
theorem dX12_percentOf_319 : decode cX12_percentOf 319 = .ok (.iload 10, 2) := by decide +kernel
theorem dX12_percentOf_321 : decode cX12_percentOf 321 = .ok (.invokevirtual 504, 3) := by decide +kernel
theorem dX12_percentOf_324 : decode cX12_percentOf 324 = .ok (.invokevirtual 504, 3) := by decide +kernel
theorem dX12_percentOf_327 : decode cX12_percentOf 327 = .ok (.invokevirtual 398, 3) := by decide +kernel
theorem dX12_percentOf_330 : decode cX12_percentOf 330 = .ok (.ireturn, 1) := by decide +kernel
theorem dX12_percentOf_331 : decode cX12_percentOf 331 = .ok (.aload_n 0, 1) := by decide +kernel
theorem dX12_percentOf_332 : decode cX12_percentOf 332 = .ok (.aload_n 0, 1) := by decide +kernel
theorem dX12_percentOf_333 : decode cX12_percentOf 333 = .ok (.iload 5, 2) := by decide +kernel
theorem dX12_percentOf_335 : decode cX12_percentOf 335 = .ok (.iload 7, 2) := by decide +kernel
theorem dX12_percentOf_337 : decode cX12_percentOf 337 = .ok (.iload 9, 2) := by decide +kernel
theorem dX12_percentOf_339 : decode cX12_percentOf 339 = .ok (.invokestatic 381, 3) := by decide +kernel
theorem dX12_percentOf_342 : decode cX12_percentOf 342 = .ok (.invokevirtual 504, 3) := by decide +kernel
theorem dX12_percentOf_345 : decode cX12_percentOf 345 = .ok (.iload 6, 2) := by decide +kernel
theorem dX12_percentOf_347 : decode cX12_percentOf 347 = .ok (.aload_n 0, 1) := by decide +kernel
theorem dX12_percentOf_348 : decode cX12_percentOf 348 = .ok (.iload 8, 2) := by decide +kernel
theorem dX12_percentOf_350 : decode cX12_percentOf 350 = .ok (.iload 10, 2) := by decide +kernel
theorem dX12_percentOf_352 : decode cX12_percentOf 352 = .ok (.invokevirtual 504, 3) := by decide +kernel
theorem dX12_percentOf_355 : decode cX12_percentOf 355 = .ok (.invokestatic 381, 3) := by decide +kernel
theorem dX12_percentOf_358 : decode cX12_percentOf 358 = .ok (.invokevirtual 398, 3) := by decide +kernel
theorem dX12_percentOf_361 : decode cX12_percentOf 361 = .ok (.ireturn, 1) := by decide +kernel
theorem dX12_percentOf_362 : decode cX12_percentOf 362 = .ok (.aload_n 0, 1) := by decide +kernel
theorem dX12_percentOf_363 : decode cX12_percentOf 363 = .ok (.aload_n 0, 1) := by decide +kernel
theorem dX12_percentOf_364 : decode cX12_percentOf 364 = .ok (.iload 5, 2) := by decide +kernel
theorem dX12_percentOf_366 : decode cX12_percentOf 366 = .ok (.iload 7, 2) := by decide +kernel
theorem dX12_percentOf_368 : decode cX12_percentOf 368 = .ok (.invokestatic 381, 3) := by decide +kernel
theorem dX12_percentOf_371 : decode cX12_percentOf 371 = .ok (.iload 9, 2) := by decide +kernel
theorem dX12_percentOf_373 : decode cX12_percentOf 373 = .ok (.invokevirtual 504, 3) := by decide +kernel
theorem dX12_percentOf_376 : decode cX12_percentOf 376 = .ok (.aload_n 0, 1) := by decide +kernel
theorem dX12_percentOf_377 : decode cX12_percentOf 377 = .ok (.iload 6, 2) := by decide +kernel
theorem dX12_percentOf_379 : decode cX12_percentOf 379 = .ok (.iload 8, 2) := by decide +kernel
theorem dX12_percentOf_381 : decode cX12_percentOf 381 = .ok (.invokevirtual 504, 3) := by decide +kernel
theorem dX12_percentOf_384 : decode cX12_percentOf 384 = .ok (.iload 10, 2) := by decide +kernel
theorem dX12_percentOf_386 : decode cX12_percentOf 386 = .ok (.invokestatic 381, 3) := by decide +kernel
theorem dX12_percentOf_389 : decode cX12_percentOf 389 = .ok (.invokevirtual 398, 3) := by decide +kernel
theorem dX12_percentOf_392 : decode cX12_percentOf 392 = .ok (.ireturn, 1) := by decide +kernel
theorem dX12_percentOf_393 : decode cX12_percentOf 393 = .ok (.aload_n 0, 1) := by decide +kernel
theorem dX12_percentOf_394 : decode cX12_percentOf 394 = .ok (.iload 5, 2) := by decide +kernel
theorem dX12_percentOf_396 : decode cX12_percentOf 396 = .ok (.aload_n 0, 1) := by decide +kernel
theorem dX12_percentOf_397 : decode cX12_percentOf 397 = .ok (.iload 7, 2) := by decide +kernel
theorem dX12_percentOf_399 : decode cX12_percentOf 399 = .ok (.iload 9, 2) := by decide +kernel
theorem dX12_percentOf_401 : decode cX12_percentOf 401 = .ok (.invokevirtual 504, 3) := by decide +kernel
theorem dX12_percentOf_404 : decode cX12_percentOf 404 = .ok (.invokestatic 381, 3) := by decide +kernel
theorem dX12_percentOf_407 : decode cX12_percentOf 407 = .ok (.aload_n 0, 1) := by decide +kernel
theorem dX12_percentOf_408 : decode cX12_percentOf 408 = .ok (.iload 6, 2) := by decide +kernel
theorem dX12_percentOf_410 : decode cX12_percentOf 410 = .ok (.iload 8, 2) := by decide +kernel
theorem dX12_percentOf_412 : decode cX12_percentOf 412 = .ok (.iload 10, 2) := by decide +kernel
theorem dX12_percentOf_414 : decode cX12_percentOf 414 = .ok (.invokestatic 381, 3) := by decide +kernel
theorem dX12_percentOf_417 : decode cX12_percentOf 417 = .ok (.invokevirtual 504, 3) := by decide +kernel
theorem dX12_percentOf_420 : decode cX12_percentOf 420 = .ok (.invokevirtual 398, 3) := by decide +kernel
theorem dX12_percentOf_423 : decode cX12_percentOf 423 = .ok (.ireturn, 1) := by decide +kernel
theorem dX12_percentOf_424 : decode cX12_percentOf 424 = .ok (.aload_n 0, 1) := by decide +kernel
theorem dX12_percentOf_425 : decode cX12_percentOf 425 = .ok (.aload_n 0, 1) := by decide +kernel
theorem dX12_percentOf_426 : decode cX12_percentOf 426 = .ok (.iload 5, 2) := by decide +kernel
theorem dX12_percentOf_428 : decode cX12_percentOf 428 = .ok (.iload 7, 2) := by decide +kernel
theorem dX12_percentOf_430 : decode cX12_percentOf 430 = .ok (.invokevirtual 504, 3) := by decide +kernel
theorem dX12_percentOf_433 : decode cX12_percentOf 433 = .ok (.iload 9, 2) := by decide +kernel
theorem dX12_percentOf_435 : decode cX12_percentOf 435 = .ok (.invokestatic 381, 3) := by decide +kernel
theorem dX12_percentOf_438 : decode cX12_percentOf 438 = .ok (.aload_n 0, 1) := by decide +kernel
theorem dX12_percentOf_439 : decode cX12_percentOf 439 = .ok (.iload 6, 2) := by decide +kernel
theorem dX12_percentOf_441 : decode cX12_percentOf 441 = .ok (.iload 8, 2) := by decide +kernel
theorem dX12_percentOf_443 : decode cX12_percentOf 443 = .ok (.invokestatic 381, 3) := by decide +kernel
theorem dX12_percentOf_446 : decode cX12_percentOf 446 = .ok (.iload 10, 2) := by decide +kernel
theorem dX12_percentOf_448 : decode cX12_percentOf 448 = .ok (.invokevirtual 504, 3) := by decide +kernel
theorem dX12_percentOf_451 : decode cX12_percentOf 451 = .ok (.invokevirtual 398, 3) := by decide +kernel
theorem dX12_percentOf_454 : decode cX12_percentOf 454 = .ok (.ireturn, 1) := by decide +kernel
theorem dX12_percentOf_455 : decode cX12_percentOf 455 = .ok (.aload_n 0, 1) := by decide +kernel
theorem dX12_percentOf_456 : decode cX12_percentOf 456 = .ok (.aload_n 0, 1) := by decide +kernel
theorem dX12_percentOf_457 : decode cX12_percentOf 457 = .ok (.iload 5, 2) := by decide +kernel
theorem dX12_percentOf_459 : decode cX12_percentOf 459 = .ok (.iload 7, 2) := by decide +kernel
theorem dX12_percentOf_461 : decode cX12_percentOf 461 = .ok (.invokestatic 381, 3) := by decide +kernel
theorem dX12_percentOf_464 : decode cX12_percentOf 464 = .ok (.iload 9, 2) := by decide +kernel
theorem dX12_percentOf_466 : decode cX12_percentOf 466 = .ok (.iload 11, 2) := by decide +kernel
theorem dX12_percentOf_468 : decode cX12_percentOf 468 = .ok (.invokestatic 381, 3) := by decide +kernel
theorem dX12_percentOf_471 : decode cX12_percentOf 471 = .ok (.invokevirtual 504, 3) := by decide +kernel
theorem dX12_percentOf_474 : decode cX12_percentOf 474 = .ok (.aload_n 0, 1) := by decide +kernel
theorem dX12_percentOf_475 : decode cX12_percentOf 475 = .ok (.iload 6, 2) := by decide +kernel
theorem dX12_percentOf_477 : decode cX12_percentOf 477 = .ok (.iload 8, 2) := by decide +kernel
theorem dX12_percentOf_479 : decode cX12_percentOf 479 = .ok (.invokevirtual 504, 3) := by decide +kernel
theorem dX12_percentOf_482 : decode cX12_percentOf 482 = .ok (.aload_n 0, 1) := by decide +kernel
theorem dX12_percentOf_483 : decode cX12_percentOf 483 = .ok (.iload 10, 2) := by decide +kernel
theorem dX12_percentOf_485 : decode cX12_percentOf 485 = .ok (.iload 12, 2) := by decide +kernel
theorem dX12_percentOf_487 : decode cX12_percentOf 487 = .ok (.invokevirtual 504, 3) := by decide +kernel
theorem dX12_percentOf_490 : decode cX12_percentOf 490 = .ok (.invokestatic 381, 3) := by decide +kernel
theorem dX12_percentOf_493 : decode cX12_percentOf 493 = .ok (.invokevirtual 398, 3) := by decide +kernel
theorem dX12_percentOf_496 : decode cX12_percentOf 496 = .ok (.ireturn, 1) := by decide +kernel
theorem dX12_percentOf_497 : decode cX12_percentOf 497 = .ok (.aload_n 0, 1) := by decide +kernel
theorem dX12_percentOf_498 : decode cX12_percentOf 498 = .ok (.aload_n 0, 1) := by decide +kernel
theorem dX12_percentOf_499 : decode cX12_percentOf 499 = .ok (.iload 5, 2) := by decide +kernel
theorem dX12_percentOf_501 : decode cX12_percentOf 501 = .ok (.iload 7, 2) := by decide +kernel
theorem dX12_percentOf_503 : decode cX12_percentOf 503 = .ok (.invokevirtual 504, 3) := by decide +kernel
theorem dX12_percentOf_506 : decode cX12_percentOf 506 = .ok (.aload_n 0, 1) := by decide +kernel
theorem dX12_percentOf_507 : decode cX12_percentOf 507 = .ok (.iload 9, 2) := by decide +kernel
theorem dX12_percentOf_509 : decode cX12_percentOf 509 = .ok (.iload 11, 2) := by decide +kernel
theorem dX12_percentOf_511 : decode cX12_percentOf 511 = .ok (.invokevirtual 504, 3) := by decide +kernel
theorem dX12_percentOf_514 : decode cX12_percentOf 514 = .ok (.invokestatic 381, 3) := by decide +kernel
theorem dX12_percentOf_517 : decode cX12_percentOf 517 = .ok (.aload_n 0, 1) := by decide +kernel
theorem dX12_percentOf_518 : decode cX12_percentOf 518 = .ok (.iload 6, 2) := by decide +kernel
theorem dX12_percentOf_520 : decode cX12_percentOf 520 = .ok (.iload 8, 2) := by decide +kernel
theorem dX12_percentOf_522 : decode cX12_percentOf 522 = .ok (.invokestatic 381, 3) := by decide +kernel
theorem dX12_percentOf_525 : decode cX12_percentOf 525 = .ok (.iload 10, 2) := by decide +kernel
theorem dX12_percentOf_527 : decode cX12_percentOf 527 = .ok (.iload 12, 2) := by decide +kernel
theorem dX12_percentOf_529 : decode cX12_percentOf 529 = .ok (.invokestatic 381, 3) := by decide +kernel
theorem dX12_percentOf_532 : decode cX12_percentOf 532 = .ok (.invokevirtual 504, 3) := by decide +kernel
theorem dX12_percentOf_535 : decode cX12_percentOf 535 = .ok (.invokevirtual 398, 3) := by decide +kernel
theorem dX12_percentOf_538 : decode cX12_percentOf 538 = .ok (.ireturn, 1) := by decide +kernel
abbrev rm_X12_percentOf : Room := { frames := 4, cells := 0, slots := 0, locals := 120 }
def f_X12_percentOf_162 (r1 rn1 : Nat) (x3 : Int32) (x5 : Int32) (x6 : Int32) (x7 : Int32) (x8 : Int32) (x9 : Int32) (x10 : Int32) (x11 : Int32) (t0 : Int32) (σ : St) : Option Int32 := (if x3 = 0 then bo (f_X12_percent x5 x6 σ) (fun r25_ => some r25_) else (if x3 = 1 then bo (f_X12_beside x5 x7 σ) (fun r27_ => bo (f_X12_percent r27_ (f_X12_greater x6 x8 σ) σ) (fun r28_ => some r28_)) else (if x3 = 2 then bo (f_X12_beside x6 x8 σ) (fun r30_ => bo (f_X12_percent (f_X12_greater x5 x7 σ) r30_ σ) (fun r31_ => some r31_)) else (if x3 = 3 then bo (f_X12_beside x7 x9 σ) (fun r33_ => bo (f_X12_beside x5 r33_ σ) (fun r34_ => bo (f_X12_percent r34_ (f_X12_greater x6 (f_X12_greater x8 x10 σ) σ) σ) (fun r35_ => some r35_))) else (if x3 = 4 then bo (f_X12_beside x8 x10 σ) (fun r37_ => bo (f_X12_beside x6 r37_ σ) (fun r38_ => bo (f_X12_percent (f_X12_greater x5 (f_X12_greater x7 x9 σ) σ) r38_ σ) (fun r39_ => some r39_))) else (if x3 = 5 then bo (f_X12_beside x5 (f_X12_greater x7 x9 σ) σ) (fun r41_ => bo (f_X12_beside x8 x10 σ) (fun r42_ => bo (f_X12_percent r41_ (f_X12_greater x6 r42_ σ) σ) (fun r43_ => some r43_))) else (if x3 = 6 then bo (f_X12_beside (f_X12_greater x5 x7 σ) x9 σ) (fun r45_ => bo (f_X12_beside x6 x8 σ) (fun r46_ => bo (f_X12_percent r45_ (f_X12_greater r46_ x10 σ) σ) (fun r47_ => some r47_))) else (if x3 = 7 then bo (f_X12_beside x7 x9 σ) (fun r49_ => bo (f_X12_beside x6 (f_X12_greater x8 x10 σ) σ) (fun r50_ => bo (f_X12_percent (f_X12_greater x5 r49_ σ) r50_ σ) (fun r51_ => some r51_))) else (if x3 = 8 then bo (f_X12_beside x5 x7 σ) (fun r53_ => bo (f_X12_beside (f_X12_greater x6 x8 σ) x10 σ) (fun r54_ => bo (f_X12_percent (f_X12_greater r53_ x9 σ) r54_ σ) (fun r55_ => some r55_))) else (if x3 = 9 then bo (f_X12_beside (f_X12_greater x5 x7 σ) (f_X12_greater x9 x11 σ) σ) (fun r57_ => bo (f_X12_beside x6 x8 σ) (fun r58_ => bo (f_X12_beside x10 t0 σ) (fun r59_ => bo (f_X12_percent r57_ (f_X12_greater r58_ r59_ σ) σ) (fun r60_ => some r60_)))) else bo (f_X12_beside x5 x7 σ) (fun r61_ => bo (f_X12_beside x9 x11 σ) (fun r62_ => bo (f_X12_beside (f_X12_greater x6 x8 σ) (f_X12_greater x10 t0 σ) σ) (fun r63_ => bo (f_X12_percent (f_X12_greater r61_ r62_ σ) r63_ σ) (fun r64_ => some r64_))))))))))))))
def f_X12_percentOf_140 (r1 rn1 : Nat) (x2 : Int32) (x3 : Int32) (x4 : Int32) (x5 : Int32) (x6 : Int32) (x7 : Int32) (x8 : Int32) (x9 : Int32) (x10 : Int32) (t0 : Int32) (σ : St) : Option Int32 := (if x4 ≤ 3 then f_X12_percentOf_162 r1 rn1 x3 x5 x6 x7 x8 x9 x10 t0 0 σ else grd (ib (x2 + 3) rn1) (grd (ib (σ.1 r1 (x2 + 3).toNatClampNeg) 80) (f_X12_percentOf_162 r1 rn1 x3 x5 x6 x7 x8 x9 x10 t0 (σ.1 6 (σ.1 r1 (x2 + 3).toNatClampNeg).toNatClampNeg) σ)))
def f_X12_percentOf_118 (r1 rn1 : Nat) (x2 : Int32) (x3 : Int32) (x4 : Int32) (x5 : Int32) (x6 : Int32) (x7 : Int32) (x8 : Int32) (x9 : Int32) (t0 : Int32) (σ : St) : Option Int32 := (if x4 ≤ 3 then f_X12_percentOf_140 r1 rn1 x2 x3 x4 x5 x6 x7 x8 x9 t0 0 σ else grd (ib (x2 + 3) rn1) (grd (ib (σ.1 r1 (x2 + 3).toNatClampNeg) 80) (f_X12_percentOf_140 r1 rn1 x2 x3 x4 x5 x6 x7 x8 x9 t0 (σ.1 5 (σ.1 r1 (x2 + 3).toNatClampNeg).toNatClampNeg) σ)))
def f_X12_percentOf_96 (r1 rn1 : Nat) (x2 : Int32) (x3 : Int32) (x4 : Int32) (x5 : Int32) (x6 : Int32) (x7 : Int32) (x8 : Int32) (t0 : Int32) (σ : St) : Option Int32 := (if x4 ≤ 2 then f_X12_percentOf_118 r1 rn1 x2 x3 x4 x5 x6 x7 x8 t0 0 σ else grd (ib (x2 + 2) rn1) (grd (ib (σ.1 r1 (x2 + 2).toNatClampNeg) 80) (f_X12_percentOf_118 r1 rn1 x2 x3 x4 x5 x6 x7 x8 t0 (σ.1 6 (σ.1 r1 (x2 + 2).toNatClampNeg).toNatClampNeg) σ)))
def f_X12_percentOf_74 (r1 rn1 : Nat) (x2 : Int32) (x3 : Int32) (x4 : Int32) (x5 : Int32) (x6 : Int32) (x7 : Int32) (t0 : Int32) (σ : St) : Option Int32 := (if x4 ≤ 2 then f_X12_percentOf_96 r1 rn1 x2 x3 x4 x5 x6 x7 t0 0 σ else grd (ib (x2 + 2) rn1) (grd (ib (σ.1 r1 (x2 + 2).toNatClampNeg) 80) (f_X12_percentOf_96 r1 rn1 x2 x3 x4 x5 x6 x7 t0 (σ.1 5 (σ.1 r1 (x2 + 2).toNatClampNeg).toNatClampNeg) σ)))
def f_X12_percentOf_52 (r1 rn1 : Nat) (x2 : Int32) (x3 : Int32) (x4 : Int32) (x5 : Int32) (x6 : Int32) (t0 : Int32) (σ : St) : Option Int32 := (if x4 ≤ 1 then f_X12_percentOf_74 r1 rn1 x2 x3 x4 x5 x6 t0 0 σ else grd (ib (x2 + 1) rn1) (grd (ib (σ.1 r1 (x2 + 1).toNatClampNeg) 80) (f_X12_percentOf_74 r1 rn1 x2 x3 x4 x5 x6 t0 (σ.1 6 (σ.1 r1 (x2 + 1).toNatClampNeg).toNatClampNeg) σ)))
def f_X12_percentOf (r1 rn1 : Nat) (x2 : Int32) (x3 : Int32) (σ : St) : Option Int32 := grd (ib x3 (xtl.getD 9 0)) (grd (ib x2 rn1) (grd (ib (σ.1 r1 x2.toNatClampNeg) 80) (grd (ib x2 rn1) (grd (ib (σ.1 r1 x2.toNatClampNeg) 80) ((if (((xtb.getD 9 []).getD x3.toNatClampNeg 0) - 48) ≤ 1 then f_X12_percentOf_52 r1 rn1 x2 x3 (((xtb.getD 9 []).getD x3.toNatClampNeg 0) - 48) (σ.1 5 (σ.1 r1 x2.toNatClampNeg).toNatClampNeg) (σ.1 6 (σ.1 r1 x2.toNatClampNeg).toNatClampNeg) 0 σ else grd (ib (x2 + 1) rn1) (grd (ib (σ.1 r1 (x2 + 1).toNatClampNeg) 80) (f_X12_percentOf_52 r1 rn1 x2 x3 (((xtb.getD 9 []).getD x3.toNatClampNeg 0) - 48) (σ.1 5 (σ.1 r1 x2.toNatClampNeg).toNatClampNeg) (σ.1 6 (σ.1 r1 x2.toNatClampNeg).toNatClampNeg) (σ.1 5 (σ.1 r1 (x2 + 1).toNatClampNeg).toNatClampNeg) σ))))))))
section
variable {p : Program} {l : Launch} {e : Env} {s : State} {m : MethodId} {args : Array Value} {below : List Frame} {meth : Method} {c : Code} {g : XG}
set_option maxRecDepth 4000 in
theorem w_X12_percentOf_162 (r1 rn1 : Nat) (hr1 : KM[r1]? = some (.inr (0, rn1))) (σ : St) {r : Int32} (C : xC KM g RX12 cX12_percentOf 13 (some .int) p s m args meth c) : ∀ (x3 : Int32) (x5 : Int32) (x6 : Int32) (x7 : Int32) (x8 : Int32) (x9 : Int32) (x10 : Int32) (x11 : Int32) (t0 : Int32) (H : Heap) (locs : List Loc) (ls : Array Slot), xW KM g s σ H locs → lv_has ls 13 [(0, .ref (g.q 0)), (3, .int x3), (5, .int x5), (6, .int x6), (7, .int x7), (8, .int x8), (9, .int x9), (10, .int x10), (11, .int x11)] → f_X12_percentOf_162 r1 rn1 x3 x5 x6 x7 x8 x9 x10 x11 t0 σ = some r → W p l e rm_X12_percentOf s m args below meth c H locs 0 0 (MQ below (xPost KM g (some (.int r)) σ) args s 0 0 (xA KM g.q)) (F0 m 162 ls [.int t0]) := by
  have hx := C.1
  have hb := C.2.1
  intro x3 x5 x6 x7 x8 x9 x10 x11 t0 H locs ls hW hl h
  unfold f_X12_percentOf_162 at h
  refine lv_istore (lv' := [(12, .int t0), (0, .ref (g.q 0)), (3, .int x3), (5, .int x5), (6, .int x6), (7, .int x7), (8, .int x8), (9, .int x9), (10, .int x10), (11, .int x11)]) hx hb dX12_percentOf_162 hl (Nat.le_of_ble_eq_true rfl) rfl (fun ls hl => ?_)
  refine lv_iload_n hx hb dX12_percentOf_164 rfl (lv_at hl 2 rfl) ?_
  by_cases c24 : x3 = 0
  · have h := xit c24 h
    refine lv_tableIn (off := 55) (tgt := 220) hx hb dX12_percentOf_165 (by rw [c24]; decide) (by rw [c24]; decide) (by rw [c24]; rfl) (by decide) ?_
    refine lv_aload_n hx hb dX12_percentOf_220 rfl (lv_at hl 1 rfl) ?_
    refine lv_iload hx hb dX12_percentOf_221 (lv_at hl 3 rfl) ?_
    refine lv_iload hx hb dX12_percentOf_223 (lv_at hl 4 rfl) ?_
    obtain ⟨r25_, e25, h⟩ := xbo h
    refine xc_V (As := [.int x5, .int x6]) (rest := []) C hW (m_X12_percent x5 x6 _ e25) mf_X12_percent mv_X12_percent ml_X12_398 ⟨rfl, rfl⟩ ⟨Nat.le_of_ble_eq_true rfl, Nat.le_of_ble_eq_true rfl⟩ KM_0 rfl hl.1 rfl rfl (Nat.le_of_ble_eq_true rfl) dX12_percentOf_225 (fun H locs hW => W.eq (g2 := F0 m 228 ls [.int r25_]) rfl ?_)
    cases h
    exact xr_i C hW dX12_percentOf_228
  · have h := xif c24 h
    by_cases c26 : x3 = 1
    · have h := xit c26 h
      refine lv_tableIn (off := 64) (tgt := 229) hx hb dX12_percentOf_165 (by rw [c26]; decide) (by rw [c26]; decide) (by rw [c26]; rfl) (by decide) ?_
      refine lv_aload_n hx hb dX12_percentOf_229 rfl (lv_at hl 1 rfl) ?_
      refine lv_aload_n hx hb dX12_percentOf_230 rfl (lv_at hl 1 rfl) ?_
      refine lv_iload hx hb dX12_percentOf_231 (lv_at hl 3 rfl) ?_
      refine lv_iload hx hb dX12_percentOf_233 (lv_at hl 5 rfl) ?_
      obtain ⟨r27_, e27, h⟩ := xbo h
      refine xc_V (As := [.int x5, .int x7]) (rest := [.ref (g.q 0)]) C hW (m_X12_beside x5 x7 _ e27) mf_X12_beside mv_X12_beside ml_X12_504 ⟨rfl, rfl⟩ ⟨Nat.le_of_ble_eq_true rfl, Nat.le_of_ble_eq_true rfl⟩ KM_0 rfl hl.1 rfl rfl (Nat.le_of_ble_eq_true rfl) dX12_percentOf_235 (fun H locs hW => W.eq (g2 := F0 m 238 ls [.int r27_, .ref (g.q 0)]) rfl ?_)
      refine lv_iload hx hb dX12_percentOf_238 (lv_at hl 4 rfl) ?_
      refine lv_iload hx hb dX12_percentOf_240 (lv_at hl 6 rfl) ?_
      refine xc_S (As := [.int x6, .int x8]) (rest := [.int r27_, .ref (g.q 0)]) C hW (m_X12_greater x6 x8 _ rfl) mf_X12_greater mt_X12_greater ml_X12_381 ⟨rfl, rfl⟩ ⟨Nat.le_of_ble_eq_true rfl, Nat.le_of_ble_eq_true rfl⟩ hl.1 rfl rfl (Nat.le_of_ble_eq_true rfl) dX12_percentOf_242 (fun H locs hW => W.eq (g2 := F0 m 245 ls [.int (f_X12_greater x6 x8 σ), .int r27_, .ref (g.q 0)]) rfl ?_)
      obtain ⟨r28_, e28, h⟩ := xbo h
      refine xc_V (As := [.int r27_, .int (f_X12_greater x6 x8 σ)]) (rest := []) C hW (m_X12_percent r27_ (f_X12_greater x6 x8 σ) _ e28) mf_X12_percent mv_X12_percent ml_X12_398 ⟨rfl, rfl⟩ ⟨Nat.le_of_ble_eq_true rfl, Nat.le_of_ble_eq_true rfl⟩ KM_0 rfl hl.1 rfl rfl (Nat.le_of_ble_eq_true rfl) dX12_percentOf_245 (fun H locs hW => W.eq (g2 := F0 m 248 ls [.int r28_]) rfl ?_)
      cases h
      exact xr_i C hW dX12_percentOf_248
    · have h := xif c26 h
      by_cases c29 : x3 = 2
      · have h := xit c29 h
        refine lv_tableIn (off := 84) (tgt := 249) hx hb dX12_percentOf_165 (by rw [c29]; decide) (by rw [c29]; decide) (by rw [c29]; rfl) (by decide) ?_
        refine lv_aload_n hx hb dX12_percentOf_249 rfl (lv_at hl 1 rfl) ?_
        refine lv_iload hx hb dX12_percentOf_250 (lv_at hl 3 rfl) ?_
        refine lv_iload hx hb dX12_percentOf_252 (lv_at hl 5 rfl) ?_
        refine xc_S (As := [.int x5, .int x7]) (rest := [.ref (g.q 0)]) C hW (m_X12_greater x5 x7 _ rfl) mf_X12_greater mt_X12_greater ml_X12_381 ⟨rfl, rfl⟩ ⟨Nat.le_of_ble_eq_true rfl, Nat.le_of_ble_eq_true rfl⟩ hl.1 rfl rfl (Nat.le_of_ble_eq_true rfl) dX12_percentOf_254 (fun H locs hW => W.eq (g2 := F0 m 257 ls [.int (f_X12_greater x5 x7 σ), .ref (g.q 0)]) rfl ?_)
        refine lv_aload_n hx hb dX12_percentOf_257 rfl (lv_at hl 1 rfl) ?_
        refine lv_iload hx hb dX12_percentOf_258 (lv_at hl 4 rfl) ?_
        refine lv_iload hx hb dX12_percentOf_260 (lv_at hl 6 rfl) ?_
        obtain ⟨r30_, e30, h⟩ := xbo h
        refine xc_V (As := [.int x6, .int x8]) (rest := [.int (f_X12_greater x5 x7 σ), .ref (g.q 0)]) C hW (m_X12_beside x6 x8 _ e30) mf_X12_beside mv_X12_beside ml_X12_504 ⟨rfl, rfl⟩ ⟨Nat.le_of_ble_eq_true rfl, Nat.le_of_ble_eq_true rfl⟩ KM_0 rfl hl.1 rfl rfl (Nat.le_of_ble_eq_true rfl) dX12_percentOf_262 (fun H locs hW => W.eq (g2 := F0 m 265 ls [.int r30_, .int (f_X12_greater x5 x7 σ), .ref (g.q 0)]) rfl ?_)
        obtain ⟨r31_, e31, h⟩ := xbo h
        refine xc_V (As := [.int (f_X12_greater x5 x7 σ), .int r30_]) (rest := []) C hW (m_X12_percent (f_X12_greater x5 x7 σ) r30_ _ e31) mf_X12_percent mv_X12_percent ml_X12_398 ⟨rfl, rfl⟩ ⟨Nat.le_of_ble_eq_true rfl, Nat.le_of_ble_eq_true rfl⟩ KM_0 rfl hl.1 rfl rfl (Nat.le_of_ble_eq_true rfl) dX12_percentOf_265 (fun H locs hW => W.eq (g2 := F0 m 268 ls [.int r31_]) rfl ?_)
        cases h
        exact xr_i C hW dX12_percentOf_268
      · have h := xif c29 h
        by_cases c32 : x3 = 3
        · have h := xit c32 h
          refine lv_tableIn (off := 104) (tgt := 269) hx hb dX12_percentOf_165 (by rw [c32]; decide) (by rw [c32]; decide) (by rw [c32]; rfl) (by decide) ?_
          refine lv_aload_n hx hb dX12_percentOf_269 rfl (lv_at hl 1 rfl) ?_
          refine lv_aload_n hx hb dX12_percentOf_270 rfl (lv_at hl 1 rfl) ?_
          refine lv_iload hx hb dX12_percentOf_271 (lv_at hl 3 rfl) ?_
          refine lv_aload_n hx hb dX12_percentOf_273 rfl (lv_at hl 1 rfl) ?_
          refine lv_iload hx hb dX12_percentOf_274 (lv_at hl 5 rfl) ?_
          refine lv_iload hx hb dX12_percentOf_276 (lv_at hl 7 rfl) ?_
          obtain ⟨r33_, e33, h⟩ := xbo h
          refine xc_V (As := [.int x7, .int x9]) (rest := [.int x5, .ref (g.q 0), .ref (g.q 0)]) C hW (m_X12_beside x7 x9 _ e33) mf_X12_beside mv_X12_beside ml_X12_504 ⟨rfl, rfl⟩ ⟨Nat.le_of_ble_eq_true rfl, Nat.le_of_ble_eq_true rfl⟩ KM_0 rfl hl.1 rfl rfl (Nat.le_of_ble_eq_true rfl) dX12_percentOf_278 (fun H locs hW => W.eq (g2 := F0 m 281 ls [.int r33_, .int x5, .ref (g.q 0), .ref (g.q 0)]) rfl ?_)
          obtain ⟨r34_, e34, h⟩ := xbo h
          refine xc_V (As := [.int x5, .int r33_]) (rest := [.ref (g.q 0)]) C hW (m_X12_beside x5 r33_ _ e34) mf_X12_beside mv_X12_beside ml_X12_504 ⟨rfl, rfl⟩ ⟨Nat.le_of_ble_eq_true rfl, Nat.le_of_ble_eq_true rfl⟩ KM_0 rfl hl.1 rfl rfl (Nat.le_of_ble_eq_true rfl) dX12_percentOf_281 (fun H locs hW => W.eq (g2 := F0 m 284 ls [.int r34_, .ref (g.q 0)]) rfl ?_)
          refine lv_iload hx hb dX12_percentOf_284 (lv_at hl 4 rfl) ?_
          refine lv_iload hx hb dX12_percentOf_286 (lv_at hl 6 rfl) ?_
          refine lv_iload hx hb dX12_percentOf_288 (lv_at hl 8 rfl) ?_
          refine xc_S (As := [.int x8, .int x10]) (rest := [.int x6, .int r34_, .ref (g.q 0)]) C hW (m_X12_greater x8 x10 _ rfl) mf_X12_greater mt_X12_greater ml_X12_381 ⟨rfl, rfl⟩ ⟨Nat.le_of_ble_eq_true rfl, Nat.le_of_ble_eq_true rfl⟩ hl.1 rfl rfl (Nat.le_of_ble_eq_true rfl) dX12_percentOf_290 (fun H locs hW => W.eq (g2 := F0 m 293 ls [.int (f_X12_greater x8 x10 σ), .int x6, .int r34_, .ref (g.q 0)]) rfl ?_)
          refine xc_S (As := [.int x6, .int (f_X12_greater x8 x10 σ)]) (rest := [.int r34_, .ref (g.q 0)]) C hW (m_X12_greater x6 (f_X12_greater x8 x10 σ) _ rfl) mf_X12_greater mt_X12_greater ml_X12_381 ⟨rfl, rfl⟩ ⟨Nat.le_of_ble_eq_true rfl, Nat.le_of_ble_eq_true rfl⟩ hl.1 rfl rfl (Nat.le_of_ble_eq_true rfl) dX12_percentOf_293 (fun H locs hW => W.eq (g2 := F0 m 296 ls [.int (f_X12_greater x6 (f_X12_greater x8 x10 σ) σ), .int r34_, .ref (g.q 0)]) rfl ?_)
          obtain ⟨r35_, e35, h⟩ := xbo h
          refine xc_V (As := [.int r34_, .int (f_X12_greater x6 (f_X12_greater x8 x10 σ) σ)]) (rest := []) C hW (m_X12_percent r34_ (f_X12_greater x6 (f_X12_greater x8 x10 σ) σ) _ e35) mf_X12_percent mv_X12_percent ml_X12_398 ⟨rfl, rfl⟩ ⟨Nat.le_of_ble_eq_true rfl, Nat.le_of_ble_eq_true rfl⟩ KM_0 rfl hl.1 rfl rfl (Nat.le_of_ble_eq_true rfl) dX12_percentOf_296 (fun H locs hW => W.eq (g2 := F0 m 299 ls [.int r35_]) rfl ?_)
          cases h
          exact xr_i C hW dX12_percentOf_299
        · have h := xif c32 h
          by_cases c36 : x3 = 4
          · have h := xit c36 h
            refine lv_tableIn (off := 135) (tgt := 300) hx hb dX12_percentOf_165 (by rw [c36]; decide) (by rw [c36]; decide) (by rw [c36]; rfl) (by decide) ?_
            refine lv_aload_n hx hb dX12_percentOf_300 rfl (lv_at hl 1 rfl) ?_
            refine lv_iload hx hb dX12_percentOf_301 (lv_at hl 3 rfl) ?_
            refine lv_iload hx hb dX12_percentOf_303 (lv_at hl 5 rfl) ?_
            refine lv_iload hx hb dX12_percentOf_305 (lv_at hl 7 rfl) ?_
            refine xc_S (As := [.int x7, .int x9]) (rest := [.int x5, .ref (g.q 0)]) C hW (m_X12_greater x7 x9 _ rfl) mf_X12_greater mt_X12_greater ml_X12_381 ⟨rfl, rfl⟩ ⟨Nat.le_of_ble_eq_true rfl, Nat.le_of_ble_eq_true rfl⟩ hl.1 rfl rfl (Nat.le_of_ble_eq_true rfl) dX12_percentOf_307 (fun H locs hW => W.eq (g2 := F0 m 310 ls [.int (f_X12_greater x7 x9 σ), .int x5, .ref (g.q 0)]) rfl ?_)
            refine xc_S (As := [.int x5, .int (f_X12_greater x7 x9 σ)]) (rest := [.ref (g.q 0)]) C hW (m_X12_greater x5 (f_X12_greater x7 x9 σ) _ rfl) mf_X12_greater mt_X12_greater ml_X12_381 ⟨rfl, rfl⟩ ⟨Nat.le_of_ble_eq_true rfl, Nat.le_of_ble_eq_true rfl⟩ hl.1 rfl rfl (Nat.le_of_ble_eq_true rfl) dX12_percentOf_310 (fun H locs hW => W.eq (g2 := F0 m 313 ls [.int (f_X12_greater x5 (f_X12_greater x7 x9 σ) σ), .ref (g.q 0)]) rfl ?_)
            refine lv_aload_n hx hb dX12_percentOf_313 rfl (lv_at hl 1 rfl) ?_
            refine lv_iload hx hb dX12_percentOf_314 (lv_at hl 4 rfl) ?_
            refine lv_aload_n hx hb dX12_percentOf_316 rfl (lv_at hl 1 rfl) ?_
            refine lv_iload hx hb dX12_percentOf_317 (lv_at hl 6 rfl) ?_
            refine lv_iload hx hb dX12_percentOf_319 (lv_at hl 8 rfl) ?_
            obtain ⟨r37_, e37, h⟩ := xbo h
            refine xc_V (As := [.int x8, .int x10]) (rest := [.int x6, .ref (g.q 0), .int (f_X12_greater x5 (f_X12_greater x7 x9 σ) σ), .ref (g.q 0)]) C hW (m_X12_beside x8 x10 _ e37) mf_X12_beside mv_X12_beside ml_X12_504 ⟨rfl, rfl⟩ ⟨Nat.le_of_ble_eq_true rfl, Nat.le_of_ble_eq_true rfl⟩ KM_0 rfl hl.1 rfl rfl (Nat.le_of_ble_eq_true rfl) dX12_percentOf_321 (fun H locs hW => W.eq (g2 := F0 m 324 ls [.int r37_, .int x6, .ref (g.q 0), .int (f_X12_greater x5 (f_X12_greater x7 x9 σ) σ), .ref (g.q 0)]) rfl ?_)
            obtain ⟨r38_, e38, h⟩ := xbo h
            refine xc_V (As := [.int x6, .int r37_]) (rest := [.int (f_X12_greater x5 (f_X12_greater x7 x9 σ) σ), .ref (g.q 0)]) C hW (m_X12_beside x6 r37_ _ e38) mf_X12_beside mv_X12_beside ml_X12_504 ⟨rfl, rfl⟩ ⟨Nat.le_of_ble_eq_true rfl, Nat.le_of_ble_eq_true rfl⟩ KM_0 rfl hl.1 rfl rfl (Nat.le_of_ble_eq_true rfl) dX12_percentOf_324 (fun H locs hW => W.eq (g2 := F0 m 327 ls [.int r38_, .int (f_X12_greater x5 (f_X12_greater x7 x9 σ) σ), .ref (g.q 0)]) rfl ?_)
            obtain ⟨r39_, e39, h⟩ := xbo h
            refine xc_V (As := [.int (f_X12_greater x5 (f_X12_greater x7 x9 σ) σ), .int r38_]) (rest := []) C hW (m_X12_percent (f_X12_greater x5 (f_X12_greater x7 x9 σ) σ) r38_ _ e39) mf_X12_percent mv_X12_percent ml_X12_398 ⟨rfl, rfl⟩ ⟨Nat.le_of_ble_eq_true rfl, Nat.le_of_ble_eq_true rfl⟩ KM_0 rfl hl.1 rfl rfl (Nat.le_of_ble_eq_true rfl) dX12_percentOf_327 (fun H locs hW => W.eq (g2 := F0 m 330 ls [.int r39_]) rfl ?_)
            cases h
            exact xr_i C hW dX12_percentOf_330
          · have h := xif c36 h
            by_cases c40 : x3 = 5
            · have h := xit c40 h
              refine lv_tableIn (off := 166) (tgt := 331) hx hb dX12_percentOf_165 (by rw [c40]; decide) (by rw [c40]; decide) (by rw [c40]; rfl) (by decide) ?_
              refine lv_aload_n hx hb dX12_percentOf_331 rfl (lv_at hl 1 rfl) ?_
              refine lv_aload_n hx hb dX12_percentOf_332 rfl (lv_at hl 1 rfl) ?_
              refine lv_iload hx hb dX12_percentOf_333 (lv_at hl 3 rfl) ?_
              refine lv_iload hx hb dX12_percentOf_335 (lv_at hl 5 rfl) ?_
              refine lv_iload hx hb dX12_percentOf_337 (lv_at hl 7 rfl) ?_
              refine xc_S (As := [.int x7, .int x9]) (rest := [.int x5, .ref (g.q 0), .ref (g.q 0)]) C hW (m_X12_greater x7 x9 _ rfl) mf_X12_greater mt_X12_greater ml_X12_381 ⟨rfl, rfl⟩ ⟨Nat.le_of_ble_eq_true rfl, Nat.le_of_ble_eq_true rfl⟩ hl.1 rfl rfl (Nat.le_of_ble_eq_true rfl) dX12_percentOf_339 (fun H locs hW => W.eq (g2 := F0 m 342 ls [.int (f_X12_greater x7 x9 σ), .int x5, .ref (g.q 0), .ref (g.q 0)]) rfl ?_)
              obtain ⟨r41_, e41, h⟩ := xbo h
              refine xc_V (As := [.int x5, .int (f_X12_greater x7 x9 σ)]) (rest := [.ref (g.q 0)]) C hW (m_X12_beside x5 (f_X12_greater x7 x9 σ) _ e41) mf_X12_beside mv_X12_beside ml_X12_504 ⟨rfl, rfl⟩ ⟨Nat.le_of_ble_eq_true rfl, Nat.le_of_ble_eq_true rfl⟩ KM_0 rfl hl.1 rfl rfl (Nat.le_of_ble_eq_true rfl) dX12_percentOf_342 (fun H locs hW => W.eq (g2 := F0 m 345 ls [.int r41_, .ref (g.q 0)]) rfl ?_)
              refine lv_iload hx hb dX12_percentOf_345 (lv_at hl 4 rfl) ?_
              refine lv_aload_n hx hb dX12_percentOf_347 rfl (lv_at hl 1 rfl) ?_
              refine lv_iload hx hb dX12_percentOf_348 (lv_at hl 6 rfl) ?_
              refine lv_iload hx hb dX12_percentOf_350 (lv_at hl 8 rfl) ?_
              obtain ⟨r42_, e42, h⟩ := xbo h
              refine xc_V (As := [.int x8, .int x10]) (rest := [.int x6, .int r41_, .ref (g.q 0)]) C hW (m_X12_beside x8 x10 _ e42) mf_X12_beside mv_X12_beside ml_X12_504 ⟨rfl, rfl⟩ ⟨Nat.le_of_ble_eq_true rfl, Nat.le_of_ble_eq_true rfl⟩ KM_0 rfl hl.1 rfl rfl (Nat.le_of_ble_eq_true rfl) dX12_percentOf_352 (fun H locs hW => W.eq (g2 := F0 m 355 ls [.int r42_, .int x6, .int r41_, .ref (g.q 0)]) rfl ?_)
              refine xc_S (As := [.int x6, .int r42_]) (rest := [.int r41_, .ref (g.q 0)]) C hW (m_X12_greater x6 r42_ _ rfl) mf_X12_greater mt_X12_greater ml_X12_381 ⟨rfl, rfl⟩ ⟨Nat.le_of_ble_eq_true rfl, Nat.le_of_ble_eq_true rfl⟩ hl.1 rfl rfl (Nat.le_of_ble_eq_true rfl) dX12_percentOf_355 (fun H locs hW => W.eq (g2 := F0 m 358 ls [.int (f_X12_greater x6 r42_ σ), .int r41_, .ref (g.q 0)]) rfl ?_)
              obtain ⟨r43_, e43, h⟩ := xbo h
              refine xc_V (As := [.int r41_, .int (f_X12_greater x6 r42_ σ)]) (rest := []) C hW (m_X12_percent r41_ (f_X12_greater x6 r42_ σ) _ e43) mf_X12_percent mv_X12_percent ml_X12_398 ⟨rfl, rfl⟩ ⟨Nat.le_of_ble_eq_true rfl, Nat.le_of_ble_eq_true rfl⟩ KM_0 rfl hl.1 rfl rfl (Nat.le_of_ble_eq_true rfl) dX12_percentOf_358 (fun H locs hW => W.eq (g2 := F0 m 361 ls [.int r43_]) rfl ?_)
              cases h
              exact xr_i C hW dX12_percentOf_361
            · have h := xif c40 h
              by_cases c44 : x3 = 6
              · have h := xit c44 h
                refine lv_tableIn (off := 197) (tgt := 362) hx hb dX12_percentOf_165 (by rw [c44]; decide) (by rw [c44]; decide) (by rw [c44]; rfl) (by decide) ?_
                refine lv_aload_n hx hb dX12_percentOf_362 rfl (lv_at hl 1 rfl) ?_
                refine lv_aload_n hx hb dX12_percentOf_363 rfl (lv_at hl 1 rfl) ?_
                refine lv_iload hx hb dX12_percentOf_364 (lv_at hl 3 rfl) ?_
                refine lv_iload hx hb dX12_percentOf_366 (lv_at hl 5 rfl) ?_
                refine xc_S (As := [.int x5, .int x7]) (rest := [.ref (g.q 0), .ref (g.q 0)]) C hW (m_X12_greater x5 x7 _ rfl) mf_X12_greater mt_X12_greater ml_X12_381 ⟨rfl, rfl⟩ ⟨Nat.le_of_ble_eq_true rfl, Nat.le_of_ble_eq_true rfl⟩ hl.1 rfl rfl (Nat.le_of_ble_eq_true rfl) dX12_percentOf_368 (fun H locs hW => W.eq (g2 := F0 m 371 ls [.int (f_X12_greater x5 x7 σ), .ref (g.q 0), .ref (g.q 0)]) rfl ?_)
                refine lv_iload hx hb dX12_percentOf_371 (lv_at hl 7 rfl) ?_
                obtain ⟨r45_, e45, h⟩ := xbo h
                refine xc_V (As := [.int (f_X12_greater x5 x7 σ), .int x9]) (rest := [.ref (g.q 0)]) C hW (m_X12_beside (f_X12_greater x5 x7 σ) x9 _ e45) mf_X12_beside mv_X12_beside ml_X12_504 ⟨rfl, rfl⟩ ⟨Nat.le_of_ble_eq_true rfl, Nat.le_of_ble_eq_true rfl⟩ KM_0 rfl hl.1 rfl rfl (Nat.le_of_ble_eq_true rfl) dX12_percentOf_373 (fun H locs hW => W.eq (g2 := F0 m 376 ls [.int r45_, .ref (g.q 0)]) rfl ?_)
                refine lv_aload_n hx hb dX12_percentOf_376 rfl (lv_at hl 1 rfl) ?_
                refine lv_iload hx hb dX12_percentOf_377 (lv_at hl 4 rfl) ?_
                refine lv_iload hx hb dX12_percentOf_379 (lv_at hl 6 rfl) ?_
                obtain ⟨r46_, e46, h⟩ := xbo h
                refine xc_V (As := [.int x6, .int x8]) (rest := [.int r45_, .ref (g.q 0)]) C hW (m_X12_beside x6 x8 _ e46) mf_X12_beside mv_X12_beside ml_X12_504 ⟨rfl, rfl⟩ ⟨Nat.le_of_ble_eq_true rfl, Nat.le_of_ble_eq_true rfl⟩ KM_0 rfl hl.1 rfl rfl (Nat.le_of_ble_eq_true rfl) dX12_percentOf_381 (fun H locs hW => W.eq (g2 := F0 m 384 ls [.int r46_, .int r45_, .ref (g.q 0)]) rfl ?_)
                refine lv_iload hx hb dX12_percentOf_384 (lv_at hl 8 rfl) ?_
                refine xc_S (As := [.int r46_, .int x10]) (rest := [.int r45_, .ref (g.q 0)]) C hW (m_X12_greater r46_ x10 _ rfl) mf_X12_greater mt_X12_greater ml_X12_381 ⟨rfl, rfl⟩ ⟨Nat.le_of_ble_eq_true rfl, Nat.le_of_ble_eq_true rfl⟩ hl.1 rfl rfl (Nat.le_of_ble_eq_true rfl) dX12_percentOf_386 (fun H locs hW => W.eq (g2 := F0 m 389 ls [.int (f_X12_greater r46_ x10 σ), .int r45_, .ref (g.q 0)]) rfl ?_)
                obtain ⟨r47_, e47, h⟩ := xbo h
                refine xc_V (As := [.int r45_, .int (f_X12_greater r46_ x10 σ)]) (rest := []) C hW (m_X12_percent r45_ (f_X12_greater r46_ x10 σ) _ e47) mf_X12_percent mv_X12_percent ml_X12_398 ⟨rfl, rfl⟩ ⟨Nat.le_of_ble_eq_true rfl, Nat.le_of_ble_eq_true rfl⟩ KM_0 rfl hl.1 rfl rfl (Nat.le_of_ble_eq_true rfl) dX12_percentOf_389 (fun H locs hW => W.eq (g2 := F0 m 392 ls [.int r47_]) rfl ?_)
                cases h
                exact xr_i C hW dX12_percentOf_392
              · have h := xif c44 h
                by_cases c48 : x3 = 7
                · have h := xit c48 h
                  refine lv_tableIn (off := 228) (tgt := 393) hx hb dX12_percentOf_165 (by rw [c48]; decide) (by rw [c48]; decide) (by rw [c48]; rfl) (by decide) ?_
                  refine lv_aload_n hx hb dX12_percentOf_393 rfl (lv_at hl 1 rfl) ?_
                  refine lv_iload hx hb dX12_percentOf_394 (lv_at hl 3 rfl) ?_
                  refine lv_aload_n hx hb dX12_percentOf_396 rfl (lv_at hl 1 rfl) ?_
                  refine lv_iload hx hb dX12_percentOf_397 (lv_at hl 5 rfl) ?_
                  refine lv_iload hx hb dX12_percentOf_399 (lv_at hl 7 rfl) ?_
                  obtain ⟨r49_, e49, h⟩ := xbo h
                  refine xc_V (As := [.int x7, .int x9]) (rest := [.int x5, .ref (g.q 0)]) C hW (m_X12_beside x7 x9 _ e49) mf_X12_beside mv_X12_beside ml_X12_504 ⟨rfl, rfl⟩ ⟨Nat.le_of_ble_eq_true rfl, Nat.le_of_ble_eq_true rfl⟩ KM_0 rfl hl.1 rfl rfl (Nat.le_of_ble_eq_true rfl) dX12_percentOf_401 (fun H locs hW => W.eq (g2 := F0 m 404 ls [.int r49_, .int x5, .ref (g.q 0)]) rfl ?_)
                  refine xc_S (As := [.int x5, .int r49_]) (rest := [.ref (g.q 0)]) C hW (m_X12_greater x5 r49_ _ rfl) mf_X12_greater mt_X12_greater ml_X12_381 ⟨rfl, rfl⟩ ⟨Nat.le_of_ble_eq_true rfl, Nat.le_of_ble_eq_true rfl⟩ hl.1 rfl rfl (Nat.le_of_ble_eq_true rfl) dX12_percentOf_404 (fun H locs hW => W.eq (g2 := F0 m 407 ls [.int (f_X12_greater x5 r49_ σ), .ref (g.q 0)]) rfl ?_)
                  refine lv_aload_n hx hb dX12_percentOf_407 rfl (lv_at hl 1 rfl) ?_
                  refine lv_iload hx hb dX12_percentOf_408 (lv_at hl 4 rfl) ?_
                  refine lv_iload hx hb dX12_percentOf_410 (lv_at hl 6 rfl) ?_
                  refine lv_iload hx hb dX12_percentOf_412 (lv_at hl 8 rfl) ?_
                  refine xc_S (As := [.int x8, .int x10]) (rest := [.int x6, .ref (g.q 0), .int (f_X12_greater x5 r49_ σ), .ref (g.q 0)]) C hW (m_X12_greater x8 x10 _ rfl) mf_X12_greater mt_X12_greater ml_X12_381 ⟨rfl, rfl⟩ ⟨Nat.le_of_ble_eq_true rfl, Nat.le_of_ble_eq_true rfl⟩ hl.1 rfl rfl (Nat.le_of_ble_eq_true rfl) dX12_percentOf_414 (fun H locs hW => W.eq (g2 := F0 m 417 ls [.int (f_X12_greater x8 x10 σ), .int x6, .ref (g.q 0), .int (f_X12_greater x5 r49_ σ), .ref (g.q 0)]) rfl ?_)
                  obtain ⟨r50_, e50, h⟩ := xbo h
                  refine xc_V (As := [.int x6, .int (f_X12_greater x8 x10 σ)]) (rest := [.int (f_X12_greater x5 r49_ σ), .ref (g.q 0)]) C hW (m_X12_beside x6 (f_X12_greater x8 x10 σ) _ e50) mf_X12_beside mv_X12_beside ml_X12_504 ⟨rfl, rfl⟩ ⟨Nat.le_of_ble_eq_true rfl, Nat.le_of_ble_eq_true rfl⟩ KM_0 rfl hl.1 rfl rfl (Nat.le_of_ble_eq_true rfl) dX12_percentOf_417 (fun H locs hW => W.eq (g2 := F0 m 420 ls [.int r50_, .int (f_X12_greater x5 r49_ σ), .ref (g.q 0)]) rfl ?_)
                  obtain ⟨r51_, e51, h⟩ := xbo h
                  refine xc_V (As := [.int (f_X12_greater x5 r49_ σ), .int r50_]) (rest := []) C hW (m_X12_percent (f_X12_greater x5 r49_ σ) r50_ _ e51) mf_X12_percent mv_X12_percent ml_X12_398 ⟨rfl, rfl⟩ ⟨Nat.le_of_ble_eq_true rfl, Nat.le_of_ble_eq_true rfl⟩ KM_0 rfl hl.1 rfl rfl (Nat.le_of_ble_eq_true rfl) dX12_percentOf_420 (fun H locs hW => W.eq (g2 := F0 m 423 ls [.int r51_]) rfl ?_)
                  cases h
                  exact xr_i C hW dX12_percentOf_423
                · have h := xif c48 h
                  by_cases c52 : x3 = 8
                  · have h := xit c52 h
                    refine lv_tableIn (off := 259) (tgt := 424) hx hb dX12_percentOf_165 (by rw [c52]; decide) (by rw [c52]; decide) (by rw [c52]; rfl) (by decide) ?_
                    refine lv_aload_n hx hb dX12_percentOf_424 rfl (lv_at hl 1 rfl) ?_
                    refine lv_aload_n hx hb dX12_percentOf_425 rfl (lv_at hl 1 rfl) ?_
                    refine lv_iload hx hb dX12_percentOf_426 (lv_at hl 3 rfl) ?_
                    refine lv_iload hx hb dX12_percentOf_428 (lv_at hl 5 rfl) ?_
                    obtain ⟨r53_, e53, h⟩ := xbo h
                    refine xc_V (As := [.int x5, .int x7]) (rest := [.ref (g.q 0)]) C hW (m_X12_beside x5 x7 _ e53) mf_X12_beside mv_X12_beside ml_X12_504 ⟨rfl, rfl⟩ ⟨Nat.le_of_ble_eq_true rfl, Nat.le_of_ble_eq_true rfl⟩ KM_0 rfl hl.1 rfl rfl (Nat.le_of_ble_eq_true rfl) dX12_percentOf_430 (fun H locs hW => W.eq (g2 := F0 m 433 ls [.int r53_, .ref (g.q 0)]) rfl ?_)
                    refine lv_iload hx hb dX12_percentOf_433 (lv_at hl 7 rfl) ?_
                    refine xc_S (As := [.int r53_, .int x9]) (rest := [.ref (g.q 0)]) C hW (m_X12_greater r53_ x9 _ rfl) mf_X12_greater mt_X12_greater ml_X12_381 ⟨rfl, rfl⟩ ⟨Nat.le_of_ble_eq_true rfl, Nat.le_of_ble_eq_true rfl⟩ hl.1 rfl rfl (Nat.le_of_ble_eq_true rfl) dX12_percentOf_435 (fun H locs hW => W.eq (g2 := F0 m 438 ls [.int (f_X12_greater r53_ x9 σ), .ref (g.q 0)]) rfl ?_)
                    refine lv_aload_n hx hb dX12_percentOf_438 rfl (lv_at hl 1 rfl) ?_
                    refine lv_iload hx hb dX12_percentOf_439 (lv_at hl 4 rfl) ?_
                    refine lv_iload hx hb dX12_percentOf_441 (lv_at hl 6 rfl) ?_
                    refine xc_S (As := [.int x6, .int x8]) (rest := [.ref (g.q 0), .int (f_X12_greater r53_ x9 σ), .ref (g.q 0)]) C hW (m_X12_greater x6 x8 _ rfl) mf_X12_greater mt_X12_greater ml_X12_381 ⟨rfl, rfl⟩ ⟨Nat.le_of_ble_eq_true rfl, Nat.le_of_ble_eq_true rfl⟩ hl.1 rfl rfl (Nat.le_of_ble_eq_true rfl) dX12_percentOf_443 (fun H locs hW => W.eq (g2 := F0 m 446 ls [.int (f_X12_greater x6 x8 σ), .ref (g.q 0), .int (f_X12_greater r53_ x9 σ), .ref (g.q 0)]) rfl ?_)
                    refine lv_iload hx hb dX12_percentOf_446 (lv_at hl 8 rfl) ?_
                    obtain ⟨r54_, e54, h⟩ := xbo h
                    refine xc_V (As := [.int (f_X12_greater x6 x8 σ), .int x10]) (rest := [.int (f_X12_greater r53_ x9 σ), .ref (g.q 0)]) C hW (m_X12_beside (f_X12_greater x6 x8 σ) x10 _ e54) mf_X12_beside mv_X12_beside ml_X12_504 ⟨rfl, rfl⟩ ⟨Nat.le_of_ble_eq_true rfl, Nat.le_of_ble_eq_true rfl⟩ KM_0 rfl hl.1 rfl rfl (Nat.le_of_ble_eq_true rfl) dX12_percentOf_448 (fun H locs hW => W.eq (g2 := F0 m 451 ls [.int r54_, .int (f_X12_greater r53_ x9 σ), .ref (g.q 0)]) rfl ?_)
                    obtain ⟨r55_, e55, h⟩ := xbo h
                    refine xc_V (As := [.int (f_X12_greater r53_ x9 σ), .int r54_]) (rest := []) C hW (m_X12_percent (f_X12_greater r53_ x9 σ) r54_ _ e55) mf_X12_percent mv_X12_percent ml_X12_398 ⟨rfl, rfl⟩ ⟨Nat.le_of_ble_eq_true rfl, Nat.le_of_ble_eq_true rfl⟩ KM_0 rfl hl.1 rfl rfl (Nat.le_of_ble_eq_true rfl) dX12_percentOf_451 (fun H locs hW => W.eq (g2 := F0 m 454 ls [.int r55_]) rfl ?_)
                    cases h
                    exact xr_i C hW dX12_percentOf_454
                  · have h := xif c52 h
                    by_cases c56 : x3 = 9
                    · have h := xit c56 h
                      refine lv_tableIn (off := 290) (tgt := 455) hx hb dX12_percentOf_165 (by rw [c56]; decide) (by rw [c56]; decide) (by rw [c56]; rfl) (by decide) ?_
                      refine lv_aload_n hx hb dX12_percentOf_455 rfl (lv_at hl 1 rfl) ?_
                      refine lv_aload_n hx hb dX12_percentOf_456 rfl (lv_at hl 1 rfl) ?_
                      refine lv_iload hx hb dX12_percentOf_457 (lv_at hl 3 rfl) ?_
                      refine lv_iload hx hb dX12_percentOf_459 (lv_at hl 5 rfl) ?_
                      refine xc_S (As := [.int x5, .int x7]) (rest := [.ref (g.q 0), .ref (g.q 0)]) C hW (m_X12_greater x5 x7 _ rfl) mf_X12_greater mt_X12_greater ml_X12_381 ⟨rfl, rfl⟩ ⟨Nat.le_of_ble_eq_true rfl, Nat.le_of_ble_eq_true rfl⟩ hl.1 rfl rfl (Nat.le_of_ble_eq_true rfl) dX12_percentOf_461 (fun H locs hW => W.eq (g2 := F0 m 464 ls [.int (f_X12_greater x5 x7 σ), .ref (g.q 0), .ref (g.q 0)]) rfl ?_)
                      refine lv_iload hx hb dX12_percentOf_464 (lv_at hl 7 rfl) ?_
                      refine lv_iload hx hb dX12_percentOf_466 (lv_at hl 9 rfl) ?_
                      refine xc_S (As := [.int x9, .int x11]) (rest := [.int (f_X12_greater x5 x7 σ), .ref (g.q 0), .ref (g.q 0)]) C hW (m_X12_greater x9 x11 _ rfl) mf_X12_greater mt_X12_greater ml_X12_381 ⟨rfl, rfl⟩ ⟨Nat.le_of_ble_eq_true rfl, Nat.le_of_ble_eq_true rfl⟩ hl.1 rfl rfl (Nat.le_of_ble_eq_true rfl) dX12_percentOf_468 (fun H locs hW => W.eq (g2 := F0 m 471 ls [.int (f_X12_greater x9 x11 σ), .int (f_X12_greater x5 x7 σ), .ref (g.q 0), .ref (g.q 0)]) rfl ?_)
                      obtain ⟨r57_, e57, h⟩ := xbo h
                      refine xc_V (As := [.int (f_X12_greater x5 x7 σ), .int (f_X12_greater x9 x11 σ)]) (rest := [.ref (g.q 0)]) C hW (m_X12_beside (f_X12_greater x5 x7 σ) (f_X12_greater x9 x11 σ) _ e57) mf_X12_beside mv_X12_beside ml_X12_504 ⟨rfl, rfl⟩ ⟨Nat.le_of_ble_eq_true rfl, Nat.le_of_ble_eq_true rfl⟩ KM_0 rfl hl.1 rfl rfl (Nat.le_of_ble_eq_true rfl) dX12_percentOf_471 (fun H locs hW => W.eq (g2 := F0 m 474 ls [.int r57_, .ref (g.q 0)]) rfl ?_)
                      refine lv_aload_n hx hb dX12_percentOf_474 rfl (lv_at hl 1 rfl) ?_
                      refine lv_iload hx hb dX12_percentOf_475 (lv_at hl 4 rfl) ?_
                      refine lv_iload hx hb dX12_percentOf_477 (lv_at hl 6 rfl) ?_
                      obtain ⟨r58_, e58, h⟩ := xbo h
                      refine xc_V (As := [.int x6, .int x8]) (rest := [.int r57_, .ref (g.q 0)]) C hW (m_X12_beside x6 x8 _ e58) mf_X12_beside mv_X12_beside ml_X12_504 ⟨rfl, rfl⟩ ⟨Nat.le_of_ble_eq_true rfl, Nat.le_of_ble_eq_true rfl⟩ KM_0 rfl hl.1 rfl rfl (Nat.le_of_ble_eq_true rfl) dX12_percentOf_479 (fun H locs hW => W.eq (g2 := F0 m 482 ls [.int r58_, .int r57_, .ref (g.q 0)]) rfl ?_)
                      refine lv_aload_n hx hb dX12_percentOf_482 rfl (lv_at hl 1 rfl) ?_
                      refine lv_iload hx hb dX12_percentOf_483 (lv_at hl 8 rfl) ?_
                      refine lv_iload hx hb dX12_percentOf_485 (lv_at hl 0 rfl) ?_
                      obtain ⟨r59_, e59, h⟩ := xbo h
                      refine xc_V (As := [.int x10, .int t0]) (rest := [.int r58_, .int r57_, .ref (g.q 0)]) C hW (m_X12_beside x10 t0 _ e59) mf_X12_beside mv_X12_beside ml_X12_504 ⟨rfl, rfl⟩ ⟨Nat.le_of_ble_eq_true rfl, Nat.le_of_ble_eq_true rfl⟩ KM_0 rfl hl.1 rfl rfl (Nat.le_of_ble_eq_true rfl) dX12_percentOf_487 (fun H locs hW => W.eq (g2 := F0 m 490 ls [.int r59_, .int r58_, .int r57_, .ref (g.q 0)]) rfl ?_)
                      refine xc_S (As := [.int r58_, .int r59_]) (rest := [.int r57_, .ref (g.q 0)]) C hW (m_X12_greater r58_ r59_ _ rfl) mf_X12_greater mt_X12_greater ml_X12_381 ⟨rfl, rfl⟩ ⟨Nat.le_of_ble_eq_true rfl, Nat.le_of_ble_eq_true rfl⟩ hl.1 rfl rfl (Nat.le_of_ble_eq_true rfl) dX12_percentOf_490 (fun H locs hW => W.eq (g2 := F0 m 493 ls [.int (f_X12_greater r58_ r59_ σ), .int r57_, .ref (g.q 0)]) rfl ?_)
                      obtain ⟨r60_, e60, h⟩ := xbo h
                      refine xc_V (As := [.int r57_, .int (f_X12_greater r58_ r59_ σ)]) (rest := []) C hW (m_X12_percent r57_ (f_X12_greater r58_ r59_ σ) _ e60) mf_X12_percent mv_X12_percent ml_X12_398 ⟨rfl, rfl⟩ ⟨Nat.le_of_ble_eq_true rfl, Nat.le_of_ble_eq_true rfl⟩ KM_0 rfl hl.1 rfl rfl (Nat.le_of_ble_eq_true rfl) dX12_percentOf_493 (fun H locs hW => W.eq (g2 := F0 m 496 ls [.int r60_]) rfl ?_)
                      cases h
                      exact xr_i C hW dX12_percentOf_496
                    · have h := xif c56 h
                      refine lv_tableOut (tgt := 497) hx hb dX12_percentOf_165 (xsw_out (fun k h1 h2 => ?_)) (by decide) ?_
                      · rcases (show k = 0 ∨ k = 1 ∨ k = 2 ∨ k = 3 ∨ k = 4 ∨ k = 5 ∨ k = 6 ∨ k = 7 ∨ k = 8 ∨ k = 9 by omega) with rfl | rfl | rfl | rfl | rfl | rfl | rfl | rfl | rfl | rfl
                        · exact c24
                        · exact c26
                        · exact c29
                        · exact c32
                        · exact c36
                        · exact c40
                        · exact c44
                        · exact c48
                        · exact c52
                        · exact c56
                      · refine lv_aload_n hx hb dX12_percentOf_497 rfl (lv_at hl 1 rfl) ?_
                        refine lv_aload_n hx hb dX12_percentOf_498 rfl (lv_at hl 1 rfl) ?_
                        refine lv_iload hx hb dX12_percentOf_499 (lv_at hl 3 rfl) ?_
                        refine lv_iload hx hb dX12_percentOf_501 (lv_at hl 5 rfl) ?_
                        obtain ⟨r61_, e61, h⟩ := xbo h
                        refine xc_V (As := [.int x5, .int x7]) (rest := [.ref (g.q 0)]) C hW (m_X12_beside x5 x7 _ e61) mf_X12_beside mv_X12_beside ml_X12_504 ⟨rfl, rfl⟩ ⟨Nat.le_of_ble_eq_true rfl, Nat.le_of_ble_eq_true rfl⟩ KM_0 rfl hl.1 rfl rfl (Nat.le_of_ble_eq_true rfl) dX12_percentOf_503 (fun H locs hW => W.eq (g2 := F0 m 506 ls [.int r61_, .ref (g.q 0)]) rfl ?_)
                        refine lv_aload_n hx hb dX12_percentOf_506 rfl (lv_at hl 1 rfl) ?_
                        refine lv_iload hx hb dX12_percentOf_507 (lv_at hl 7 rfl) ?_
                        refine lv_iload hx hb dX12_percentOf_509 (lv_at hl 9 rfl) ?_
                        obtain ⟨r62_, e62, h⟩ := xbo h
                        refine xc_V (As := [.int x9, .int x11]) (rest := [.int r61_, .ref (g.q 0)]) C hW (m_X12_beside x9 x11 _ e62) mf_X12_beside mv_X12_beside ml_X12_504 ⟨rfl, rfl⟩ ⟨Nat.le_of_ble_eq_true rfl, Nat.le_of_ble_eq_true rfl⟩ KM_0 rfl hl.1 rfl rfl (Nat.le_of_ble_eq_true rfl) dX12_percentOf_511 (fun H locs hW => W.eq (g2 := F0 m 514 ls [.int r62_, .int r61_, .ref (g.q 0)]) rfl ?_)
                        refine xc_S (As := [.int r61_, .int r62_]) (rest := [.ref (g.q 0)]) C hW (m_X12_greater r61_ r62_ _ rfl) mf_X12_greater mt_X12_greater ml_X12_381 ⟨rfl, rfl⟩ ⟨Nat.le_of_ble_eq_true rfl, Nat.le_of_ble_eq_true rfl⟩ hl.1 rfl rfl (Nat.le_of_ble_eq_true rfl) dX12_percentOf_514 (fun H locs hW => W.eq (g2 := F0 m 517 ls [.int (f_X12_greater r61_ r62_ σ), .ref (g.q 0)]) rfl ?_)
                        refine lv_aload_n hx hb dX12_percentOf_517 rfl (lv_at hl 1 rfl) ?_
                        refine lv_iload hx hb dX12_percentOf_518 (lv_at hl 4 rfl) ?_
                        refine lv_iload hx hb dX12_percentOf_520 (lv_at hl 6 rfl) ?_
                        refine xc_S (As := [.int x6, .int x8]) (rest := [.ref (g.q 0), .int (f_X12_greater r61_ r62_ σ), .ref (g.q 0)]) C hW (m_X12_greater x6 x8 _ rfl) mf_X12_greater mt_X12_greater ml_X12_381 ⟨rfl, rfl⟩ ⟨Nat.le_of_ble_eq_true rfl, Nat.le_of_ble_eq_true rfl⟩ hl.1 rfl rfl (Nat.le_of_ble_eq_true rfl) dX12_percentOf_522 (fun H locs hW => W.eq (g2 := F0 m 525 ls [.int (f_X12_greater x6 x8 σ), .ref (g.q 0), .int (f_X12_greater r61_ r62_ σ), .ref (g.q 0)]) rfl ?_)
                        refine lv_iload hx hb dX12_percentOf_525 (lv_at hl 8 rfl) ?_
                        refine lv_iload hx hb dX12_percentOf_527 (lv_at hl 0 rfl) ?_
                        refine xc_S (As := [.int x10, .int t0]) (rest := [.int (f_X12_greater x6 x8 σ), .ref (g.q 0), .int (f_X12_greater r61_ r62_ σ), .ref (g.q 0)]) C hW (m_X12_greater x10 t0 _ rfl) mf_X12_greater mt_X12_greater ml_X12_381 ⟨rfl, rfl⟩ ⟨Nat.le_of_ble_eq_true rfl, Nat.le_of_ble_eq_true rfl⟩ hl.1 rfl rfl (Nat.le_of_ble_eq_true rfl) dX12_percentOf_529 (fun H locs hW => W.eq (g2 := F0 m 532 ls [.int (f_X12_greater x10 t0 σ), .int (f_X12_greater x6 x8 σ), .ref (g.q 0), .int (f_X12_greater r61_ r62_ σ), .ref (g.q 0)]) rfl ?_)
                        obtain ⟨r63_, e63, h⟩ := xbo h
                        refine xc_V (As := [.int (f_X12_greater x6 x8 σ), .int (f_X12_greater x10 t0 σ)]) (rest := [.int (f_X12_greater r61_ r62_ σ), .ref (g.q 0)]) C hW (m_X12_beside (f_X12_greater x6 x8 σ) (f_X12_greater x10 t0 σ) _ e63) mf_X12_beside mv_X12_beside ml_X12_504 ⟨rfl, rfl⟩ ⟨Nat.le_of_ble_eq_true rfl, Nat.le_of_ble_eq_true rfl⟩ KM_0 rfl hl.1 rfl rfl (Nat.le_of_ble_eq_true rfl) dX12_percentOf_532 (fun H locs hW => W.eq (g2 := F0 m 535 ls [.int r63_, .int (f_X12_greater r61_ r62_ σ), .ref (g.q 0)]) rfl ?_)
                        obtain ⟨r64_, e64, h⟩ := xbo h
                        refine xc_V (As := [.int (f_X12_greater r61_ r62_ σ), .int r63_]) (rest := []) C hW (m_X12_percent (f_X12_greater r61_ r62_ σ) r63_ _ e64) mf_X12_percent mv_X12_percent ml_X12_398 ⟨rfl, rfl⟩ ⟨Nat.le_of_ble_eq_true rfl, Nat.le_of_ble_eq_true rfl⟩ KM_0 rfl hl.1 rfl rfl (Nat.le_of_ble_eq_true rfl) dX12_percentOf_535 (fun H locs hW => W.eq (g2 := F0 m 538 ls [.int r64_]) rfl ?_)
                        cases h
                        exact xr_i C hW dX12_percentOf_538
set_option maxRecDepth 4000 in
theorem w_X12_percentOf_140 (r1 rn1 : Nat) (hr1 : KM[r1]? = some (.inr (0, rn1))) (σ : St) {r : Int32} (C : xC KM g RX12 cX12_percentOf 13 (some .int) p s m args meth c) : ∀ (x2 : Int32) (x3 : Int32) (x4 : Int32) (x5 : Int32) (x6 : Int32) (x7 : Int32) (x8 : Int32) (x9 : Int32) (x10 : Int32) (t0 : Int32) (H : Heap) (locs : List Loc) (ls : Array Slot), xW KM g s σ H locs → lv_has ls 13 [(0, .ref (g.q 0)), (1, .ref (g.q r1)), (2, .int x2), (3, .int x3), (4, .int x4), (5, .int x5), (6, .int x6), (7, .int x7), (8, .int x8), (9, .int x9), (10, .int x10)] → f_X12_percentOf_140 r1 rn1 x2 x3 x4 x5 x6 x7 x8 x9 x10 t0 σ = some r → W p l e rm_X12_percentOf s m args below meth c H locs 0 0 (MQ below (xPost KM g (some (.int r)) σ) args s 0 0 (xA KM g.q)) (F0 m 140 ls [.int t0]) := by
  have hx := C.1
  have hb := C.2.1
  intro x2 x3 x4 x5 x6 x7 x8 x9 x10 t0 H locs ls hW hl h
  unfold f_X12_percentOf_140 at h
  refine lv_istore (lv' := [(11, .int t0), (0, .ref (g.q 0)), (1, .ref (g.q r1)), (2, .int x2), (3, .int x3), (4, .int x4), (5, .int x5), (6, .int x6), (7, .int x7), (8, .int x8), (9, .int x9), (10, .int x10)]) hx hb dX12_percentOf_140 hl (Nat.le_of_ble_eq_true rfl) rfl (fun ls hl => ?_)
  refine lv_iload hx hb dX12_percentOf_142 (lv_at hl 5 rfl) ?_
  refine lv_iconst (v := 3) hx hb dX12_percentOf_144 rfl ?_
  refine lv_icmp_le (tgt := 161) hx hb dX12_percentOf_145 (by decide) (fun c21 => ?_) (fun c21 => ?_)
  · have h := xit c21 h
    refine lv_iconst (v := 0) hx hb dX12_percentOf_161 rfl ?_
    exact w_X12_percentOf_162 r1 rn1 hr1 σ C x3 x5 x6 x7 x8 x9 x10 t0 0 _ _ _ hW (lv_sub hl [1, 4, 6, 7, 8, 9, 10, 11, 0] rfl) h
  · have h := xif c21 h
    refine lv_aload_n hx hb dX12_percentOf_148 rfl (lv_at hl 1 rfl) ?_
    refine xg_r C hW fg_12_31 KM_0 rfl dX12_percentOf_149 ?_
    refine lv_aload_n hx hb dX12_percentOf_152 rfl (lv_at hl 2 rfl) ?_
    refine lv_iload_n hx hb dX12_percentOf_153 rfl (lv_at hl 3 rfl) ?_
    refine lv_iconst (v := 3) hx hb dX12_percentOf_154 rfl ?_
    refine lv_iadd hx hb dX12_percentOf_155 ?_
    obtain ⟨g22, h⟩ := xgd h
    refine xa_i C hW hr1 g22 (x := σ.1 r1 (x2 + 3).toNatClampNeg) rfl dX12_percentOf_156 ?_
    obtain ⟨g23, h⟩ := xgd h
    refine xa_i C hW KM_6 g23 (x := σ.1 6 (σ.1 r1 (x2 + 3).toNatClampNeg).toNatClampNeg) rfl dX12_percentOf_157 ?_
    refine lv_goto (tgt := 162) hx hb dX12_percentOf_158 (by decide) ?_
    exact w_X12_percentOf_162 r1 rn1 hr1 σ C x3 x5 x6 x7 x8 x9 x10 t0 (σ.1 6 (σ.1 r1 (x2 + 3).toNatClampNeg).toNatClampNeg) _ _ _ hW (lv_sub hl [1, 4, 6, 7, 8, 9, 10, 11, 0] rfl) h
set_option maxRecDepth 4000 in
theorem w_X12_percentOf_118 (r1 rn1 : Nat) (hr1 : KM[r1]? = some (.inr (0, rn1))) (σ : St) {r : Int32} (C : xC KM g RX12 cX12_percentOf 13 (some .int) p s m args meth c) : ∀ (x2 : Int32) (x3 : Int32) (x4 : Int32) (x5 : Int32) (x6 : Int32) (x7 : Int32) (x8 : Int32) (x9 : Int32) (t0 : Int32) (H : Heap) (locs : List Loc) (ls : Array Slot), xW KM g s σ H locs → lv_has ls 13 [(0, .ref (g.q 0)), (1, .ref (g.q r1)), (2, .int x2), (3, .int x3), (4, .int x4), (5, .int x5), (6, .int x6), (7, .int x7), (8, .int x8), (9, .int x9)] → f_X12_percentOf_118 r1 rn1 x2 x3 x4 x5 x6 x7 x8 x9 t0 σ = some r → W p l e rm_X12_percentOf s m args below meth c H locs 0 0 (MQ below (xPost KM g (some (.int r)) σ) args s 0 0 (xA KM g.q)) (F0 m 118 ls [.int t0]) := by
  have hx := C.1
  have hb := C.2.1
  intro x2 x3 x4 x5 x6 x7 x8 x9 t0 H locs ls hW hl h
  unfold f_X12_percentOf_118 at h
  refine lv_istore (lv' := [(10, .int t0), (0, .ref (g.q 0)), (1, .ref (g.q r1)), (2, .int x2), (3, .int x3), (4, .int x4), (5, .int x5), (6, .int x6), (7, .int x7), (8, .int x8), (9, .int x9)]) hx hb dX12_percentOf_118 hl (Nat.le_of_ble_eq_true rfl) rfl (fun ls hl => ?_)
  refine lv_iload hx hb dX12_percentOf_120 (lv_at hl 5 rfl) ?_
  refine lv_iconst (v := 3) hx hb dX12_percentOf_122 rfl ?_
  refine lv_icmp_le (tgt := 139) hx hb dX12_percentOf_123 (by decide) (fun c18 => ?_) (fun c18 => ?_)
  · have h := xit c18 h
    refine lv_iconst (v := 0) hx hb dX12_percentOf_139 rfl ?_
    exact w_X12_percentOf_140 r1 rn1 hr1 σ C x2 x3 x4 x5 x6 x7 x8 x9 t0 0 _ _ _ hW (lv_sub hl [1, 2, 3, 4, 5, 6, 7, 8, 9, 10, 0] rfl) h
  · have h := xif c18 h
    refine lv_aload_n hx hb dX12_percentOf_126 rfl (lv_at hl 1 rfl) ?_
    refine xg_r C hW fg_12_28 KM_0 rfl dX12_percentOf_127 ?_
    refine lv_aload_n hx hb dX12_percentOf_130 rfl (lv_at hl 2 rfl) ?_
    refine lv_iload_n hx hb dX12_percentOf_131 rfl (lv_at hl 3 rfl) ?_
    refine lv_iconst (v := 3) hx hb dX12_percentOf_132 rfl ?_
    refine lv_iadd hx hb dX12_percentOf_133 ?_
    obtain ⟨g19, h⟩ := xgd h
    refine xa_i C hW hr1 g19 (x := σ.1 r1 (x2 + 3).toNatClampNeg) rfl dX12_percentOf_134 ?_
    obtain ⟨g20, h⟩ := xgd h
    refine xa_i C hW KM_5 g20 (x := σ.1 5 (σ.1 r1 (x2 + 3).toNatClampNeg).toNatClampNeg) rfl dX12_percentOf_135 ?_
    refine lv_goto (tgt := 140) hx hb dX12_percentOf_136 (by decide) ?_
    exact w_X12_percentOf_140 r1 rn1 hr1 σ C x2 x3 x4 x5 x6 x7 x8 x9 t0 (σ.1 5 (σ.1 r1 (x2 + 3).toNatClampNeg).toNatClampNeg) _ _ _ hW (lv_sub hl [1, 2, 3, 4, 5, 6, 7, 8, 9, 10, 0] rfl) h
set_option maxRecDepth 4000 in
theorem w_X12_percentOf_96 (r1 rn1 : Nat) (hr1 : KM[r1]? = some (.inr (0, rn1))) (σ : St) {r : Int32} (C : xC KM g RX12 cX12_percentOf 13 (some .int) p s m args meth c) : ∀ (x2 : Int32) (x3 : Int32) (x4 : Int32) (x5 : Int32) (x6 : Int32) (x7 : Int32) (x8 : Int32) (t0 : Int32) (H : Heap) (locs : List Loc) (ls : Array Slot), xW KM g s σ H locs → lv_has ls 13 [(0, .ref (g.q 0)), (1, .ref (g.q r1)), (2, .int x2), (3, .int x3), (4, .int x4), (5, .int x5), (6, .int x6), (7, .int x7), (8, .int x8)] → f_X12_percentOf_96 r1 rn1 x2 x3 x4 x5 x6 x7 x8 t0 σ = some r → W p l e rm_X12_percentOf s m args below meth c H locs 0 0 (MQ below (xPost KM g (some (.int r)) σ) args s 0 0 (xA KM g.q)) (F0 m 96 ls [.int t0]) := by
  have hx := C.1
  have hb := C.2.1
  intro x2 x3 x4 x5 x6 x7 x8 t0 H locs ls hW hl h
  unfold f_X12_percentOf_96 at h
  refine lv_istore (lv' := [(9, .int t0), (0, .ref (g.q 0)), (1, .ref (g.q r1)), (2, .int x2), (3, .int x3), (4, .int x4), (5, .int x5), (6, .int x6), (7, .int x7), (8, .int x8)]) hx hb dX12_percentOf_96 hl (Nat.le_of_ble_eq_true rfl) rfl (fun ls hl => ?_)
  refine lv_iload hx hb dX12_percentOf_98 (lv_at hl 5 rfl) ?_
  refine lv_iconst (v := 2) hx hb dX12_percentOf_100 rfl ?_
  refine lv_icmp_le (tgt := 117) hx hb dX12_percentOf_101 (by decide) (fun c15 => ?_) (fun c15 => ?_)
  · have h := xit c15 h
    refine lv_iconst (v := 0) hx hb dX12_percentOf_117 rfl ?_
    exact w_X12_percentOf_118 r1 rn1 hr1 σ C x2 x3 x4 x5 x6 x7 x8 t0 0 _ _ _ hW (lv_sub hl [1, 2, 3, 4, 5, 6, 7, 8, 9, 0] rfl) h
  · have h := xif c15 h
    refine lv_aload_n hx hb dX12_percentOf_104 rfl (lv_at hl 1 rfl) ?_
    refine xg_r C hW fg_12_31 KM_0 rfl dX12_percentOf_105 ?_
    refine lv_aload_n hx hb dX12_percentOf_108 rfl (lv_at hl 2 rfl) ?_
    refine lv_iload_n hx hb dX12_percentOf_109 rfl (lv_at hl 3 rfl) ?_
    refine lv_iconst (v := 2) hx hb dX12_percentOf_110 rfl ?_
    refine lv_iadd hx hb dX12_percentOf_111 ?_
    obtain ⟨g16, h⟩ := xgd h
    refine xa_i C hW hr1 g16 (x := σ.1 r1 (x2 + 2).toNatClampNeg) rfl dX12_percentOf_112 ?_
    obtain ⟨g17, h⟩ := xgd h
    refine xa_i C hW KM_6 g17 (x := σ.1 6 (σ.1 r1 (x2 + 2).toNatClampNeg).toNatClampNeg) rfl dX12_percentOf_113 ?_
    refine lv_goto (tgt := 118) hx hb dX12_percentOf_114 (by decide) ?_
    exact w_X12_percentOf_118 r1 rn1 hr1 σ C x2 x3 x4 x5 x6 x7 x8 t0 (σ.1 6 (σ.1 r1 (x2 + 2).toNatClampNeg).toNatClampNeg) _ _ _ hW (lv_sub hl [1, 2, 3, 4, 5, 6, 7, 8, 9, 0] rfl) h
set_option maxRecDepth 4000 in
theorem w_X12_percentOf_74 (r1 rn1 : Nat) (hr1 : KM[r1]? = some (.inr (0, rn1))) (σ : St) {r : Int32} (C : xC KM g RX12 cX12_percentOf 13 (some .int) p s m args meth c) : ∀ (x2 : Int32) (x3 : Int32) (x4 : Int32) (x5 : Int32) (x6 : Int32) (x7 : Int32) (t0 : Int32) (H : Heap) (locs : List Loc) (ls : Array Slot), xW KM g s σ H locs → lv_has ls 13 [(0, .ref (g.q 0)), (1, .ref (g.q r1)), (2, .int x2), (3, .int x3), (4, .int x4), (5, .int x5), (6, .int x6), (7, .int x7)] → f_X12_percentOf_74 r1 rn1 x2 x3 x4 x5 x6 x7 t0 σ = some r → W p l e rm_X12_percentOf s m args below meth c H locs 0 0 (MQ below (xPost KM g (some (.int r)) σ) args s 0 0 (xA KM g.q)) (F0 m 74 ls [.int t0]) := by
  have hx := C.1
  have hb := C.2.1
  intro x2 x3 x4 x5 x6 x7 t0 H locs ls hW hl h
  unfold f_X12_percentOf_74 at h
  refine lv_istore (lv' := [(8, .int t0), (0, .ref (g.q 0)), (1, .ref (g.q r1)), (2, .int x2), (3, .int x3), (4, .int x4), (5, .int x5), (6, .int x6), (7, .int x7)]) hx hb dX12_percentOf_74 hl (Nat.le_of_ble_eq_true rfl) rfl (fun ls hl => ?_)
  refine lv_iload hx hb dX12_percentOf_76 (lv_at hl 5 rfl) ?_
  refine lv_iconst (v := 2) hx hb dX12_percentOf_78 rfl ?_
  refine lv_icmp_le (tgt := 95) hx hb dX12_percentOf_79 (by decide) (fun c12 => ?_) (fun c12 => ?_)
  · have h := xit c12 h
    refine lv_iconst (v := 0) hx hb dX12_percentOf_95 rfl ?_
    exact w_X12_percentOf_96 r1 rn1 hr1 σ C x2 x3 x4 x5 x6 x7 t0 0 _ _ _ hW (lv_sub hl [1, 2, 3, 4, 5, 6, 7, 8, 0] rfl) h
  · have h := xif c12 h
    refine lv_aload_n hx hb dX12_percentOf_82 rfl (lv_at hl 1 rfl) ?_
    refine xg_r C hW fg_12_28 KM_0 rfl dX12_percentOf_83 ?_
    refine lv_aload_n hx hb dX12_percentOf_86 rfl (lv_at hl 2 rfl) ?_
    refine lv_iload_n hx hb dX12_percentOf_87 rfl (lv_at hl 3 rfl) ?_
    refine lv_iconst (v := 2) hx hb dX12_percentOf_88 rfl ?_
    refine lv_iadd hx hb dX12_percentOf_89 ?_
    obtain ⟨g13, h⟩ := xgd h
    refine xa_i C hW hr1 g13 (x := σ.1 r1 (x2 + 2).toNatClampNeg) rfl dX12_percentOf_90 ?_
    obtain ⟨g14, h⟩ := xgd h
    refine xa_i C hW KM_5 g14 (x := σ.1 5 (σ.1 r1 (x2 + 2).toNatClampNeg).toNatClampNeg) rfl dX12_percentOf_91 ?_
    refine lv_goto (tgt := 96) hx hb dX12_percentOf_92 (by decide) ?_
    exact w_X12_percentOf_96 r1 rn1 hr1 σ C x2 x3 x4 x5 x6 x7 t0 (σ.1 5 (σ.1 r1 (x2 + 2).toNatClampNeg).toNatClampNeg) _ _ _ hW (lv_sub hl [1, 2, 3, 4, 5, 6, 7, 8, 0] rfl) h
set_option maxRecDepth 4000 in
theorem w_X12_percentOf_52 (r1 rn1 : Nat) (hr1 : KM[r1]? = some (.inr (0, rn1))) (σ : St) {r : Int32} (C : xC KM g RX12 cX12_percentOf 13 (some .int) p s m args meth c) : ∀ (x2 : Int32) (x3 : Int32) (x4 : Int32) (x5 : Int32) (x6 : Int32) (t0 : Int32) (H : Heap) (locs : List Loc) (ls : Array Slot), xW KM g s σ H locs → lv_has ls 13 [(0, .ref (g.q 0)), (1, .ref (g.q r1)), (2, .int x2), (3, .int x3), (4, .int x4), (5, .int x5), (6, .int x6)] → f_X12_percentOf_52 r1 rn1 x2 x3 x4 x5 x6 t0 σ = some r → W p l e rm_X12_percentOf s m args below meth c H locs 0 0 (MQ below (xPost KM g (some (.int r)) σ) args s 0 0 (xA KM g.q)) (F0 m 52 ls [.int t0]) := by
  have hx := C.1
  have hb := C.2.1
  intro x2 x3 x4 x5 x6 t0 H locs ls hW hl h
  unfold f_X12_percentOf_52 at h
  refine lv_istore (lv' := [(7, .int t0), (0, .ref (g.q 0)), (1, .ref (g.q r1)), (2, .int x2), (3, .int x3), (4, .int x4), (5, .int x5), (6, .int x6)]) hx hb dX12_percentOf_52 hl (Nat.le_of_ble_eq_true rfl) rfl (fun ls hl => ?_)
  refine lv_iload hx hb dX12_percentOf_54 (lv_at hl 5 rfl) ?_
  refine lv_iconst (v := 1) hx hb dX12_percentOf_56 rfl ?_
  refine lv_icmp_le (tgt := 73) hx hb dX12_percentOf_57 (by decide) (fun c9 => ?_) (fun c9 => ?_)
  · have h := xit c9 h
    refine lv_iconst (v := 0) hx hb dX12_percentOf_73 rfl ?_
    exact w_X12_percentOf_74 r1 rn1 hr1 σ C x2 x3 x4 x5 x6 t0 0 _ _ _ hW (lv_sub hl [1, 2, 3, 4, 5, 6, 7, 0] rfl) h
  · have h := xif c9 h
    refine lv_aload_n hx hb dX12_percentOf_60 rfl (lv_at hl 1 rfl) ?_
    refine xg_r C hW fg_12_31 KM_0 rfl dX12_percentOf_61 ?_
    refine lv_aload_n hx hb dX12_percentOf_64 rfl (lv_at hl 2 rfl) ?_
    refine lv_iload_n hx hb dX12_percentOf_65 rfl (lv_at hl 3 rfl) ?_
    refine lv_iconst (v := 1) hx hb dX12_percentOf_66 rfl ?_
    refine lv_iadd hx hb dX12_percentOf_67 ?_
    obtain ⟨g10, h⟩ := xgd h
    refine xa_i C hW hr1 g10 (x := σ.1 r1 (x2 + 1).toNatClampNeg) rfl dX12_percentOf_68 ?_
    obtain ⟨g11, h⟩ := xgd h
    refine xa_i C hW KM_6 g11 (x := σ.1 6 (σ.1 r1 (x2 + 1).toNatClampNeg).toNatClampNeg) rfl dX12_percentOf_69 ?_
    refine lv_goto (tgt := 74) hx hb dX12_percentOf_70 (by decide) ?_
    exact w_X12_percentOf_74 r1 rn1 hr1 σ C x2 x3 x4 x5 x6 t0 (σ.1 6 (σ.1 r1 (x2 + 1).toNatClampNeg).toNatClampNeg) _ _ _ hW (lv_sub hl [1, 2, 3, 4, 5, 6, 7, 0] rfl) h
set_option maxRecDepth 4000 in
theorem m_X12_percentOf (r1 rn1 : Nat) (hr1 : KM[r1]? = some (.inr (0, rn1))) (x2 : Int32) (x3 : Int32) (σ : St) {r : Int32} (h : f_X12_percentOf r1 rn1 x2 x3 σ = some r) : xM l KM g yX12_percentOf cX12_percentOf 13 (some .int) rm_X12_percentOf [.ref (g.q 0), .ref (g.q r1), .int x2, .int x3] σ (some (.int r)) σ := by
  refine xmet pn_X12 rfl (Nat.le_of_ble_eq_true rfl) (lv := [(0, .ref (g.q 0)), (1, .ref (g.q r1)), (2, .int x2), (3, .int x3)]) rfl (fun p e s m args below meth c ls C hW hl => ?_)
  have hx := C.1
  have hb := C.2.1
  unfold f_X12_percentOf at h
  refine xx_sw (i := 9) C rfl dX12_percentOf_0 ?_
  refine lv_iload_n hx hb dX12_percentOf_3 rfl (lv_at hl 3 rfl) ?_
  obtain ⟨g1, h⟩ := xgd h
  refine xs_cha C hW (by decide) g1 ml_X12_250 (Nat.le_of_ble_eq_true rfl) (Nat.le_of_ble_eq_true rfl) hl.1 (Nat.le_of_ble_eq_true rfl) dX12_percentOf_4 (fun H locs hW => ?_)
  refine lv_bipush (v := 48) hx hb dX12_percentOf_7 rfl ?_
  refine lv_isub hx hb dX12_percentOf_9 ?_
  refine lv_istore (lv' := [(4, .int (((xtb.getD 9 []).getD x3.toNatClampNeg 0) - 48)), (0, .ref (g.q 0)), (1, .ref (g.q r1)), (2, .int x2), (3, .int x3)]) hx hb dX12_percentOf_10 hl (Nat.le_of_ble_eq_true rfl) rfl (fun ls hl => ?_)
  refine lv_aload_n hx hb dX12_percentOf_12 rfl (lv_at hl 1 rfl) ?_
  refine xg_r C hW fg_12_28 KM_0 rfl dX12_percentOf_13 ?_
  refine lv_aload_n hx hb dX12_percentOf_16 rfl (lv_at hl 2 rfl) ?_
  refine lv_iload_n hx hb dX12_percentOf_17 rfl (lv_at hl 3 rfl) ?_
  obtain ⟨g2, h⟩ := xgd h
  refine xa_i C hW hr1 g2 (x := σ.1 r1 x2.toNatClampNeg) rfl dX12_percentOf_18 ?_
  obtain ⟨g3, h⟩ := xgd h
  refine xa_i C hW KM_5 g3 (x := σ.1 5 (σ.1 r1 x2.toNatClampNeg).toNatClampNeg) rfl dX12_percentOf_19 ?_
  refine lv_istore (lv' := [(5, .int (σ.1 5 (σ.1 r1 x2.toNatClampNeg).toNatClampNeg)), (4, .int (((xtb.getD 9 []).getD x3.toNatClampNeg 0) - 48)), (0, .ref (g.q 0)), (1, .ref (g.q r1)), (2, .int x2), (3, .int x3)]) hx hb dX12_percentOf_20 hl (Nat.le_of_ble_eq_true rfl) rfl (fun ls hl => ?_)
  refine lv_aload_n hx hb dX12_percentOf_22 rfl (lv_at hl 2 rfl) ?_
  refine xg_r C hW fg_12_31 KM_0 rfl dX12_percentOf_23 ?_
  refine lv_aload_n hx hb dX12_percentOf_26 rfl (lv_at hl 3 rfl) ?_
  refine lv_iload_n hx hb dX12_percentOf_27 rfl (lv_at hl 4 rfl) ?_
  obtain ⟨g4, h⟩ := xgd h
  refine xa_i C hW hr1 g4 (x := σ.1 r1 x2.toNatClampNeg) rfl dX12_percentOf_28 ?_
  obtain ⟨g5, h⟩ := xgd h
  refine xa_i C hW KM_6 g5 (x := σ.1 6 (σ.1 r1 x2.toNatClampNeg).toNatClampNeg) rfl dX12_percentOf_29 ?_
  refine lv_istore (lv' := [(6, .int (σ.1 6 (σ.1 r1 x2.toNatClampNeg).toNatClampNeg)), (5, .int (σ.1 5 (σ.1 r1 x2.toNatClampNeg).toNatClampNeg)), (4, .int (((xtb.getD 9 []).getD x3.toNatClampNeg 0) - 48)), (0, .ref (g.q 0)), (1, .ref (g.q r1)), (2, .int x2), (3, .int x3)]) hx hb dX12_percentOf_30 hl (Nat.le_of_ble_eq_true rfl) rfl (fun ls hl => ?_)
  refine lv_iload hx hb dX12_percentOf_32 (lv_at hl 2 rfl) ?_
  refine lv_iconst (v := 1) hx hb dX12_percentOf_34 rfl ?_
  refine lv_icmp_le (tgt := 51) hx hb dX12_percentOf_35 (by decide) (fun c6 => ?_) (fun c6 => ?_)
  · have h := xit c6 h
    refine lv_iconst (v := 0) hx hb dX12_percentOf_51 rfl ?_
    exact w_X12_percentOf_52 r1 rn1 hr1 σ C x2 x3 (((xtb.getD 9 []).getD x3.toNatClampNeg 0) - 48) (σ.1 5 (σ.1 r1 x2.toNatClampNeg).toNatClampNeg) (σ.1 6 (σ.1 r1 x2.toNatClampNeg).toNatClampNeg) 0 _ _ _ hW (lv_sub hl [3, 4, 5, 6, 2, 1, 0] rfl) h
  · have h := xif c6 h
    refine lv_aload_n hx hb dX12_percentOf_38 rfl (lv_at hl 3 rfl) ?_
    refine xg_r C hW fg_12_28 KM_0 rfl dX12_percentOf_39 ?_
    refine lv_aload_n hx hb dX12_percentOf_42 rfl (lv_at hl 4 rfl) ?_
    refine lv_iload_n hx hb dX12_percentOf_43 rfl (lv_at hl 5 rfl) ?_
    refine lv_iconst (v := 1) hx hb dX12_percentOf_44 rfl ?_
    refine lv_iadd hx hb dX12_percentOf_45 ?_
    obtain ⟨g7, h⟩ := xgd h
    refine xa_i C hW hr1 g7 (x := σ.1 r1 (x2 + 1).toNatClampNeg) rfl dX12_percentOf_46 ?_
    obtain ⟨g8, h⟩ := xgd h
    refine xa_i C hW KM_5 g8 (x := σ.1 5 (σ.1 r1 (x2 + 1).toNatClampNeg).toNatClampNeg) rfl dX12_percentOf_47 ?_
    refine lv_goto (tgt := 52) hx hb dX12_percentOf_48 (by decide) ?_
    exact w_X12_percentOf_52 r1 rn1 hr1 σ C x2 x3 (((xtb.getD 9 []).getD x3.toNatClampNeg 0) - 48) (σ.1 5 (σ.1 r1 x2.toNatClampNeg).toNatClampNeg) (σ.1 6 (σ.1 r1 x2.toNatClampNeg).toNatClampNeg) (σ.1 5 (σ.1 r1 (x2 + 1).toNatClampNeg).toNatClampNeg) _ _ _ hW (lv_sub hl [3, 4, 5, 6, 2, 1, 0] rfl) h
end
theorem dX12_groups_0 : decode cX12_groups 0 = .ok (.iload_n 2, 1) := by decide +kernel
theorem dX12_groups_1 : decode cX12_groups 1 = .ok (.istore_n 3, 1) := by decide +kernel
theorem dX12_groups_2 : decode cX12_groups 2 = .ok (.iload_n 3, 1) := by decide +kernel
theorem dX12_groups_3 : decode cX12_groups 3 = .ok (.ifCond .lt 191, 3) := by decide +kernel
theorem dX12_groups_6 : decode cX12_groups 6 = .ok (.aload_n 0, 1) := by decide +kernel
theorem dX12_groups_7 : decode cX12_groups 7 = .ok (.getfield 170, 3) := by decide +kernel
theorem dX12_groups_10 : decode cX12_groups 10 = .ok (.iload_n 3, 1) := by decide +kernel
theorem dX12_groups_11 : decode cX12_groups 11 = .ok (.iload_n 3, 1) := by decide +kernel
theorem dX12_groups_12 : decode cX12_groups 12 = .ok (.iload_n 2, 1) := by decide +kernel
theorem dX12_groups_13 : decode cX12_groups 13 = .ok (.if_icmp .ne 7, 3) := by decide +kernel
theorem dX12_groups_16 : decode cX12_groups 16 = .ok (.iconst 0, 1) := by decide +kernel
theorem dX12_groups_17 : decode cX12_groups 17 = .ok (.goto 6, 3) := by decide +kernel
theorem dX12_groups_20 : decode cX12_groups 20 = .ok (.ldc_w 435, 3) := by decide +kernel
theorem dX12_groups_23 : decode cX12_groups 23 = .ok (.iastore, 1) := by decide +kernel
theorem dX12_groups_24 : decode cX12_groups 24 = .ok (.aload_n 0, 1) := by decide +kernel
theorem dX12_groups_25 : decode cX12_groups 25 = .ok (.getfield 173, 3) := by decide +kernel
theorem dX12_groups_28 : decode cX12_groups 28 = .ok (.iload_n 3, 1) := by decide +kernel
theorem dX12_groups_29 : decode cX12_groups 29 = .ok (.iconst 0, 1) := by decide +kernel
theorem dX12_groups_30 : decode cX12_groups 30 = .ok (.iastore, 1) := by decide +kernel
theorem dX12_groups_31 : decode cX12_groups 31 = .ok (.iconst 0, 1) := by decide +kernel
theorem dX12_groups_32 : decode cX12_groups 32 = .ok (.istore 4, 2) := by decide +kernel
theorem dX12_groups_34 : decode cX12_groups 34 = .ok (.iload 4, 2) := by decide +kernel
theorem dX12_groups_36 : decode cX12_groups 36 = .ok (.bipush 11, 2) := by decide +kernel
theorem dX12_groups_38 : decode cX12_groups 38 = .ok (.if_icmp .ge 150, 3) := by decide +kernel
theorem dX12_groups_41 : decode cX12_groups 41 = .ok (.iload_n 3, 1) := by decide +kernel
theorem dX12_groups_42 : decode cX12_groups 42 = .ok (.ldc_w 502, 3) := by decide +kernel
theorem dX12_groups_45 : decode cX12_groups 45 = .ok (.iload 4, 2) := by decide +kernel
theorem dX12_groups_47 : decode cX12_groups 47 = .ok (.invokevirtual 250, 3) := by decide +kernel
theorem dX12_groups_50 : decode cX12_groups 50 = .ok (.iadd, 1) := by decide +kernel
theorem dX12_groups_51 : decode cX12_groups 51 = .ok (.bipush 48, 2) := by decide +kernel
theorem dX12_groups_53 : decode cX12_groups 53 = .ok (.isub, 1) := by decide +kernel
theorem dX12_groups_54 : decode cX12_groups 54 = .ok (.istore 5, 2) := by decide +kernel
theorem dX12_groups_56 : decode cX12_groups 56 = .ok (.iload 5, 2) := by decide +kernel
theorem dX12_groups_58 : decode cX12_groups 58 = .ok (.iload_n 2, 1) := by decide +kernel
theorem dX12_groups_59 : decode cX12_groups 59 = .ok (.if_icmp .gt 123, 3) := by decide +kernel
theorem dX12_groups_62 : decode cX12_groups 62 = .ok (.aload_n 0, 1) := by decide +kernel
theorem dX12_groups_63 : decode cX12_groups 63 = .ok (.getfield 170, 3) := by decide +kernel
theorem dX12_groups_66 : decode cX12_groups 66 = .ok (.iload 5, 2) := by decide +kernel
theorem dX12_groups_68 : decode cX12_groups 68 = .ok (.iaload, 1) := by decide +kernel
theorem dX12_groups_69 : decode cX12_groups 69 = .ok (.ldc_w 435, 3) := by decide +kernel
theorem dX12_groups_72 : decode cX12_groups 72 = .ok (.if_icmp .lt 6, 3) := by decide +kernel
theorem dX12_groups_75 : decode cX12_groups 75 = .ok (.goto 107, 3) := by decide +kernel
theorem dX12_groups_78 : decode cX12_groups 78 = .ok (.aload_n 0, 1) := by decide +kernel
theorem dX12_groups_79 : decode cX12_groups 79 = .ok (.aload_n 1, 1) := by decide +kernel
theorem dX12_groups_80 : decode cX12_groups 80 = .ok (.iload_n 3, 1) := by decide +kernel
theorem dX12_groups_81 : decode cX12_groups 81 = .ok (.iload 4, 2) := by decide +kernel
theorem dX12_groups_83 : decode cX12_groups 83 = .ok (.invokevirtual 507, 3) := by decide +kernel
theorem dX12_groups_86 : decode cX12_groups 86 = .ok (.istore 6, 2) := by decide +kernel
theorem dX12_groups_88 : decode cX12_groups 88 = .ok (.iconst 1, 1) := by decide +kernel
theorem dX12_groups_89 : decode cX12_groups 89 = .ok (.aload_n 0, 1) := by decide +kernel
theorem dX12_groups_90 : decode cX12_groups 90 = .ok (.getfield 170, 3) := by decide +kernel
theorem dX12_groups_93 : decode cX12_groups 93 = .ok (.iload 5, 2) := by decide +kernel
theorem dX12_groups_95 : decode cX12_groups 95 = .ok (.iaload, 1) := by decide +kernel
theorem dX12_groups_96 : decode cX12_groups 96 = .ok (.iadd, 1) := by decide +kernel
theorem dX12_groups_97 : decode cX12_groups 97 = .ok (.istore 7, 2) := by decide +kernel
theorem dX12_groups_99 : decode cX12_groups 99 = .ok (.iload 6, 2) := by decide +kernel
theorem dX12_groups_101 : decode cX12_groups 101 = .ok (.aload_n 0, 1) := by decide +kernel
theorem dX12_groups_102 : decode cX12_groups 102 = .ok (.getfield 173, 3) := by decide +kernel
theorem dX12_groups_105 : decode cX12_groups 105 = .ok (.iload 5, 2) := by decide +kernel
theorem dX12_groups_107 : decode cX12_groups 107 = .ok (.iaload, 1) := by decide +kernel
theorem dX12_groups_108 : decode cX12_groups 108 = .ok (.iadd, 1) := by decide +kernel
theorem dX12_groups_109 : decode cX12_groups 109 = .ok (.istore 8, 2) := by decide +kernel
theorem dX12_groups_111 : decode cX12_groups 111 = .ok (.iload 6, 2) := by decide +kernel
theorem dX12_groups_113 : decode cX12_groups 113 = .ok (.aload_n 0, 1) := by decide +kernel
theorem dX12_groups_114 : decode cX12_groups 114 = .ok (.getfield 17, 3) := by decide +kernel
theorem dX12_groups_117 : decode cX12_groups 117 = .ok (.iconst 2, 1) := by decide +kernel
theorem dX12_groups_118 : decode cX12_groups 118 = .ok (.iaload, 1) := by decide +kernel
theorem dX12_groups_119 : decode cX12_groups 119 = .ok (.if_icmp .lt 63, 3) := by decide +kernel
theorem dX12_groups_122 : decode cX12_groups 122 = .ok (.iload 7, 2) := by decide +kernel
theorem dX12_groups_124 : decode cX12_groups 124 = .ok (.aload_n 0, 1) := by decide +kernel
theorem dX12_groups_125 : decode cX12_groups 125 = .ok (.getfield 170, 3) := by decide +kernel
theorem dX12_groups_128 : decode cX12_groups 128 = .ok (.iload_n 3, 1) := by decide +kernel
theorem dX12_groups_129 : decode cX12_groups 129 = .ok (.iaload, 1) := by decide +kernel
theorem dX12_groups_130 : decode cX12_groups 130 = .ok (.if_icmp .gt 52, 3) := by decide +kernel
theorem dX12_groups_133 : decode cX12_groups 133 = .ok (.iload 7, 2) := by decide +kernel
theorem dX12_groups_135 : decode cX12_groups 135 = .ok (.aload_n 0, 1) := by decide +kernel
theorem dX12_groups_136 : decode cX12_groups 136 = .ok (.getfield 170, 3) := by decide +kernel
theorem dX12_groups_139 : decode cX12_groups 139 = .ok (.iload_n 3, 1) := by decide +kernel
theorem dX12_groups_140 : decode cX12_groups 140 = .ok (.iaload, 1) := by decide +kernel
theorem dX12_groups_141 : decode cX12_groups 141 = .ok (.if_icmp .ne 17, 3) := by decide +kernel
theorem dX12_groups_144 : decode cX12_groups 144 = .ok (.iload 8, 2) := by decide +kernel
theorem dX12_groups_146 : decode cX12_groups 146 = .ok (.aload_n 0, 1) := by decide +kernel
theorem dX12_groups_147 : decode cX12_groups 147 = .ok (.getfield 173, 3) := by decide +kernel
theorem dX12_groups_150 : decode cX12_groups 150 = .ok (.iload_n 3, 1) := by decide +kernel
theorem dX12_groups_151 : decode cX12_groups 151 = .ok (.iaload, 1) := by decide +kernel
theorem dX12_groups_152 : decode cX12_groups 152 = .ok (.if_icmp .gt 6, 3) := by decide +kernel
theorem dX12_groups_155 : decode cX12_groups 155 = .ok (.goto 27, 3) := by decide +kernel
theorem dX12_groups_158 : decode cX12_groups 158 = .ok (.aload_n 0, 1) := by decide +kernel
theorem dX12_groups_159 : decode cX12_groups 159 = .ok (.getfield 170, 3) := by decide +kernel
theorem dX12_groups_162 : decode cX12_groups 162 = .ok (.iload_n 3, 1) := by decide +kernel
theorem dX12_groups_163 : decode cX12_groups 163 = .ok (.iload 7, 2) := by decide +kernel
theorem dX12_groups_165 : decode cX12_groups 165 = .ok (.iastore, 1) := by decide +kernel
theorem dX12_groups_166 : decode cX12_groups 166 = .ok (.aload_n 0, 1) := by decide +kernel
theorem dX12_groups_167 : decode cX12_groups 167 = .ok (.getfield 173, 3) := by decide +kernel
theorem dX12_groups_170 : decode cX12_groups 170 = .ok (.iload_n 3, 1) := by decide +kernel
theorem dX12_groups_171 : decode cX12_groups 171 = .ok (.iload 8, 2) := by decide +kernel
theorem dX12_groups_173 : decode cX12_groups 173 = .ok (.iastore, 1) := by decide +kernel
theorem dX12_groups_174 : decode cX12_groups 174 = .ok (.aload_n 0, 1) := by decide +kernel
theorem dX12_groups_175 : decode cX12_groups 175 = .ok (.getfield 176, 3) := by decide +kernel
theorem dX12_groups_178 : decode cX12_groups 178 = .ok (.iload_n 3, 1) := by decide +kernel
theorem dX12_groups_179 : decode cX12_groups 179 = .ok (.iload 4, 2) := by decide +kernel
theorem dX12_groups_181 : decode cX12_groups 181 = .ok (.iastore, 1) := by decide +kernel
theorem dX12_groups_182 : decode cX12_groups 182 = .ok (.iinc 4 1, 3) := by decide +kernel
theorem dX12_groups_185 : decode cX12_groups 185 = .ok (.goto (-151), 3) := by decide +kernel
theorem dX12_groups_188 : decode cX12_groups 188 = .ok (.iinc 3 (-1), 3) := by decide +kernel
theorem dX12_groups_191 : decode cX12_groups 191 = .ok (.goto (-189), 3) := by decide +kernel
theorem dX12_groups_194 : decode cX12_groups 194 = .ok (.aload_n 0, 1) := by decide +kernel
theorem dX12_groups_195 : decode cX12_groups 195 = .ok (.getfield 170, 3) := by decide +kernel
theorem dX12_groups_198 : decode cX12_groups 198 = .ok (.iconst 0, 1) := by decide +kernel
theorem dX12_groups_199 : decode cX12_groups 199 = .ok (.iaload, 1) := by decide +kernel
theorem dX12_groups_200 : decode cX12_groups 200 = .ok (.ireturn, 1) := by decide +kernel
abbrev rm_X12_groups : Room := { frames := 5, cells := 0, slots := 0, locals := 152 }
def f_X12_groups_158 (r1 rn1 : Nat) (N : Nat) (k2 : Int32 → Int32 → St → Option (Int32 × St)) (k34 : Int32 → Int32 → Int32 → St → Option (Int32 × St)) (x2 : Int32) (x3 : Int32) (x4 : Int32) (x7 : Int32) (x8 : Int32) (σ : St) : Option (Int32 × St) := grd (ib x3 25) (grd (ib x3 25) (grd (ib x3 25) (k34 x2 x3 (x4 + 1) (si (si (si σ 52 x3.toNatClampNeg x7) 53 x3.toNatClampNeg x8) 54 x3.toNatClampNeg x4))))
def f_X12_groups_34 (r1 rn1 : Nat) (N : Nat) (k2 : Int32 → Int32 → St → Option (Int32 × St)) : Nat → Int32 → Int32 → Int32 → St → Option (Int32 × St)
  | 0, _, _, _, _ => none
  | n + 1, x2, x3, x4, σ => (if 11 ≤ x4 then k2 x2 (x3 + (-1)) σ else grd (ib x4 (xtl.getD 9 0)) ((if x2 < ((x3 + ((xtb.getD 9 []).getD x4.toNatClampNeg 0)) - 48) then f_X12_groups_34 r1 rn1 N k2 n x2 x3 (x4 + 1) σ else grd (ib ((x3 + ((xtb.getD 9 []).getD x4.toNatClampNeg 0)) - 48) 25) ((if (σ.1 52 ((x3 + ((xtb.getD 9 []).getD x4.toNatClampNeg 0)) - 48).toNatClampNeg) < 1000000000 then bo (f_X12_percentOf r1 rn1 x3 x4 σ) (fun r11_ => grd (ib ((x3 + ((xtb.getD 9 []).getD x4.toNatClampNeg 0)) - 48) 25) (grd (ib ((x3 + ((xtb.getD 9 []).getD x4.toNatClampNeg 0)) - 48) 25) (grd (ib 2 8) ((if r11_ < (σ.1 2 2) then f_X12_groups_34 r1 rn1 N k2 n x2 x3 (x4 + 1) σ else grd (ib x3 25) ((if (σ.1 52 x3.toNatClampNeg) < (1 + (σ.1 52 ((x3 + ((xtb.getD 9 []).getD x4.toNatClampNeg 0)) - 48).toNatClampNeg)) then f_X12_groups_34 r1 rn1 N k2 n x2 x3 (x4 + 1) σ else grd (ib x3 25) ((if (1 + (σ.1 52 ((x3 + ((xtb.getD 9 []).getD x4.toNatClampNeg 0)) - 48).toNatClampNeg)) = (σ.1 52 x3.toNatClampNeg) then grd (ib x3 25) ((if (σ.1 53 x3.toNatClampNeg) < (r11_ + (σ.1 53 ((x3 + ((xtb.getD 9 []).getD x4.toNatClampNeg 0)) - 48).toNatClampNeg)) then f_X12_groups_158 r1 rn1 N k2 (f_X12_groups_34 r1 rn1 N k2 n) x2 x3 x4 (1 + (σ.1 52 ((x3 + ((xtb.getD 9 []).getD x4.toNatClampNeg 0)) - 48).toNatClampNeg)) (r11_ + (σ.1 53 ((x3 + ((xtb.getD 9 []).getD x4.toNatClampNeg 0)) - 48).toNatClampNeg)) σ else f_X12_groups_34 r1 rn1 N k2 n x2 x3 (x4 + 1) σ)) else f_X12_groups_158 r1 rn1 N k2 (f_X12_groups_34 r1 rn1 N k2 n) x2 x3 x4 (1 + (σ.1 52 ((x3 + ((xtb.getD 9 []).getD x4.toNatClampNeg 0)) - 48).toNatClampNeg)) (r11_ + (σ.1 53 ((x3 + ((xtb.getD 9 []).getD x4.toNatClampNeg 0)) - 48).toNatClampNeg)) σ))))))))) else f_X12_groups_34 r1 rn1 N k2 n x2 x3 (x4 + 1) σ)))))
def f_X12_groups_23 (r1 rn1 : Nat) (N : Nat) (k2 : Int32 → Int32 → St → Option (Int32 × St)) (x2 : Int32) (x3 : Int32) (t1 : Int32) (t2 : Int32) (σ : St) : Option (Int32 × St) := grd (ib t1 25) (grd (ib x3 25) (f_X12_groups_34 r1 rn1 N k2 N x2 x3 0 (si (si σ 52 t1.toNatClampNeg t2) 53 x3.toNatClampNeg 0)))
def f_X12_groups_2 (r1 rn1 : Nat) (N : Nat) : Nat → Int32 → Int32 → St → Option (Int32 × St)
  | 0, _, _, _ => none
  | n + 1, x2, x3, σ => (if x3 < 0 then grd (ib 0 25) (some (σ.1 52 0, σ)) else (if x3 = x2 then f_X12_groups_23 r1 rn1 N (f_X12_groups_2 r1 rn1 N n) x2 x3 x3 0 σ else f_X12_groups_23 r1 rn1 N (f_X12_groups_2 r1 rn1 N n) x2 x3 x3 1000000000 σ))
def f_X12_groups (r1 rn1 : Nat) (N : Nat) (x2 : Int32) (σ : St) : Option (Int32 × St) := f_X12_groups_2 r1 rn1 N N x2 x2 σ
section
variable {p : Program} {l : Launch} {e : Env} {s : State} {m : MethodId} {args : Array Value} {below : List Frame} {meth : Method} {c : Code} {g : XG}
set_option maxRecDepth 4000 in
theorem w_X12_groups_158 (r1 rn1 : Nat) (hr1 : KM[r1]? = some (.inr (0, rn1))) (N : Nat) (k2 : Int32 → Int32 → St → Option (Int32 × St)) (k34 : Int32 → Int32 → Int32 → St → Option (Int32 × St)) {r : Int32} {σ' : St} (C : xC KM g RX12 cX12_groups 9 (some .int) p s m args meth c) (hk2 : ∀ (x2 : Int32) (x3 : Int32) (σ : St) (H : Heap) (locs : List Loc) (ls : Array Slot), xW KM g s σ H locs → lv_has ls 9 [(0, .ref (g.q 0)), (1, .ref (g.q r1)), (2, .int x2), (3, .int x3)] → k2 x2 x3 σ = some (r, σ') → W p l e rm_X12_groups s m args below meth c H locs 0 0 (MQ below (xPost KM g (some (.int r)) σ') args s 0 0 (xA KM g.q)) (F0 m 2 ls [])) (hk34 : ∀ (x2 : Int32) (x3 : Int32) (x4 : Int32) (σ : St) (H : Heap) (locs : List Loc) (ls : Array Slot), xW KM g s σ H locs → lv_has ls 9 [(0, .ref (g.q 0)), (1, .ref (g.q r1)), (2, .int x2), (3, .int x3), (4, .int x4)] → k34 x2 x3 x4 σ = some (r, σ') → W p l e rm_X12_groups s m args below meth c H locs 0 0 (MQ below (xPost KM g (some (.int r)) σ') args s 0 0 (xA KM g.q)) (F0 m 34 ls [])) : ∀ (x2 : Int32) (x3 : Int32) (x4 : Int32) (x7 : Int32) (x8 : Int32) (σ : St) (H : Heap) (locs : List Loc) (ls : Array Slot), xW KM g s σ H locs → lv_has ls 9 [(0, .ref (g.q 0)), (1, .ref (g.q r1)), (2, .int x2), (3, .int x3), (4, .int x4), (7, .int x7), (8, .int x8)] → f_X12_groups_158 r1 rn1 N k2 k34 x2 x3 x4 x7 x8 σ = some (r, σ') → W p l e rm_X12_groups s m args below meth c H locs 0 0 (MQ below (xPost KM g (some (.int r)) σ') args s 0 0 (xA KM g.q)) (F0 m 158 ls []) := by
  have hx := C.1
  have hb := C.2.1
  intro x2 x3 x4 x7 x8 σ H locs ls hW hl h
  unfold f_X12_groups_158 at h
  refine lv_aload_n hx hb dX12_groups_158 rfl (lv_at hl 0 rfl) ?_
  refine xg_r C hW fg_12_170 KM_0 rfl dX12_groups_159 ?_
  refine lv_iload_n hx hb dX12_groups_162 rfl (lv_at hl 3 rfl) ?_
  refine lv_iload hx hb dX12_groups_163 (lv_at hl 5 rfl) ?_
  obtain ⟨g22, h⟩ := xgd h
  refine xs_i C hW KM_52 g22 dX12_groups_165 (fun H locs hW => ?_)
  refine lv_aload_n hx hb dX12_groups_166 rfl (lv_at hl 0 rfl) ?_
  refine xg_r C hW fg_12_173 KM_0 rfl dX12_groups_167 ?_
  refine lv_iload_n hx hb dX12_groups_170 rfl (lv_at hl 3 rfl) ?_
  refine lv_iload hx hb dX12_groups_171 (lv_at hl 6 rfl) ?_
  obtain ⟨g23, h⟩ := xgd h
  refine xs_i C hW KM_53 g23 dX12_groups_173 (fun H locs hW => ?_)
  refine lv_aload_n hx hb dX12_groups_174 rfl (lv_at hl 0 rfl) ?_
  refine xg_r C hW fg_12_176 KM_0 rfl dX12_groups_175 ?_
  refine lv_iload_n hx hb dX12_groups_178 rfl (lv_at hl 3 rfl) ?_
  refine lv_iload hx hb dX12_groups_179 (lv_at hl 4 rfl) ?_
  obtain ⟨g24, h⟩ := xgd h
  refine xs_i C hW KM_54 g24 dX12_groups_181 (fun H locs hW => ?_)
  refine lv_iinc (v := x4 + 1) (lv' := [(4, .int (x4 + 1)), (0, .ref (g.q 0)), (1, .ref (g.q r1)), (2, .int x2), (3, .int x3), (7, .int x7), (8, .int x8)]) hx hb dX12_groups_182 hl (k := 4) rfl rfl (Nat.le_of_ble_eq_true rfl) rfl (fun ls hl => ?_)
  refine lv_goto (tgt := 34) hx hb dX12_groups_185 (by decide) ?_
  exact hk34 x2 x3 (x4 + 1) _ _ _ _ hW (lv_sub hl [1, 2, 3, 4, 0] rfl) h
set_option maxRecDepth 4000 in
theorem w_X12_groups_34 (r1 rn1 : Nat) (hr1 : KM[r1]? = some (.inr (0, rn1))) (N : Nat) (k2 : Int32 → Int32 → St → Option (Int32 × St)) {r : Int32} {σ' : St} (C : xC KM g RX12 cX12_groups 9 (some .int) p s m args meth c) (hk2 : ∀ (x2 : Int32) (x3 : Int32) (σ : St) (H : Heap) (locs : List Loc) (ls : Array Slot), xW KM g s σ H locs → lv_has ls 9 [(0, .ref (g.q 0)), (1, .ref (g.q r1)), (2, .int x2), (3, .int x3)] → k2 x2 x3 σ = some (r, σ') → W p l e rm_X12_groups s m args below meth c H locs 0 0 (MQ below (xPost KM g (some (.int r)) σ') args s 0 0 (xA KM g.q)) (F0 m 2 ls [])) : ∀ (n : Nat), ∀ (x2 : Int32) (x3 : Int32) (x4 : Int32) (σ : St) (H : Heap) (locs : List Loc) (ls : Array Slot), xW KM g s σ H locs → lv_has ls 9 [(0, .ref (g.q 0)), (1, .ref (g.q r1)), (2, .int x2), (3, .int x3), (4, .int x4)] → f_X12_groups_34 r1 rn1 N k2 n x2 x3 x4 σ = some (r, σ') → W p l e rm_X12_groups s m args below meth c H locs 0 0 (MQ below (xPost KM g (some (.int r)) σ') args s 0 0 (xA KM g.q)) (F0 m 34 ls []) := by
  have hx := C.1
  have hb := C.2.1
  intro n
  induction n with
  | zero => intro x2 x3 x4 σ H locs ls hW hl h; rw [f_X12_groups_34] at h; cases h
  | succ n ih =>
    intro x2 x3 x4 σ H locs ls hW hl h
    rw [f_X12_groups_34] at h
    refine lv_iload hx hb dX12_groups_34 (lv_at hl 4 rfl) ?_
    refine lv_bipush (v := 11) hx hb dX12_groups_36 rfl ?_
    refine lv_icmp_ge (tgt := 188) hx hb dX12_groups_38 (by decide) (fun c6 => ?_) (fun c6 => ?_)
    · have h := xit c6 h
      refine lv_iinc (v := x3 + (-1)) (lv' := [(3, .int (x3 + (-1))), (0, .ref (g.q 0)), (1, .ref (g.q r1)), (2, .int x2), (4, .int x4)]) hx hb dX12_groups_188 hl (k := 3) rfl rfl (Nat.le_of_ble_eq_true rfl) rfl (fun ls hl => ?_)
      refine lv_goto (tgt := 2) hx hb dX12_groups_191 (by decide) ?_
      exact hk2 x2 (x3 + (-1)) _ _ _ _ hW (lv_sub hl [1, 2, 3, 0] rfl) h
    · have h := xif c6 h
      refine lv_iload_n hx hb dX12_groups_41 rfl (lv_at hl 3 rfl) ?_
      refine xx_sw (i := 9) C rfl dX12_groups_42 ?_
      refine lv_iload hx hb dX12_groups_45 (lv_at hl 4 rfl) ?_
      obtain ⟨g7, h⟩ := xgd h
      refine xs_cha C hW (by decide) g7 ml_X12_250 (Nat.le_of_ble_eq_true rfl) (Nat.le_of_ble_eq_true rfl) hl.1 (Nat.le_of_ble_eq_true rfl) dX12_groups_47 (fun H locs hW => ?_)
      refine lv_iadd hx hb dX12_groups_50 ?_
      refine lv_bipush (v := 48) hx hb dX12_groups_51 rfl ?_
      refine lv_isub hx hb dX12_groups_53 ?_
      refine lv_istore (lv' := [(5, .int ((x3 + ((xtb.getD 9 []).getD x4.toNatClampNeg 0)) - 48)), (0, .ref (g.q 0)), (1, .ref (g.q r1)), (2, .int x2), (3, .int x3), (4, .int x4)]) hx hb dX12_groups_54 hl (Nat.le_of_ble_eq_true rfl) rfl (fun ls hl => ?_)
      refine lv_iload hx hb dX12_groups_56 (lv_at hl 0 rfl) ?_
      refine lv_iload_n hx hb dX12_groups_58 rfl (lv_at hl 3 rfl) ?_
      refine lv_icmp_gt (tgt := 182) hx hb dX12_groups_59 (by decide) (fun c8 => ?_) (fun c8 => ?_)
      · have h := xit c8 h
        refine lv_iinc (v := x4 + 1) (lv' := [(4, .int (x4 + 1)), (5, .int ((x3 + ((xtb.getD 9 []).getD x4.toNatClampNeg 0)) - 48)), (0, .ref (g.q 0)), (1, .ref (g.q r1)), (2, .int x2), (3, .int x3)]) hx hb dX12_groups_182 hl (k := 5) rfl rfl (Nat.le_of_ble_eq_true rfl) rfl (fun ls hl => ?_)
        refine lv_goto (tgt := 34) hx hb dX12_groups_185 (by decide) ?_
        exact ih x2 x3 (x4 + 1) _ _ _ _ hW (lv_sub hl [2, 3, 4, 5, 0] rfl) h
      · have h := xif c8 h
        refine lv_aload_n hx hb dX12_groups_62 rfl (lv_at hl 1 rfl) ?_
        refine xg_r C hW fg_12_170 KM_0 rfl dX12_groups_63 ?_
        refine lv_iload hx hb dX12_groups_66 (lv_at hl 0 rfl) ?_
        obtain ⟨g9, h⟩ := xgd h
        refine xa_i C hW KM_52 g9 (x := σ.1 52 ((x3 + ((xtb.getD 9 []).getD x4.toNatClampNeg 0)) - 48).toNatClampNeg) rfl dX12_groups_68 ?_
        refine lv_ldcw (v := 1000000000) hx hb C.ow (C.hts _ kc_X12_435) dX12_groups_69 ?_
        refine lv_icmp_lt (tgt := 78) hx hb dX12_groups_72 (by decide) (fun c10 => ?_) (fun c10 => ?_)
        · have h := xit c10 h
          refine lv_aload_n hx hb dX12_groups_78 rfl (lv_at hl 1 rfl) ?_
          refine lv_aload_n hx hb dX12_groups_79 rfl (lv_at hl 2 rfl) ?_
          refine lv_iload_n hx hb dX12_groups_80 rfl (lv_at hl 4 rfl) ?_
          refine lv_iload hx hb dX12_groups_81 (lv_at hl 5 rfl) ?_
          obtain ⟨r11_, e11, h⟩ := xbo h
          refine xc_V (As := [.ref (g.q r1), .int x3, .int x4]) (rest := []) C hW (m_X12_percentOf r1 rn1 hr1 x3 x4 _ e11) mf_X12_percentOf mv_X12_percentOf ml_X12_507 ⟨rfl, rfl⟩ ⟨Nat.le_of_ble_eq_true rfl, Nat.le_of_ble_eq_true rfl⟩ KM_0 rfl hl.1 rfl rfl (Nat.le_of_ble_eq_true rfl) dX12_groups_83 (fun H locs hW => W.eq (g2 := F0 m 86 ls [.int r11_]) rfl ?_)
          refine lv_istore (lv' := [(6, .int r11_), (5, .int ((x3 + ((xtb.getD 9 []).getD x4.toNatClampNeg 0)) - 48)), (0, .ref (g.q 0)), (1, .ref (g.q r1)), (2, .int x2), (3, .int x3), (4, .int x4)]) hx hb dX12_groups_86 hl (Nat.le_of_ble_eq_true rfl) rfl (fun ls hl => ?_)
          refine lv_iconst (v := 1) hx hb dX12_groups_88 rfl ?_
          refine lv_aload_n hx hb dX12_groups_89 rfl (lv_at hl 2 rfl) ?_
          refine xg_r C hW fg_12_170 KM_0 rfl dX12_groups_90 ?_
          refine lv_iload hx hb dX12_groups_93 (lv_at hl 1 rfl) ?_
          obtain ⟨g12, h⟩ := xgd h
          refine xa_i C hW KM_52 g12 (x := σ.1 52 ((x3 + ((xtb.getD 9 []).getD x4.toNatClampNeg 0)) - 48).toNatClampNeg) rfl dX12_groups_95 ?_
          refine lv_iadd hx hb dX12_groups_96 ?_
          refine lv_istore (lv' := [(7, .int (1 + (σ.1 52 ((x3 + ((xtb.getD 9 []).getD x4.toNatClampNeg 0)) - 48).toNatClampNeg))), (6, .int r11_), (5, .int ((x3 + ((xtb.getD 9 []).getD x4.toNatClampNeg 0)) - 48)), (0, .ref (g.q 0)), (1, .ref (g.q r1)), (2, .int x2), (3, .int x3), (4, .int x4)]) hx hb dX12_groups_97 hl (Nat.le_of_ble_eq_true rfl) rfl (fun ls hl => ?_)
          refine lv_iload hx hb dX12_groups_99 (lv_at hl 1 rfl) ?_
          refine lv_aload_n hx hb dX12_groups_101 rfl (lv_at hl 3 rfl) ?_
          refine xg_r C hW fg_12_173 KM_0 rfl dX12_groups_102 ?_
          refine lv_iload hx hb dX12_groups_105 (lv_at hl 2 rfl) ?_
          obtain ⟨g13, h⟩ := xgd h
          refine xa_i C hW KM_53 g13 (x := σ.1 53 ((x3 + ((xtb.getD 9 []).getD x4.toNatClampNeg 0)) - 48).toNatClampNeg) rfl dX12_groups_107 ?_
          refine lv_iadd hx hb dX12_groups_108 ?_
          refine lv_istore (lv' := [(8, .int (r11_ + (σ.1 53 ((x3 + ((xtb.getD 9 []).getD x4.toNatClampNeg 0)) - 48).toNatClampNeg))), (7, .int (1 + (σ.1 52 ((x3 + ((xtb.getD 9 []).getD x4.toNatClampNeg 0)) - 48).toNatClampNeg))), (6, .int r11_), (5, .int ((x3 + ((xtb.getD 9 []).getD x4.toNatClampNeg 0)) - 48)), (0, .ref (g.q 0)), (1, .ref (g.q r1)), (2, .int x2), (3, .int x3), (4, .int x4)]) hx hb dX12_groups_109 hl (Nat.le_of_ble_eq_true rfl) rfl (fun ls hl => ?_)
          refine lv_iload hx hb dX12_groups_111 (lv_at hl 2 rfl) ?_
          refine lv_aload_n hx hb dX12_groups_113 rfl (lv_at hl 4 rfl) ?_
          refine xg_r C hW fg_12_17 KM_0 rfl dX12_groups_114 ?_
          refine lv_iconst (v := 2) hx hb dX12_groups_117 rfl ?_
          obtain ⟨g14, h⟩ := xgd h
          refine xa_i C hW KM_2 g14 (x := σ.1 2 2) rfl dX12_groups_118 ?_
          refine lv_icmp_lt (tgt := 182) hx hb dX12_groups_119 (by decide) (fun c15 => ?_) (fun c15 => ?_)
          · have h := xit c15 h
            refine lv_iinc (v := x4 + 1) (lv' := [(4, .int (x4 + 1)), (8, .int (r11_ + (σ.1 53 ((x3 + ((xtb.getD 9 []).getD x4.toNatClampNeg 0)) - 48).toNatClampNeg))), (7, .int (1 + (σ.1 52 ((x3 + ((xtb.getD 9 []).getD x4.toNatClampNeg 0)) - 48).toNatClampNeg))), (6, .int r11_), (5, .int ((x3 + ((xtb.getD 9 []).getD x4.toNatClampNeg 0)) - 48)), (0, .ref (g.q 0)), (1, .ref (g.q r1)), (2, .int x2), (3, .int x3)]) hx hb dX12_groups_182 hl (k := 8) rfl rfl (Nat.le_of_ble_eq_true rfl) rfl (fun ls hl => ?_)
            refine lv_goto (tgt := 34) hx hb dX12_groups_185 (by decide) ?_
            exact ih x2 x3 (x4 + 1) _ _ _ _ hW (lv_sub hl [5, 6, 7, 8, 0] rfl) h
          · have h := xif c15 h
            refine lv_iload hx hb dX12_groups_122 (lv_at hl 1 rfl) ?_
            refine lv_aload_n hx hb dX12_groups_124 rfl (lv_at hl 4 rfl) ?_
            refine xg_r C hW fg_12_170 KM_0 rfl dX12_groups_125 ?_
            refine lv_iload_n hx hb dX12_groups_128 rfl (lv_at hl 7 rfl) ?_
            obtain ⟨g16, h⟩ := xgd h
            refine xa_i C hW KM_52 g16 (x := σ.1 52 x3.toNatClampNeg) rfl dX12_groups_129 ?_
            refine lv_icmp_gt (tgt := 182) hx hb dX12_groups_130 (by decide) (fun c17 => ?_) (fun c17 => ?_)
            · have h := xit c17 h
              refine lv_iinc (v := x4 + 1) (lv' := [(4, .int (x4 + 1)), (8, .int (r11_ + (σ.1 53 ((x3 + ((xtb.getD 9 []).getD x4.toNatClampNeg 0)) - 48).toNatClampNeg))), (7, .int (1 + (σ.1 52 ((x3 + ((xtb.getD 9 []).getD x4.toNatClampNeg 0)) - 48).toNatClampNeg))), (6, .int r11_), (5, .int ((x3 + ((xtb.getD 9 []).getD x4.toNatClampNeg 0)) - 48)), (0, .ref (g.q 0)), (1, .ref (g.q r1)), (2, .int x2), (3, .int x3)]) hx hb dX12_groups_182 hl (k := 8) rfl rfl (Nat.le_of_ble_eq_true rfl) rfl (fun ls hl => ?_)
              refine lv_goto (tgt := 34) hx hb dX12_groups_185 (by decide) ?_
              exact ih x2 x3 (x4 + 1) _ _ _ _ hW (lv_sub hl [5, 6, 7, 8, 0] rfl) h
            · have h := xif c17 h
              refine lv_iload hx hb dX12_groups_133 (lv_at hl 1 rfl) ?_
              refine lv_aload_n hx hb dX12_groups_135 rfl (lv_at hl 4 rfl) ?_
              refine xg_r C hW fg_12_170 KM_0 rfl dX12_groups_136 ?_
              refine lv_iload_n hx hb dX12_groups_139 rfl (lv_at hl 7 rfl) ?_
              obtain ⟨g18, h⟩ := xgd h
              refine xa_i C hW KM_52 g18 (x := σ.1 52 x3.toNatClampNeg) rfl dX12_groups_140 ?_
              refine lv_icmp_ne (tgt := 158) hx hb dX12_groups_141 (by decide) (fun c19 => ?_) (fun c19 => ?_)
              · have h := xif c19 h
                exact w_X12_groups_158 r1 rn1 hr1 N k2 (f_X12_groups_34 r1 rn1 N k2 n) C hk2 ih x2 x3 x4 (1 + (σ.1 52 ((x3 + ((xtb.getD 9 []).getD x4.toNatClampNeg 0)) - 48).toNatClampNeg)) (r11_ + (σ.1 53 ((x3 + ((xtb.getD 9 []).getD x4.toNatClampNeg 0)) - 48).toNatClampNeg)) _ _ _ _ hW (lv_sub hl [4, 5, 6, 7, 8, 1, 0] rfl) h
              · have h := xit c19 h
                refine lv_iload hx hb dX12_groups_144 (lv_at hl 0 rfl) ?_
                refine lv_aload_n hx hb dX12_groups_146 rfl (lv_at hl 4 rfl) ?_
                refine xg_r C hW fg_12_173 KM_0 rfl dX12_groups_147 ?_
                refine lv_iload_n hx hb dX12_groups_150 rfl (lv_at hl 7 rfl) ?_
                obtain ⟨g20, h⟩ := xgd h
                refine xa_i C hW KM_53 g20 (x := σ.1 53 x3.toNatClampNeg) rfl dX12_groups_151 ?_
                refine lv_icmp_gt (tgt := 158) hx hb dX12_groups_152 (by decide) (fun c21 => ?_) (fun c21 => ?_)
                · have h := xit c21 h
                  exact w_X12_groups_158 r1 rn1 hr1 N k2 (f_X12_groups_34 r1 rn1 N k2 n) C hk2 ih x2 x3 x4 (1 + (σ.1 52 ((x3 + ((xtb.getD 9 []).getD x4.toNatClampNeg 0)) - 48).toNatClampNeg)) (r11_ + (σ.1 53 ((x3 + ((xtb.getD 9 []).getD x4.toNatClampNeg 0)) - 48).toNatClampNeg)) _ _ _ _ hW (lv_sub hl [4, 5, 6, 7, 8, 1, 0] rfl) h
                · have h := xif c21 h
                  refine lv_goto (tgt := 182) hx hb dX12_groups_155 (by decide) ?_
                  refine lv_iinc (v := x4 + 1) (lv' := [(4, .int (x4 + 1)), (8, .int (r11_ + (σ.1 53 ((x3 + ((xtb.getD 9 []).getD x4.toNatClampNeg 0)) - 48).toNatClampNeg))), (7, .int (1 + (σ.1 52 ((x3 + ((xtb.getD 9 []).getD x4.toNatClampNeg 0)) - 48).toNatClampNeg))), (6, .int r11_), (5, .int ((x3 + ((xtb.getD 9 []).getD x4.toNatClampNeg 0)) - 48)), (0, .ref (g.q 0)), (1, .ref (g.q r1)), (2, .int x2), (3, .int x3)]) hx hb dX12_groups_182 hl (k := 8) rfl rfl (Nat.le_of_ble_eq_true rfl) rfl (fun ls hl => ?_)
                  refine lv_goto (tgt := 34) hx hb dX12_groups_185 (by decide) ?_
                  exact ih x2 x3 (x4 + 1) _ _ _ _ hW (lv_sub hl [5, 6, 7, 8, 0] rfl) h
        · have h := xif c10 h
          refine lv_goto (tgt := 182) hx hb dX12_groups_75 (by decide) ?_
          refine lv_iinc (v := x4 + 1) (lv' := [(4, .int (x4 + 1)), (5, .int ((x3 + ((xtb.getD 9 []).getD x4.toNatClampNeg 0)) - 48)), (0, .ref (g.q 0)), (1, .ref (g.q r1)), (2, .int x2), (3, .int x3)]) hx hb dX12_groups_182 hl (k := 5) rfl rfl (Nat.le_of_ble_eq_true rfl) rfl (fun ls hl => ?_)
          refine lv_goto (tgt := 34) hx hb dX12_groups_185 (by decide) ?_
          exact ih x2 x3 (x4 + 1) _ _ _ _ hW (lv_sub hl [2, 3, 4, 5, 0] rfl) h
set_option maxRecDepth 4000 in
theorem w_X12_groups_23 (r1 rn1 : Nat) (hr1 : KM[r1]? = some (.inr (0, rn1))) (N : Nat) (k2 : Int32 → Int32 → St → Option (Int32 × St)) {r : Int32} {σ' : St} (C : xC KM g RX12 cX12_groups 9 (some .int) p s m args meth c) (hk2 : ∀ (x2 : Int32) (x3 : Int32) (σ : St) (H : Heap) (locs : List Loc) (ls : Array Slot), xW KM g s σ H locs → lv_has ls 9 [(0, .ref (g.q 0)), (1, .ref (g.q r1)), (2, .int x2), (3, .int x3)] → k2 x2 x3 σ = some (r, σ') → W p l e rm_X12_groups s m args below meth c H locs 0 0 (MQ below (xPost KM g (some (.int r)) σ') args s 0 0 (xA KM g.q)) (F0 m 2 ls [])) : ∀ (x2 : Int32) (x3 : Int32) (t1 : Int32) (t2 : Int32) (σ : St) (H : Heap) (locs : List Loc) (ls : Array Slot), xW KM g s σ H locs → lv_has ls 9 [(0, .ref (g.q 0)), (1, .ref (g.q r1)), (2, .int x2), (3, .int x3)] → f_X12_groups_23 r1 rn1 N k2 x2 x3 t1 t2 σ = some (r, σ') → W p l e rm_X12_groups s m args below meth c H locs 0 0 (MQ below (xPost KM g (some (.int r)) σ') args s 0 0 (xA KM g.q)) (F0 m 23 ls [.int t2, .int t1, .ref (g.q 52)]) := by
  have hx := C.1
  have hb := C.2.1
  intro x2 x3 t1 t2 σ H locs ls hW hl h
  unfold f_X12_groups_23 at h
  obtain ⟨g4, h⟩ := xgd h
  refine xs_i C hW KM_52 g4 dX12_groups_23 (fun H locs hW => ?_)
  refine lv_aload_n hx hb dX12_groups_24 rfl (lv_at hl 0 rfl) ?_
  refine xg_r C hW fg_12_173 KM_0 rfl dX12_groups_25 ?_
  refine lv_iload_n hx hb dX12_groups_28 rfl (lv_at hl 3 rfl) ?_
  refine lv_iconst (v := 0) hx hb dX12_groups_29 rfl ?_
  obtain ⟨g5, h⟩ := xgd h
  refine xs_i C hW KM_53 g5 dX12_groups_30 (fun H locs hW => ?_)
  refine lv_iconst (v := 0) hx hb dX12_groups_31 rfl ?_
  refine lv_istore (lv' := [(4, .int 0), (0, .ref (g.q 0)), (1, .ref (g.q r1)), (2, .int x2), (3, .int x3)]) hx hb dX12_groups_32 hl (Nat.le_of_ble_eq_true rfl) rfl (fun ls hl => ?_)
  exact w_X12_groups_34 r1 rn1 hr1 N k2 C hk2 N x2 x3 0 _ _ _ _ hW (lv_sub hl [1, 2, 3, 4, 0] rfl) h
set_option maxRecDepth 4000 in
theorem w_X12_groups_2 (r1 rn1 : Nat) (hr1 : KM[r1]? = some (.inr (0, rn1))) (N : Nat) {r : Int32} {σ' : St} (C : xC KM g RX12 cX12_groups 9 (some .int) p s m args meth c) : ∀ (n : Nat), ∀ (x2 : Int32) (x3 : Int32) (σ : St) (H : Heap) (locs : List Loc) (ls : Array Slot), xW KM g s σ H locs → lv_has ls 9 [(0, .ref (g.q 0)), (1, .ref (g.q r1)), (2, .int x2), (3, .int x3)] → f_X12_groups_2 r1 rn1 N n x2 x3 σ = some (r, σ') → W p l e rm_X12_groups s m args below meth c H locs 0 0 (MQ below (xPost KM g (some (.int r)) σ') args s 0 0 (xA KM g.q)) (F0 m 2 ls []) := by
  have hx := C.1
  have hb := C.2.1
  intro n
  induction n with
  | zero => intro x2 x3 σ H locs ls hW hl h; rw [f_X12_groups_2] at h; cases h
  | succ n ih =>
    intro x2 x3 σ H locs ls hW hl h
    rw [f_X12_groups_2] at h
    refine lv_iload_n hx hb dX12_groups_2 rfl (lv_at hl 3 rfl) ?_
    refine lv_if_lt (tgt := 194) hx hb dX12_groups_3 (by decide) (fun c1 => ?_) (fun c1 => ?_)
    · have h := xit c1 h
      refine lv_aload_n hx hb dX12_groups_194 rfl (lv_at hl 0 rfl) ?_
      refine xg_r C hW fg_12_170 KM_0 rfl dX12_groups_195 ?_
      refine lv_iconst (v := 0) hx hb dX12_groups_198 rfl ?_
      obtain ⟨g2, h⟩ := xgd h
      refine xa_i C hW KM_52 g2 (x := σ.1 52 0) rfl dX12_groups_199 ?_
      cases h
      exact xr_i C hW dX12_groups_200
    · have h := xif c1 h
      refine lv_aload_n hx hb dX12_groups_6 rfl (lv_at hl 0 rfl) ?_
      refine xg_r C hW fg_12_170 KM_0 rfl dX12_groups_7 ?_
      refine lv_iload_n hx hb dX12_groups_10 rfl (lv_at hl 3 rfl) ?_
      refine lv_iload_n hx hb dX12_groups_11 rfl (lv_at hl 3 rfl) ?_
      refine lv_iload_n hx hb dX12_groups_12 rfl (lv_at hl 2 rfl) ?_
      refine lv_icmp_ne (tgt := 20) hx hb dX12_groups_13 (by decide) (fun c3 => ?_) (fun c3 => ?_)
      · have h := xif c3 h
        refine lv_ldcw (v := 1000000000) hx hb C.ow (C.hts _ kc_X12_435) dX12_groups_20 ?_
        exact w_X12_groups_23 r1 rn1 hr1 N (f_X12_groups_2 r1 rn1 N n) C ih x2 x3 x3 1000000000 _ _ _ _ hW (lv_sub hl [0, 1, 2, 3] rfl) h
      · have h := xit c3 h
        refine lv_iconst (v := 0) hx hb dX12_groups_16 rfl ?_
        refine lv_goto (tgt := 23) hx hb dX12_groups_17 (by decide) ?_
        exact w_X12_groups_23 r1 rn1 hr1 N (f_X12_groups_2 r1 rn1 N n) C ih x2 x3 x3 0 _ _ _ _ hW (lv_sub hl [0, 1, 2, 3] rfl) h
set_option maxRecDepth 4000 in
theorem m_X12_groups (r1 rn1 : Nat) (hr1 : KM[r1]? = some (.inr (0, rn1))) (N : Nat) (x2 : Int32) (σ : St) {r : Int32} {σ' : St} (h : f_X12_groups r1 rn1 N x2 σ = some (r, σ')) : xM l KM g yX12_groups cX12_groups 9 (some .int) rm_X12_groups [.ref (g.q 0), .ref (g.q r1), .int x2] σ (some (.int r)) σ' := by
  refine xmet pn_X12 rfl (Nat.le_of_ble_eq_true rfl) (lv := [(0, .ref (g.q 0)), (1, .ref (g.q r1)), (2, .int x2)]) rfl (fun p e s m args below meth c ls C hW hl => ?_)
  have hx := C.1
  have hb := C.2.1
  unfold f_X12_groups at h
  refine lv_iload_n hx hb dX12_groups_0 rfl (lv_at hl 2 rfl) ?_
  refine lv_istore_n (lv' := [(3, .int x2), (0, .ref (g.q 0)), (1, .ref (g.q r1)), (2, .int x2)]) hx hb dX12_groups_1 rfl hl (Nat.le_of_ble_eq_true rfl) rfl (fun ls hl => ?_)
  exact w_X12_groups_2 r1 rn1 hr1 N C N x2 x2 _ _ _ _ hW (lv_sub hl [1, 2, 3, 0] rfl) h
end
theorem dX12_paint_0 : decode cX12_paint 0 = .ok (.aload_n 0, 1) := by decide +kernel
theorem dX12_paint_1 : decode cX12_paint 1 = .ok (.getfield 28, 3) := by decide +kernel
theorem dX12_paint_4 : decode cX12_paint 4 = .ok (.iload_n 1, 1) := by decide +kernel
theorem dX12_paint_5 : decode cX12_paint 5 = .ok (.iaload, 1) := by decide +kernel
theorem dX12_paint_6 : decode cX12_paint 6 = .ok (.aload_n 0, 1) := by decide +kernel
theorem dX12_paint_7 : decode cX12_paint 7 = .ok (.getfield 31, 3) := by decide +kernel
theorem dX12_paint_10 : decode cX12_paint 10 = .ok (.iload_n 1, 1) := by decide +kernel
theorem dX12_paint_11 : decode cX12_paint 11 = .ok (.iaload, 1) := by decide +kernel
theorem dX12_paint_12 : decode cX12_paint 12 = .ok (.imul, 1) := by decide +kernel
theorem dX12_paint_13 : decode cX12_paint 13 = .ok (.ireturn, 1) := by decide +kernel
abbrev rm_X12_paint : Room := { frames := 0, cells := 0, slots := 0, locals := 0 }
def f_X12_paint (x1 : Int32) (σ : St) : Option Int32 := grd (ib x1 80) (grd (ib x1 80) (some ((σ.1 5 x1.toNatClampNeg) * (σ.1 6 x1.toNatClampNeg))))
section
variable {p : Program} {l : Launch} {e : Env} {s : State} {m : MethodId} {args : Array Value} {below : List Frame} {meth : Method} {c : Code} {g : XG}
set_option maxRecDepth 4000 in
theorem m_X12_paint (x1 : Int32) (σ : St) {r : Int32} (h : f_X12_paint x1 σ = some r) : xM l KM g yX12_paint cX12_paint 2 (some .int) rm_X12_paint [.ref (g.q 0), .int x1] σ (some (.int r)) σ := by
  refine xmet pn_X12 rfl (Nat.le_of_ble_eq_true rfl) (lv := [(0, .ref (g.q 0)), (1, .int x1)]) rfl (fun p e s m args below meth c ls C hW hl => ?_)
  have hx := C.1
  have hb := C.2.1
  unfold f_X12_paint at h
  refine lv_aload_n hx hb dX12_paint_0 rfl (lv_at hl 0 rfl) ?_
  refine xg_r C hW fg_12_28 KM_0 rfl dX12_paint_1 ?_
  refine lv_iload_n hx hb dX12_paint_4 rfl (lv_at hl 1 rfl) ?_
  obtain ⟨g1, h⟩ := xgd h
  refine xa_i C hW KM_5 g1 (x := σ.1 5 x1.toNatClampNeg) rfl dX12_paint_5 ?_
  refine lv_aload_n hx hb dX12_paint_6 rfl (lv_at hl 0 rfl) ?_
  refine xg_r C hW fg_12_31 KM_0 rfl dX12_paint_7 ?_
  refine lv_iload_n hx hb dX12_paint_10 rfl (lv_at hl 1 rfl) ?_
  obtain ⟨g2, h⟩ := xgd h
  refine xa_i C hW KM_6 g2 (x := σ.1 6 x1.toNatClampNeg) rfl dX12_paint_11 ?_
  refine lv_imul hx hb dX12_paint_12 ?_
  cases h
  exact xr_i C hW dX12_paint_13
end
