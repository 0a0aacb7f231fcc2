theorem d_law_0 : decode code 0 = .ok (.new 7, 3) := by decide +kernel
theorem d_law_3 : decode code 3 = .ok (.dup, 1) := by decide +kernel
theorem d_law_4 : decode code 4 = .ok (.invokespecial 9, 3) := by decide +kernel
theorem d_law_7 : decode code 7 = .ok (.astore_n 1, 1) := by decide +kernel
theorem d_law_8 : decode code 8 = .ok (.new 10, 3) := by decide +kernel
theorem d_law_11 : decode code 11 = .ok (.dup, 1) := by decide +kernel
theorem d_law_12 : decode code 12 = .ok (.invokespecial 12, 3) := by decide +kernel
theorem d_law_15 : decode code 15 = .ok (.astore_n 2, 1) := by decide +kernel
theorem d_law_16 : decode code 16 = .ok (.iconst 0, 1) := by decide +kernel
theorem d_law_17 : decode code 17 = .ok (.istore_n 3, 1) := by decide +kernel
theorem d_law_18 : decode code 18 = .ok (.iload_n 3, 1) := by decide +kernel
theorem d_law_19 : decode code 19 = .ok (.aload_n 0, 1) := by decide +kernel
theorem d_law_20 : decode code 20 = .ok (.arraylength, 1) := by decide +kernel
theorem d_law_21 : decode code 21 = .ok (.bipush 6, 2) := by decide +kernel
theorem d_law_23 : decode code 23 = .ok (.isub, 1) := by decide +kernel
theorem d_law_24 : decode code 24 = .ok (.if_icmp .gt 1034, 3) := by decide +kernel
theorem d_law_27 : decode code 27 = .ok (.aload_n 0, 1) := by decide +kernel
theorem d_law_28 : decode code 28 = .ok (.iload_n 3, 1) := by decide +kernel
theorem d_law_29 : decode code 29 = .ok (.iaload, 1) := by decide +kernel
theorem d_law_30 : decode code 30 = .ok (.bipush 63, 2) := by decide +kernel
theorem d_law_32 : decode code 32 = .ok (.iand, 1) := by decide +kernel
theorem d_law_33 : decode code 33 = .ok (.tableswitch 1019 0 33 #[151, 214, 237, 250, 273, 296, 329, 342, 355, 388, 421, 460, 473, 506, 529, 552, 585, 598, 621, 634, 667, 680, 713, 736, 749, 782, 795, 818, 841, 874, 887, 900, 943, 996], 151) := by decide +kernel
theorem d_law_184 : decode code 184 = .ok (.aload_n 1, 1) := by decide +kernel
theorem d_law_185 : decode code 185 = .ok (.aload_n 0, 1) := by decide +kernel
theorem d_law_186 : decode code 186 = .ok (.iload_n 3, 1) := by decide +kernel
theorem d_law_187 : decode code 187 = .ok (.iconst 1, 1) := by decide +kernel
theorem d_law_188 : decode code 188 = .ok (.iadd, 1) := by decide +kernel
theorem d_law_189 : decode code 189 = .ok (.iaload, 1) := by decide +kernel
theorem d_law_190 : decode code 190 = .ok (.aload_n 0, 1) := by decide +kernel
theorem d_law_191 : decode code 191 = .ok (.iload_n 3, 1) := by decide +kernel
theorem d_law_192 : decode code 192 = .ok (.iconst 2, 1) := by decide +kernel
theorem d_law_193 : decode code 193 = .ok (.iadd, 1) := by decide +kernel
theorem d_law_194 : decode code 194 = .ok (.iaload, 1) := by decide +kernel
theorem d_law_195 : decode code 195 = .ok (.aload_n 0, 1) := by decide +kernel
theorem d_law_196 : decode code 196 = .ok (.iload_n 3, 1) := by decide +kernel
theorem d_law_197 : decode code 197 = .ok (.iconst 3, 1) := by decide +kernel
theorem d_law_198 : decode code 198 = .ok (.iadd, 1) := by decide +kernel
theorem d_law_199 : decode code 199 = .ok (.iaload, 1) := by decide +kernel
theorem d_law_200 : decode code 200 = .ok (.aload_n 0, 1) := by decide +kernel
theorem d_law_201 : decode code 201 = .ok (.iload_n 3, 1) := by decide +kernel
theorem d_law_202 : decode code 202 = .ok (.iconst 4, 1) := by decide +kernel
theorem d_law_203 : decode code 203 = .ok (.iadd, 1) := by decide +kernel
theorem d_law_204 : decode code 204 = .ok (.iaload, 1) := by decide +kernel
theorem d_law_205 : decode code 205 = .ok (.aload_n 0, 1) := by decide +kernel
theorem d_law_206 : decode code 206 = .ok (.iload_n 3, 1) := by decide +kernel
theorem d_law_207 : decode code 207 = .ok (.iconst 5, 1) := by decide +kernel
theorem d_law_208 : decode code 208 = .ok (.iadd, 1) := by decide +kernel
theorem d_law_209 : decode code 209 = .ok (.iaload, 1) := by decide +kernel
theorem d_law_210 : decode code 210 = .ok (.invokevirtual 13, 3) := by decide +kernel
theorem d_law_213 : decode code 213 = .ok (.aload_n 2, 1) := by decide +kernel
theorem d_law_214 : decode code 214 = .ok (.aload_n 0, 1) := by decide +kernel
theorem d_law_215 : decode code 215 = .ok (.iload_n 3, 1) := by decide +kernel
theorem d_law_216 : decode code 216 = .ok (.iconst 1, 1) := by decide +kernel
theorem d_law_217 : decode code 217 = .ok (.iadd, 1) := by decide +kernel
theorem d_law_218 : decode code 218 = .ok (.iaload, 1) := by decide +kernel
theorem d_law_219 : decode code 219 = .ok (.aload_n 0, 1) := by decide +kernel
theorem d_law_220 : decode code 220 = .ok (.iload_n 3, 1) := by decide +kernel
theorem d_law_221 : decode code 221 = .ok (.iconst 2, 1) := by decide +kernel
theorem d_law_222 : decode code 222 = .ok (.iadd, 1) := by decide +kernel
theorem d_law_223 : decode code 223 = .ok (.iaload, 1) := by decide +kernel
theorem d_law_224 : decode code 224 = .ok (.aload_n 0, 1) := by decide +kernel
theorem d_law_225 : decode code 225 = .ok (.iload_n 3, 1) := by decide +kernel
theorem d_law_226 : decode code 226 = .ok (.iconst 3, 1) := by decide +kernel
theorem d_law_227 : decode code 227 = .ok (.iadd, 1) := by decide +kernel
theorem d_law_228 : decode code 228 = .ok (.iaload, 1) := by decide +kernel
theorem d_law_229 : decode code 229 = .ok (.aload_n 0, 1) := by decide +kernel
theorem d_law_230 : decode code 230 = .ok (.iload_n 3, 1) := by decide +kernel
theorem d_law_231 : decode code 231 = .ok (.iconst 4, 1) := by decide +kernel
theorem d_law_232 : decode code 232 = .ok (.iadd, 1) := by decide +kernel
theorem d_law_233 : decode code 233 = .ok (.iaload, 1) := by decide +kernel
theorem d_law_234 : decode code 234 = .ok (.aload_n 0, 1) := by decide +kernel
theorem d_law_235 : decode code 235 = .ok (.iload_n 3, 1) := by decide +kernel
theorem d_law_236 : decode code 236 = .ok (.iconst 5, 1) := by decide +kernel
theorem d_law_237 : decode code 237 = .ok (.iadd, 1) := by decide +kernel
theorem d_law_238 : decode code 238 = .ok (.iaload, 1) := by decide +kernel
theorem d_law_239 : decode code 239 = .ok (.invokevirtual 17, 3) := by decide +kernel
theorem d_law_242 : decode code 242 = .ok (.if_icmp .eq 810, 3) := by decide +kernel
theorem d_law_245 : decode code 245 = .ok (.iconst 0, 1) := by decide +kernel
theorem d_law_246 : decode code 246 = .ok (.ireturn, 1) := by decide +kernel
theorem d_law_247 : decode code 247 = .ok (.aload_n 1, 1) := by decide +kernel
theorem d_law_248 : decode code 248 = .ok (.aload_n 0, 1) := by decide +kernel
theorem d_law_249 : decode code 249 = .ok (.iload_n 3, 1) := by decide +kernel
theorem d_law_250 : decode code 250 = .ok (.iconst 1, 1) := by decide +kernel
theorem d_law_251 : decode code 251 = .ok (.iadd, 1) := by decide +kernel
theorem d_law_252 : decode code 252 = .ok (.iaload, 1) := by decide +kernel
theorem d_law_253 : decode code 253 = .ok (.invokevirtual 18, 3) := by decide +kernel
theorem d_law_256 : decode code 256 = .ok (.aload_n 2, 1) := by decide +kernel
theorem d_law_257 : decode code 257 = .ok (.aload_n 0, 1) := by decide +kernel
theorem d_law_258 : decode code 258 = .ok (.iload_n 3, 1) := by decide +kernel
theorem d_law_259 : decode code 259 = .ok (.iconst 1, 1) := by decide +kernel
theorem d_law_260 : decode code 260 = .ok (.iadd, 1) := by decide +kernel
theorem d_law_261 : decode code 261 = .ok (.iaload, 1) := by decide +kernel
theorem d_law_262 : decode code 262 = .ok (.invokevirtual 22, 3) := by decide +kernel
theorem d_law_265 : decode code 265 = .ok (.if_icmp .eq 787, 3) := by decide +kernel
theorem d_law_268 : decode code 268 = .ok (.iconst 0, 1) := by decide +kernel
theorem d_law_269 : decode code 269 = .ok (.ireturn, 1) := by decide +kernel
theorem d_law_270 : decode code 270 = .ok (.aload_n 1, 1) := by decide +kernel
theorem d_law_271 : decode code 271 = .ok (.invokevirtual 23, 3) := by decide +kernel
theorem d_law_274 : decode code 274 = .ok (.aload_n 2, 1) := by decide +kernel
theorem d_law_275 : decode code 275 = .ok (.invokevirtual 27, 3) := by decide +kernel
theorem d_law_278 : decode code 278 = .ok (.if_icmp .eq 774, 3) := by decide +kernel
theorem d_law_281 : decode code 281 = .ok (.iconst 0, 1) := by decide +kernel
theorem d_law_282 : decode code 282 = .ok (.ireturn, 1) := by decide +kernel
theorem d_law_283 : decode code 283 = .ok (.aload_n 1, 1) := by decide +kernel
theorem d_law_284 : decode code 284 = .ok (.aload_n 0, 1) := by decide +kernel
theorem d_law_285 : decode code 285 = .ok (.iload_n 3, 1) := by decide +kernel
theorem d_law_286 : decode code 286 = .ok (.iconst 1, 1) := by decide +kernel
theorem d_law_287 : decode code 287 = .ok (.iadd, 1) := by decide +kernel
theorem d_law_288 : decode code 288 = .ok (.iaload, 1) := by decide +kernel
theorem d_law_289 : decode code 289 = .ok (.invokevirtual 28, 3) := by decide +kernel
theorem d_law_292 : decode code 292 = .ok (.aload_n 2, 1) := by decide +kernel
theorem d_law_293 : decode code 293 = .ok (.aload_n 0, 1) := by decide +kernel
theorem d_law_294 : decode code 294 = .ok (.iload_n 3, 1) := by decide +kernel
theorem d_law_295 : decode code 295 = .ok (.iconst 1, 1) := by decide +kernel
theorem d_law_296 : decode code 296 = .ok (.iadd, 1) := by decide +kernel
theorem d_law_297 : decode code 297 = .ok (.iaload, 1) := by decide +kernel
theorem d_law_298 : decode code 298 = .ok (.invokevirtual 31, 3) := by decide +kernel
theorem d_law_301 : decode code 301 = .ok (.if_icmp .eq 751, 3) := by decide +kernel
theorem d_law_304 : decode code 304 = .ok (.iconst 0, 1) := by decide +kernel
theorem d_law_305 : decode code 305 = .ok (.ireturn, 1) := by decide +kernel
theorem d_law_306 : decode code 306 = .ok (.aload_n 1, 1) := by decide +kernel
theorem d_law_307 : decode code 307 = .ok (.aload_n 0, 1) := by decide +kernel
theorem d_law_308 : decode code 308 = .ok (.iload_n 3, 1) := by decide +kernel
theorem d_law_309 : decode code 309 = .ok (.iconst 1, 1) := by decide +kernel
theorem d_law_310 : decode code 310 = .ok (.iadd, 1) := by decide +kernel
theorem d_law_311 : decode code 311 = .ok (.iaload, 1) := by decide +kernel
theorem d_law_312 : decode code 312 = .ok (.invokevirtual 32, 3) := by decide +kernel
theorem d_law_315 : decode code 315 = .ok (.aload_n 2, 1) := by decide +kernel
theorem d_law_316 : decode code 316 = .ok (.aload_n 0, 1) := by decide +kernel
theorem d_law_317 : decode code 317 = .ok (.iload_n 3, 1) := by decide +kernel
theorem d_law_318 : decode code 318 = .ok (.iconst 1, 1) := by decide +kernel
theorem d_law_319 : decode code 319 = .ok (.iadd, 1) := by decide +kernel
theorem d_law_320 : decode code 320 = .ok (.iaload, 1) := by decide +kernel
theorem d_law_321 : decode code 321 = .ok (.invokevirtual 35, 3) := by decide +kernel
theorem d_law_324 : decode code 324 = .ok (.if_icmp .eq 728, 3) := by decide +kernel
theorem d_law_327 : decode code 327 = .ok (.iconst 0, 1) := by decide +kernel
theorem d_law_328 : decode code 328 = .ok (.ireturn, 1) := by decide +kernel
theorem d_law_329 : decode code 329 = .ok (.aload_n 1, 1) := by decide +kernel
theorem d_law_330 : decode code 330 = .ok (.aload_n 0, 1) := by decide +kernel
theorem d_law_331 : decode code 331 = .ok (.iload_n 3, 1) := by decide +kernel
theorem d_law_332 : decode code 332 = .ok (.iconst 1, 1) := by decide +kernel
theorem d_law_333 : decode code 333 = .ok (.iadd, 1) := by decide +kernel
theorem d_law_334 : decode code 334 = .ok (.iaload, 1) := by decide +kernel
theorem d_law_335 : decode code 335 = .ok (.aload_n 0, 1) := by decide +kernel
theorem d_law_336 : decode code 336 = .ok (.iload_n 3, 1) := by decide +kernel
theorem d_law_337 : decode code 337 = .ok (.iconst 2, 1) := by decide +kernel
theorem d_law_338 : decode code 338 = .ok (.iadd, 1) := by decide +kernel
theorem d_law_339 : decode code 339 = .ok (.iaload, 1) := by decide +kernel
theorem d_law_340 : decode code 340 = .ok (.invokevirtual 36, 3) := by decide +kernel
theorem d_law_343 : decode code 343 = .ok (.aload_n 2, 1) := by decide +kernel
theorem d_law_344 : decode code 344 = .ok (.aload_n 0, 1) := by decide +kernel
theorem d_law_345 : decode code 345 = .ok (.iload_n 3, 1) := by decide +kernel
theorem d_law_346 : decode code 346 = .ok (.iconst 1, 1) := by decide +kernel
theorem d_law_347 : decode code 347 = .ok (.iadd, 1) := by decide +kernel
theorem d_law_348 : decode code 348 = .ok (.iaload, 1) := by decide +kernel
theorem d_law_349 : decode code 349 = .ok (.aload_n 0, 1) := by decide +kernel
theorem d_law_350 : decode code 350 = .ok (.iload_n 3, 1) := by decide +kernel
theorem d_law_351 : decode code 351 = .ok (.iconst 2, 1) := by decide +kernel
theorem d_law_352 : decode code 352 = .ok (.iadd, 1) := by decide +kernel
theorem d_law_353 : decode code 353 = .ok (.iaload, 1) := by decide +kernel
theorem d_law_354 : decode code 354 = .ok (.invokevirtual 40, 3) := by decide +kernel
theorem d_law_357 : decode code 357 = .ok (.if_icmp .eq 695, 3) := by decide +kernel
theorem d_law_360 : decode code 360 = .ok (.iconst 0, 1) := by decide +kernel
theorem d_law_361 : decode code 361 = .ok (.ireturn, 1) := by decide +kernel
theorem d_law_362 : decode code 362 = .ok (.aload_n 1, 1) := by decide +kernel
theorem d_law_363 : decode code 363 = .ok (.invokevirtual 41, 3) := by decide +kernel
theorem d_law_366 : decode code 366 = .ok (.aload_n 2, 1) := by decide +kernel
theorem d_law_367 : decode code 367 = .ok (.invokevirtual 44, 3) := by decide +kernel
theorem d_law_370 : decode code 370 = .ok (.if_icmp .eq 682, 3) := by decide +kernel
theorem d_law_373 : decode code 373 = .ok (.iconst 0, 1) := by decide +kernel
theorem d_law_374 : decode code 374 = .ok (.ireturn, 1) := by decide +kernel
theorem d_law_375 : decode code 375 = .ok (.aload_n 1, 1) := by decide +kernel
theorem d_law_376 : decode code 376 = .ok (.invokevirtual 45, 3) := by decide +kernel
theorem d_law_379 : decode code 379 = .ok (.aload_n 2, 1) := by decide +kernel
theorem d_law_380 : decode code 380 = .ok (.invokevirtual 48, 3) := by decide +kernel
theorem d_law_383 : decode code 383 = .ok (.if_icmp .eq 669, 3) := by decide +kernel
theorem d_law_386 : decode code 386 = .ok (.iconst 0, 1) := by decide +kernel
theorem d_law_387 : decode code 387 = .ok (.ireturn, 1) := by decide +kernel
theorem d_law_388 : decode code 388 = .ok (.aload_n 1, 1) := by decide +kernel
theorem d_law_389 : decode code 389 = .ok (.aload_n 0, 1) := by decide +kernel
theorem d_law_390 : decode code 390 = .ok (.iload_n 3, 1) := by decide +kernel
theorem d_law_391 : decode code 391 = .ok (.iconst 1, 1) := by decide +kernel
theorem d_law_392 : decode code 392 = .ok (.iadd, 1) := by decide +kernel
theorem d_law_393 : decode code 393 = .ok (.iaload, 1) := by decide +kernel
theorem d_law_394 : decode code 394 = .ok (.aload_n 0, 1) := by decide +kernel
theorem d_law_395 : decode code 395 = .ok (.iload_n 3, 1) := by decide +kernel
theorem d_law_396 : decode code 396 = .ok (.iconst 2, 1) := by decide +kernel
theorem d_law_397 : decode code 397 = .ok (.iadd, 1) := by decide +kernel
theorem d_law_398 : decode code 398 = .ok (.iaload, 1) := by decide +kernel
theorem d_law_399 : decode code 399 = .ok (.invokevirtual 49, 3) := by decide +kernel
theorem d_law_402 : decode code 402 = .ok (.aload_n 2, 1) := by decide +kernel
theorem d_law_403 : decode code 403 = .ok (.aload_n 0, 1) := by decide +kernel
theorem d_law_404 : decode code 404 = .ok (.iload_n 3, 1) := by decide +kernel
theorem d_law_405 : decode code 405 = .ok (.iconst 1, 1) := by decide +kernel
theorem d_law_406 : decode code 406 = .ok (.iadd, 1) := by decide +kernel
theorem d_law_407 : decode code 407 = .ok (.iaload, 1) := by decide +kernel
theorem d_law_408 : decode code 408 = .ok (.aload_n 0, 1) := by decide +kernel
theorem d_law_409 : decode code 409 = .ok (.iload_n 3, 1) := by decide +kernel
theorem d_law_410 : decode code 410 = .ok (.iconst 2, 1) := by decide +kernel
theorem d_law_411 : decode code 411 = .ok (.iadd, 1) := by decide +kernel
theorem d_law_412 : decode code 412 = .ok (.iaload, 1) := by decide +kernel
theorem d_law_413 : decode code 413 = .ok (.invokevirtual 52, 3) := by decide +kernel
theorem d_law_416 : decode code 416 = .ok (.if_icmp .eq 636, 3) := by decide +kernel
theorem d_law_419 : decode code 419 = .ok (.iconst 0, 1) := by decide +kernel
theorem d_law_420 : decode code 420 = .ok (.ireturn, 1) := by decide +kernel
theorem d_law_421 : decode code 421 = .ok (.aload_n 1, 1) := by decide +kernel
theorem d_law_422 : decode code 422 = .ok (.aload_n 0, 1) := by decide +kernel
theorem d_law_423 : decode code 423 = .ok (.iload_n 3, 1) := by decide +kernel
theorem d_law_424 : decode code 424 = .ok (.iconst 1, 1) := by decide +kernel
theorem d_law_425 : decode code 425 = .ok (.iadd, 1) := by decide +kernel
theorem d_law_426 : decode code 426 = .ok (.iaload, 1) := by decide +kernel
theorem d_law_427 : decode code 427 = .ok (.aload_n 0, 1) := by decide +kernel
theorem d_law_428 : decode code 428 = .ok (.iload_n 3, 1) := by decide +kernel
theorem d_law_429 : decode code 429 = .ok (.iconst 2, 1) := by decide +kernel
theorem d_law_430 : decode code 430 = .ok (.iadd, 1) := by decide +kernel
theorem d_law_431 : decode code 431 = .ok (.iaload, 1) := by decide +kernel
theorem d_law_432 : decode code 432 = .ok (.invokevirtual 53, 3) := by decide +kernel
theorem d_law_435 : decode code 435 = .ok (.aload_n 2, 1) := by decide +kernel
theorem d_law_436 : decode code 436 = .ok (.aload_n 0, 1) := by decide +kernel
theorem d_law_437 : decode code 437 = .ok (.iload_n 3, 1) := by decide +kernel
theorem d_law_438 : decode code 438 = .ok (.iconst 1, 1) := by decide +kernel
theorem d_law_439 : decode code 439 = .ok (.iadd, 1) := by decide +kernel
theorem d_law_440 : decode code 440 = .ok (.iaload, 1) := by decide +kernel
theorem d_law_441 : decode code 441 = .ok (.aload_n 0, 1) := by decide +kernel
theorem d_law_442 : decode code 442 = .ok (.iload_n 3, 1) := by decide +kernel
theorem d_law_443 : decode code 443 = .ok (.iconst 2, 1) := by decide +kernel
theorem d_law_444 : decode code 444 = .ok (.iadd, 1) := by decide +kernel
theorem d_law_445 : decode code 445 = .ok (.iaload, 1) := by decide +kernel
theorem d_law_446 : decode code 446 = .ok (.invokevirtual 56, 3) := by decide +kernel
theorem d_law_449 : decode code 449 = .ok (.if_icmp .eq 603, 3) := by decide +kernel
theorem d_law_452 : decode code 452 = .ok (.iconst 0, 1) := by decide +kernel
theorem d_law_453 : decode code 453 = .ok (.ireturn, 1) := by decide +kernel
theorem d_law_454 : decode code 454 = .ok (.aload_n 1, 1) := by decide +kernel
theorem d_law_455 : decode code 455 = .ok (.aload_n 0, 1) := by decide +kernel
theorem d_law_456 : decode code 456 = .ok (.iload_n 3, 1) := by decide +kernel
theorem d_law_457 : decode code 457 = .ok (.iconst 1, 1) := by decide +kernel
theorem d_law_458 : decode code 458 = .ok (.iadd, 1) := by decide +kernel
theorem d_law_459 : decode code 459 = .ok (.iaload, 1) := by decide +kernel
theorem d_law_460 : decode code 460 = .ok (.ifCond .eq 7, 3) := by decide +kernel
theorem d_law_463 : decode code 463 = .ok (.iconst 1, 1) := by decide +kernel
theorem d_law_464 : decode code 464 = .ok (.goto 4, 3) := by decide +kernel
theorem d_law_467 : decode code 467 = .ok (.iconst 0, 1) := by decide +kernel
theorem d_law_468 : decode code 468 = .ok (.invokevirtual 57, 3) := by decide +kernel
theorem d_law_471 : decode code 471 = .ok (.aload_n 2, 1) := by decide +kernel
theorem d_law_472 : decode code 472 = .ok (.aload_n 0, 1) := by decide +kernel
theorem d_law_473 : decode code 473 = .ok (.iload_n 3, 1) := by decide +kernel
theorem d_law_474 : decode code 474 = .ok (.iconst 1, 1) := by decide +kernel
theorem d_law_475 : decode code 475 = .ok (.iadd, 1) := by decide +kernel
theorem d_law_476 : decode code 476 = .ok (.iaload, 1) := by decide +kernel
theorem d_law_477 : decode code 477 = .ok (.ifCond .eq 7, 3) := by decide +kernel
theorem d_law_480 : decode code 480 = .ok (.iconst 1, 1) := by decide +kernel
theorem d_law_481 : decode code 481 = .ok (.goto 4, 3) := by decide +kernel
theorem d_law_484 : decode code 484 = .ok (.iconst 0, 1) := by decide +kernel
theorem d_law_485 : decode code 485 = .ok (.invokevirtual 61, 3) := by decide +kernel
theorem d_law_488 : decode code 488 = .ok (.if_icmp .eq 564, 3) := by decide +kernel
theorem d_law_491 : decode code 491 = .ok (.iconst 0, 1) := by decide +kernel
theorem d_law_492 : decode code 492 = .ok (.ireturn, 1) := by decide +kernel
theorem d_law_493 : decode code 493 = .ok (.aload_n 1, 1) := by decide +kernel
theorem d_law_494 : decode code 494 = .ok (.invokevirtual 62, 3) := by decide +kernel
theorem d_law_497 : decode code 497 = .ok (.aload_n 2, 1) := by decide +kernel
theorem d_law_498 : decode code 498 = .ok (.invokevirtual 65, 3) := by decide +kernel
theorem d_law_501 : decode code 501 = .ok (.if_icmp .eq 551, 3) := by decide +kernel
theorem d_law_504 : decode code 504 = .ok (.iconst 0, 1) := by decide +kernel
theorem d_law_505 : decode code 505 = .ok (.ireturn, 1) := by decide +kernel
theorem d_law_506 : decode code 506 = .ok (.aload_n 1, 1) := by decide +kernel
theorem d_law_507 : decode code 507 = .ok (.aload_n 0, 1) := by decide +kernel
theorem d_law_508 : decode code 508 = .ok (.iload_n 3, 1) := by decide +kernel
theorem d_law_509 : decode code 509 = .ok (.iconst 1, 1) := by decide +kernel
theorem d_law_510 : decode code 510 = .ok (.iadd, 1) := by decide +kernel
theorem d_law_511 : decode code 511 = .ok (.iaload, 1) := by decide +kernel
theorem d_law_512 : decode code 512 = .ok (.aload_n 0, 1) := by decide +kernel
theorem d_law_513 : decode code 513 = .ok (.iload_n 3, 1) := by decide +kernel
theorem d_law_514 : decode code 514 = .ok (.iconst 2, 1) := by decide +kernel
theorem d_law_515 : decode code 515 = .ok (.iadd, 1) := by decide +kernel
theorem d_law_516 : decode code 516 = .ok (.iaload, 1) := by decide +kernel
theorem d_law_517 : decode code 517 = .ok (.invokevirtual 66, 3) := by decide +kernel
theorem d_law_520 : decode code 520 = .ok (.aload_n 2, 1) := by decide +kernel
theorem d_law_521 : decode code 521 = .ok (.aload_n 0, 1) := by decide +kernel
theorem d_law_522 : decode code 522 = .ok (.iload_n 3, 1) := by decide +kernel
theorem d_law_523 : decode code 523 = .ok (.iconst 1, 1) := by decide +kernel
theorem d_law_524 : decode code 524 = .ok (.iadd, 1) := by decide +kernel
theorem d_law_525 : decode code 525 = .ok (.iaload, 1) := by decide +kernel
theorem d_law_526 : decode code 526 = .ok (.aload_n 0, 1) := by decide +kernel
theorem d_law_527 : decode code 527 = .ok (.iload_n 3, 1) := by decide +kernel
theorem d_law_528 : decode code 528 = .ok (.iconst 2, 1) := by decide +kernel
theorem d_law_529 : decode code 529 = .ok (.iadd, 1) := by decide +kernel
theorem d_law_530 : decode code 530 = .ok (.iaload, 1) := by decide +kernel
theorem d_law_531 : decode code 531 = .ok (.invokevirtual 69, 3) := by decide +kernel
theorem d_law_534 : decode code 534 = .ok (.if_icmp .eq 518, 3) := by decide +kernel
theorem d_law_537 : decode code 537 = .ok (.iconst 0, 1) := by decide +kernel
theorem d_law_538 : decode code 538 = .ok (.ireturn, 1) := by decide +kernel
theorem d_law_539 : decode code 539 = .ok (.aload_n 1, 1) := by decide +kernel
theorem d_law_540 : decode code 540 = .ok (.aload_n 0, 1) := by decide +kernel
theorem d_law_541 : decode code 541 = .ok (.iload_n 3, 1) := by decide +kernel
theorem d_law_542 : decode code 542 = .ok (.iconst 1, 1) := by decide +kernel
theorem d_law_543 : decode code 543 = .ok (.iadd, 1) := by decide +kernel
theorem d_law_544 : decode code 544 = .ok (.iaload, 1) := by decide +kernel
theorem d_law_545 : decode code 545 = .ok (.invokevirtual 70, 3) := by decide +kernel
theorem d_law_548 : decode code 548 = .ok (.aload_n 2, 1) := by decide +kernel
theorem d_law_549 : decode code 549 = .ok (.aload_n 0, 1) := by decide +kernel
theorem d_law_550 : decode code 550 = .ok (.iload_n 3, 1) := by decide +kernel
theorem d_law_551 : decode code 551 = .ok (.iconst 1, 1) := by decide +kernel
theorem d_law_552 : decode code 552 = .ok (.iadd, 1) := by decide +kernel
theorem d_law_553 : decode code 553 = .ok (.iaload, 1) := by decide +kernel
theorem d_law_554 : decode code 554 = .ok (.invokevirtual 73, 3) := by decide +kernel
theorem d_law_557 : decode code 557 = .ok (.if_icmp .eq 495, 3) := by decide +kernel
theorem d_law_560 : decode code 560 = .ok (.iconst 0, 1) := by decide +kernel
theorem d_law_561 : decode code 561 = .ok (.ireturn, 1) := by decide +kernel
theorem d_law_562 : decode code 562 = .ok (.aload_n 1, 1) := by decide +kernel
theorem d_law_563 : decode code 563 = .ok (.aload_n 0, 1) := by decide +kernel
theorem d_law_564 : decode code 564 = .ok (.iload_n 3, 1) := by decide +kernel
theorem d_law_565 : decode code 565 = .ok (.iconst 1, 1) := by decide +kernel
theorem d_law_566 : decode code 566 = .ok (.iadd, 1) := by decide +kernel
theorem d_law_567 : decode code 567 = .ok (.iaload, 1) := by decide +kernel
theorem d_law_568 : decode code 568 = .ok (.invokevirtual 74, 3) := by decide +kernel
theorem d_law_571 : decode code 571 = .ok (.aload_n 2, 1) := by decide +kernel
theorem d_law_572 : decode code 572 = .ok (.aload_n 0, 1) := by decide +kernel
theorem d_law_573 : decode code 573 = .ok (.iload_n 3, 1) := by decide +kernel
theorem d_law_574 : decode code 574 = .ok (.iconst 1, 1) := by decide +kernel
theorem d_law_575 : decode code 575 = .ok (.iadd, 1) := by decide +kernel
theorem d_law_576 : decode code 576 = .ok (.iaload, 1) := by decide +kernel
theorem d_law_577 : decode code 577 = .ok (.invokevirtual 77, 3) := by decide +kernel
theorem d_law_580 : decode code 580 = .ok (.if_icmp .eq 472, 3) := by decide +kernel
theorem d_law_583 : decode code 583 = .ok (.iconst 0, 1) := by decide +kernel
theorem d_law_584 : decode code 584 = .ok (.ireturn, 1) := by decide +kernel
theorem d_law_585 : decode code 585 = .ok (.aload_n 1, 1) := by decide +kernel
theorem d_law_586 : decode code 586 = .ok (.aload_n 0, 1) := by decide +kernel
theorem d_law_587 : decode code 587 = .ok (.iload_n 3, 1) := by decide +kernel
theorem d_law_588 : decode code 588 = .ok (.iconst 1, 1) := by decide +kernel
theorem d_law_589 : decode code 589 = .ok (.iadd, 1) := by decide +kernel
theorem d_law_590 : decode code 590 = .ok (.iaload, 1) := by decide +kernel
theorem d_law_591 : decode code 591 = .ok (.aload_n 0, 1) := by decide +kernel
theorem d_law_592 : decode code 592 = .ok (.iload_n 3, 1) := by decide +kernel
theorem d_law_593 : decode code 593 = .ok (.iconst 2, 1) := by decide +kernel
theorem d_law_594 : decode code 594 = .ok (.iadd, 1) := by decide +kernel
theorem d_law_595 : decode code 595 = .ok (.iaload, 1) := by decide +kernel
theorem d_law_596 : decode code 596 = .ok (.invokevirtual 78, 3) := by decide +kernel
theorem d_law_599 : decode code 599 = .ok (.aload_n 2, 1) := by decide +kernel
theorem d_law_600 : decode code 600 = .ok (.aload_n 0, 1) := by decide +kernel
theorem d_law_601 : decode code 601 = .ok (.iload_n 3, 1) := by decide +kernel
theorem d_law_602 : decode code 602 = .ok (.iconst 1, 1) := by decide +kernel
theorem d_law_603 : decode code 603 = .ok (.iadd, 1) := by decide +kernel
theorem d_law_604 : decode code 604 = .ok (.iaload, 1) := by decide +kernel
theorem d_law_605 : decode code 605 = .ok (.aload_n 0, 1) := by decide +kernel
theorem d_law_606 : decode code 606 = .ok (.iload_n 3, 1) := by decide +kernel
theorem d_law_607 : decode code 607 = .ok (.iconst 2, 1) := by decide +kernel
theorem d_law_608 : decode code 608 = .ok (.iadd, 1) := by decide +kernel
theorem d_law_609 : decode code 609 = .ok (.iaload, 1) := by decide +kernel
theorem d_law_610 : decode code 610 = .ok (.invokevirtual 81, 3) := by decide +kernel
theorem d_law_613 : decode code 613 = .ok (.if_icmp .eq 439, 3) := by decide +kernel
theorem d_law_616 : decode code 616 = .ok (.iconst 0, 1) := by decide +kernel
theorem d_law_617 : decode code 617 = .ok (.ireturn, 1) := by decide +kernel
theorem d_law_618 : decode code 618 = .ok (.aload_n 1, 1) := by decide +kernel
theorem d_law_619 : decode code 619 = .ok (.invokevirtual 82, 3) := by decide +kernel
theorem d_law_622 : decode code 622 = .ok (.aload_n 2, 1) := by decide +kernel
theorem d_law_623 : decode code 623 = .ok (.invokevirtual 85, 3) := by decide +kernel
theorem d_law_626 : decode code 626 = .ok (.if_icmp .eq 426, 3) := by decide +kernel
theorem d_law_629 : decode code 629 = .ok (.iconst 0, 1) := by decide +kernel
theorem d_law_630 : decode code 630 = .ok (.ireturn, 1) := by decide +kernel
theorem d_law_631 : decode code 631 = .ok (.aload_n 1, 1) := by decide +kernel
theorem d_law_632 : decode code 632 = .ok (.aload_n 0, 1) := by decide +kernel
theorem d_law_633 : decode code 633 = .ok (.iload_n 3, 1) := by decide +kernel
theorem d_law_634 : decode code 634 = .ok (.iconst 1, 1) := by decide +kernel
theorem d_law_635 : decode code 635 = .ok (.iadd, 1) := by decide +kernel
theorem d_law_636 : decode code 636 = .ok (.iaload, 1) := by decide +kernel
theorem d_law_637 : decode code 637 = .ok (.invokevirtual 86, 3) := by decide +kernel
theorem d_law_640 : decode code 640 = .ok (.aload_n 2, 1) := by decide +kernel
theorem d_law_641 : decode code 641 = .ok (.aload_n 0, 1) := by decide +kernel
theorem d_law_642 : decode code 642 = .ok (.iload_n 3, 1) := by decide +kernel
theorem d_law_643 : decode code 643 = .ok (.iconst 1, 1) := by decide +kernel
theorem d_law_644 : decode code 644 = .ok (.iadd, 1) := by decide +kernel
theorem d_law_645 : decode code 645 = .ok (.iaload, 1) := by decide +kernel
theorem d_law_646 : decode code 646 = .ok (.invokevirtual 89, 3) := by decide +kernel
theorem d_law_649 : decode code 649 = .ok (.if_icmp .eq 403, 3) := by decide +kernel
theorem d_law_652 : decode code 652 = .ok (.iconst 0, 1) := by decide +kernel
theorem d_law_653 : decode code 653 = .ok (.ireturn, 1) := by decide +kernel
theorem d_law_654 : decode code 654 = .ok (.aload_n 1, 1) := by decide +kernel
theorem d_law_655 : decode code 655 = .ok (.invokevirtual 90, 3) := by decide +kernel
theorem d_law_658 : decode code 658 = .ok (.aload_n 2, 1) := by decide +kernel
theorem d_law_659 : decode code 659 = .ok (.invokevirtual 93, 3) := by decide +kernel
theorem d_law_662 : decode code 662 = .ok (.if_icmp .eq 390, 3) := by decide +kernel
theorem d_law_665 : decode code 665 = .ok (.iconst 0, 1) := by decide +kernel
theorem d_law_666 : decode code 666 = .ok (.ireturn, 1) := by decide +kernel
theorem d_law_667 : decode code 667 = .ok (.aload_n 1, 1) := by decide +kernel
theorem d_law_668 : decode code 668 = .ok (.aload_n 0, 1) := by decide +kernel
theorem d_law_669 : decode code 669 = .ok (.iload_n 3, 1) := by decide +kernel
theorem d_law_670 : decode code 670 = .ok (.iconst 1, 1) := by decide +kernel
theorem d_law_671 : decode code 671 = .ok (.iadd, 1) := by decide +kernel
theorem d_law_672 : decode code 672 = .ok (.iaload, 1) := by decide +kernel
theorem d_law_673 : decode code 673 = .ok (.aload_n 0, 1) := by decide +kernel
theorem d_law_674 : decode code 674 = .ok (.iload_n 3, 1) := by decide +kernel
theorem d_law_675 : decode code 675 = .ok (.iconst 2, 1) := by decide +kernel
theorem d_law_676 : decode code 676 = .ok (.iadd, 1) := by decide +kernel
theorem d_law_677 : decode code 677 = .ok (.iaload, 1) := by decide +kernel
theorem d_law_678 : decode code 678 = .ok (.invokevirtual 94, 3) := by decide +kernel
theorem d_law_681 : decode code 681 = .ok (.aload_n 2, 1) := by decide +kernel
theorem d_law_682 : decode code 682 = .ok (.aload_n 0, 1) := by decide +kernel
theorem d_law_683 : decode code 683 = .ok (.iload_n 3, 1) := by decide +kernel
theorem d_law_684 : decode code 684 = .ok (.iconst 1, 1) := by decide +kernel
theorem d_law_685 : decode code 685 = .ok (.iadd, 1) := by decide +kernel
theorem d_law_686 : decode code 686 = .ok (.iaload, 1) := by decide +kernel
theorem d_law_687 : decode code 687 = .ok (.aload_n 0, 1) := by decide +kernel
theorem d_law_688 : decode code 688 = .ok (.iload_n 3, 1) := by decide +kernel
theorem d_law_689 : decode code 689 = .ok (.iconst 2, 1) := by decide +kernel
theorem d_law_690 : decode code 690 = .ok (.iadd, 1) := by decide +kernel
theorem d_law_691 : decode code 691 = .ok (.iaload, 1) := by decide +kernel
theorem d_law_692 : decode code 692 = .ok (.invokevirtual 97, 3) := by decide +kernel
theorem d_law_695 : decode code 695 = .ok (.if_icmp .eq 357, 3) := by decide +kernel
theorem d_law_698 : decode code 698 = .ok (.iconst 0, 1) := by decide +kernel
theorem d_law_699 : decode code 699 = .ok (.ireturn, 1) := by decide +kernel
theorem d_law_700 : decode code 700 = .ok (.aload_n 1, 1) := by decide +kernel
theorem d_law_701 : decode code 701 = .ok (.invokevirtual 98, 3) := by decide +kernel
theorem d_law_704 : decode code 704 = .ok (.aload_n 2, 1) := by decide +kernel
theorem d_law_705 : decode code 705 = .ok (.invokevirtual 101, 3) := by decide +kernel
theorem d_law_708 : decode code 708 = .ok (.if_icmp .eq 344, 3) := by decide +kernel
theorem d_law_711 : decode code 711 = .ok (.iconst 0, 1) := by decide +kernel
theorem d_law_712 : decode code 712 = .ok (.ireturn, 1) := by decide +kernel
theorem d_law_713 : decode code 713 = .ok (.aload_n 1, 1) := by decide +kernel
theorem d_law_714 : decode code 714 = .ok (.aload_n 0, 1) := by decide +kernel
theorem d_law_715 : decode code 715 = .ok (.iload_n 3, 1) := by decide +kernel
theorem d_law_716 : decode code 716 = .ok (.iconst 1, 1) := by decide +kernel
theorem d_law_717 : decode code 717 = .ok (.iadd, 1) := by decide +kernel
theorem d_law_718 : decode code 718 = .ok (.iaload, 1) := by decide +kernel
theorem d_law_719 : decode code 719 = .ok (.aload_n 0, 1) := by decide +kernel
theorem d_law_720 : decode code 720 = .ok (.iload_n 3, 1) := by decide +kernel
theorem d_law_721 : decode code 721 = .ok (.iconst 2, 1) := by decide +kernel
theorem d_law_722 : decode code 722 = .ok (.iadd, 1) := by decide +kernel
theorem d_law_723 : decode code 723 = .ok (.iaload, 1) := by decide +kernel
theorem d_law_724 : decode code 724 = .ok (.invokevirtual 102, 3) := by decide +kernel
theorem d_law_727 : decode code 727 = .ok (.aload_n 2, 1) := by decide +kernel
theorem d_law_728 : decode code 728 = .ok (.aload_n 0, 1) := by decide +kernel
theorem d_law_729 : decode code 729 = .ok (.iload_n 3, 1) := by decide +kernel
theorem d_law_730 : decode code 730 = .ok (.iconst 1, 1) := by decide +kernel
theorem d_law_731 : decode code 731 = .ok (.iadd, 1) := by decide +kernel
theorem d_law_732 : decode code 732 = .ok (.iaload, 1) := by decide +kernel
theorem d_law_733 : decode code 733 = .ok (.aload_n 0, 1) := by decide +kernel
theorem d_law_734 : decode code 734 = .ok (.iload_n 3, 1) := by decide +kernel
theorem d_law_735 : decode code 735 = .ok (.iconst 2, 1) := by decide +kernel
theorem d_law_736 : decode code 736 = .ok (.iadd, 1) := by decide +kernel
theorem d_law_737 : decode code 737 = .ok (.iaload, 1) := by decide +kernel
theorem d_law_738 : decode code 738 = .ok (.invokevirtual 105, 3) := by decide +kernel
theorem d_law_741 : decode code 741 = .ok (.if_icmp .eq 311, 3) := by decide +kernel
theorem d_law_744 : decode code 744 = .ok (.iconst 0, 1) := by decide +kernel
theorem d_law_745 : decode code 745 = .ok (.ireturn, 1) := by decide +kernel
theorem d_law_746 : decode code 746 = .ok (.aload_n 1, 1) := by decide +kernel
theorem d_law_747 : decode code 747 = .ok (.aload_n 0, 1) := by decide +kernel
theorem d_law_748 : decode code 748 = .ok (.iload_n 3, 1) := by decide +kernel
theorem d_law_749 : decode code 749 = .ok (.iconst 1, 1) := by decide +kernel
theorem d_law_750 : decode code 750 = .ok (.iadd, 1) := by decide +kernel
theorem d_law_751 : decode code 751 = .ok (.iaload, 1) := by decide +kernel
theorem d_law_752 : decode code 752 = .ok (.invokevirtual 106, 3) := by decide +kernel
theorem d_law_755 : decode code 755 = .ok (.aload_n 2, 1) := by decide +kernel
theorem d_law_756 : decode code 756 = .ok (.aload_n 0, 1) := by decide +kernel
theorem d_law_757 : decode code 757 = .ok (.iload_n 3, 1) := by decide +kernel
theorem d_law_758 : decode code 758 = .ok (.iconst 1, 1) := by decide +kernel
theorem d_law_759 : decode code 759 = .ok (.iadd, 1) := by decide +kernel
theorem d_law_760 : decode code 760 = .ok (.iaload, 1) := by decide +kernel
theorem d_law_761 : decode code 761 = .ok (.invokevirtual 109, 3) := by decide +kernel
theorem d_law_764 : decode code 764 = .ok (.if_icmp .eq 288, 3) := by decide +kernel
theorem d_law_767 : decode code 767 = .ok (.iconst 0, 1) := by decide +kernel
theorem d_law_768 : decode code 768 = .ok (.ireturn, 1) := by decide +kernel
theorem d_law_769 : decode code 769 = .ok (.aload_n 1, 1) := by decide +kernel
theorem d_law_770 : decode code 770 = .ok (.invokevirtual 110, 3) := by decide +kernel
theorem d_law_773 : decode code 773 = .ok (.aload_n 2, 1) := by decide +kernel
theorem d_law_774 : decode code 774 = .ok (.invokevirtual 113, 3) := by decide +kernel
theorem d_law_777 : decode code 777 = .ok (.if_icmp .eq 275, 3) := by decide +kernel
theorem d_law_780 : decode code 780 = .ok (.iconst 0, 1) := by decide +kernel
theorem d_law_781 : decode code 781 = .ok (.ireturn, 1) := by decide +kernel
theorem d_law_782 : decode code 782 = .ok (.aload_n 1, 1) := by decide +kernel
theorem d_law_783 : decode code 783 = .ok (.aload_n 0, 1) := by decide +kernel
theorem d_law_784 : decode code 784 = .ok (.iload_n 3, 1) := by decide +kernel
theorem d_law_785 : decode code 785 = .ok (.iconst 1, 1) := by decide +kernel
theorem d_law_786 : decode code 786 = .ok (.iadd, 1) := by decide +kernel
theorem d_law_787 : decode code 787 = .ok (.iaload, 1) := by decide +kernel
theorem d_law_788 : decode code 788 = .ok (.aload_n 0, 1) := by decide +kernel
theorem d_law_789 : decode code 789 = .ok (.iload_n 3, 1) := by decide +kernel
theorem d_law_790 : decode code 790 = .ok (.iconst 2, 1) := by decide +kernel
theorem d_law_791 : decode code 791 = .ok (.iadd, 1) := by decide +kernel
theorem d_law_792 : decode code 792 = .ok (.iaload, 1) := by decide +kernel
theorem d_law_793 : decode code 793 = .ok (.invokevirtual 114, 3) := by decide +kernel
theorem d_law_796 : decode code 796 = .ok (.aload_n 2, 1) := by decide +kernel
theorem d_law_797 : decode code 797 = .ok (.aload_n 0, 1) := by decide +kernel
theorem d_law_798 : decode code 798 = .ok (.iload_n 3, 1) := by decide +kernel
theorem d_law_799 : decode code 799 = .ok (.iconst 1, 1) := by decide +kernel
theorem d_law_800 : decode code 800 = .ok (.iadd, 1) := by decide +kernel
theorem d_law_801 : decode code 801 = .ok (.iaload, 1) := by decide +kernel
theorem d_law_802 : decode code 802 = .ok (.aload_n 0, 1) := by decide +kernel
theorem d_law_803 : decode code 803 = .ok (.iload_n 3, 1) := by decide +kernel
theorem d_law_804 : decode code 804 = .ok (.iconst 2, 1) := by decide +kernel
theorem d_law_805 : decode code 805 = .ok (.iadd, 1) := by decide +kernel
theorem d_law_806 : decode code 806 = .ok (.iaload, 1) := by decide +kernel
theorem d_law_807 : decode code 807 = .ok (.invokevirtual 117, 3) := by decide +kernel
theorem d_law_810 : decode code 810 = .ok (.if_icmp .eq 242, 3) := by decide +kernel
theorem d_law_813 : decode code 813 = .ok (.iconst 0, 1) := by decide +kernel
theorem d_law_814 : decode code 814 = .ok (.ireturn, 1) := by decide +kernel
theorem d_law_815 : decode code 815 = .ok (.aload_n 1, 1) := by decide +kernel
theorem d_law_816 : decode code 816 = .ok (.invokevirtual 118, 3) := by decide +kernel
theorem d_law_819 : decode code 819 = .ok (.aload_n 2, 1) := by decide +kernel
theorem d_law_820 : decode code 820 = .ok (.invokevirtual 121, 3) := by decide +kernel
theorem d_law_823 : decode code 823 = .ok (.if_icmp .eq 229, 3) := by decide +kernel
theorem d_law_826 : decode code 826 = .ok (.iconst 0, 1) := by decide +kernel
theorem d_law_827 : decode code 827 = .ok (.ireturn, 1) := by decide +kernel
theorem d_law_828 : decode code 828 = .ok (.aload_n 1, 1) := by decide +kernel
theorem d_law_829 : decode code 829 = .ok (.aload_n 0, 1) := by decide +kernel
theorem d_law_830 : decode code 830 = .ok (.iload_n 3, 1) := by decide +kernel
theorem d_law_831 : decode code 831 = .ok (.iconst 1, 1) := by decide +kernel
theorem d_law_832 : decode code 832 = .ok (.iadd, 1) := by decide +kernel
theorem d_law_833 : decode code 833 = .ok (.iaload, 1) := by decide +kernel
theorem d_law_834 : decode code 834 = .ok (.invokevirtual 122, 3) := by decide +kernel
theorem d_law_837 : decode code 837 = .ok (.aload_n 2, 1) := by decide +kernel
theorem d_law_838 : decode code 838 = .ok (.aload_n 0, 1) := by decide +kernel
theorem d_law_839 : decode code 839 = .ok (.iload_n 3, 1) := by decide +kernel
theorem d_law_840 : decode code 840 = .ok (.iconst 1, 1) := by decide +kernel
theorem d_law_841 : decode code 841 = .ok (.iadd, 1) := by decide +kernel
theorem d_law_842 : decode code 842 = .ok (.iaload, 1) := by decide +kernel
theorem d_law_843 : decode code 843 = .ok (.invokevirtual 125, 3) := by decide +kernel
theorem d_law_846 : decode code 846 = .ok (.if_icmp .eq 206, 3) := by decide +kernel
theorem d_law_849 : decode code 849 = .ok (.iconst 0, 1) := by decide +kernel
theorem d_law_850 : decode code 850 = .ok (.ireturn, 1) := by decide +kernel
theorem d_law_851 : decode code 851 = .ok (.aload_n 1, 1) := by decide +kernel
theorem d_law_852 : decode code 852 = .ok (.aload_n 0, 1) := by decide +kernel
theorem d_law_853 : decode code 853 = .ok (.iload_n 3, 1) := by decide +kernel
theorem d_law_854 : decode code 854 = .ok (.iconst 1, 1) := by decide +kernel
theorem d_law_855 : decode code 855 = .ok (.iadd, 1) := by decide +kernel
theorem d_law_856 : decode code 856 = .ok (.iaload, 1) := by decide +kernel
theorem d_law_857 : decode code 857 = .ok (.invokevirtual 126, 3) := by decide +kernel
theorem d_law_860 : decode code 860 = .ok (.aload_n 2, 1) := by decide +kernel
theorem d_law_861 : decode code 861 = .ok (.aload_n 0, 1) := by decide +kernel
theorem d_law_862 : decode code 862 = .ok (.iload_n 3, 1) := by decide +kernel
theorem d_law_863 : decode code 863 = .ok (.iconst 1, 1) := by decide +kernel
theorem d_law_864 : decode code 864 = .ok (.iadd, 1) := by decide +kernel
theorem d_law_865 : decode code 865 = .ok (.iaload, 1) := by decide +kernel
theorem d_law_866 : decode code 866 = .ok (.invokevirtual 129, 3) := by decide +kernel
theorem d_law_869 : decode code 869 = .ok (.if_icmp .eq 183, 3) := by decide +kernel
theorem d_law_872 : decode code 872 = .ok (.iconst 0, 1) := by decide +kernel
theorem d_law_873 : decode code 873 = .ok (.ireturn, 1) := by decide +kernel
theorem d_law_874 : decode code 874 = .ok (.aload_n 1, 1) := by decide +kernel
theorem d_law_875 : decode code 875 = .ok (.aload_n 0, 1) := by decide +kernel
theorem d_law_876 : decode code 876 = .ok (.iload_n 3, 1) := by decide +kernel
theorem d_law_877 : decode code 877 = .ok (.iconst 1, 1) := by decide +kernel
theorem d_law_878 : decode code 878 = .ok (.iadd, 1) := by decide +kernel
theorem d_law_879 : decode code 879 = .ok (.iaload, 1) := by decide +kernel
theorem d_law_880 : decode code 880 = .ok (.aload_n 0, 1) := by decide +kernel
theorem d_law_881 : decode code 881 = .ok (.iload_n 3, 1) := by decide +kernel
theorem d_law_882 : decode code 882 = .ok (.iconst 2, 1) := by decide +kernel
theorem d_law_883 : decode code 883 = .ok (.iadd, 1) := by decide +kernel
theorem d_law_884 : decode code 884 = .ok (.iaload, 1) := by decide +kernel
theorem d_law_885 : decode code 885 = .ok (.invokevirtual 130, 3) := by decide +kernel
theorem d_law_888 : decode code 888 = .ok (.aload_n 2, 1) := by decide +kernel
theorem d_law_889 : decode code 889 = .ok (.aload_n 0, 1) := by decide +kernel
theorem d_law_890 : decode code 890 = .ok (.iload_n 3, 1) := by decide +kernel
theorem d_law_891 : decode code 891 = .ok (.iconst 1, 1) := by decide +kernel
theorem d_law_892 : decode code 892 = .ok (.iadd, 1) := by decide +kernel
theorem d_law_893 : decode code 893 = .ok (.iaload, 1) := by decide +kernel
theorem d_law_894 : decode code 894 = .ok (.aload_n 0, 1) := by decide +kernel
theorem d_law_895 : decode code 895 = .ok (.iload_n 3, 1) := by decide +kernel
theorem d_law_896 : decode code 896 = .ok (.iconst 2, 1) := by decide +kernel
theorem d_law_897 : decode code 897 = .ok (.iadd, 1) := by decide +kernel
theorem d_law_898 : decode code 898 = .ok (.iaload, 1) := by decide +kernel
theorem d_law_899 : decode code 899 = .ok (.invokevirtual 133, 3) := by decide +kernel
theorem d_law_902 : decode code 902 = .ok (.if_icmp .eq 150, 3) := by decide +kernel
theorem d_law_905 : decode code 905 = .ok (.iconst 0, 1) := by decide +kernel
theorem d_law_906 : decode code 906 = .ok (.ireturn, 1) := by decide +kernel
theorem d_law_907 : decode code 907 = .ok (.aload_n 1, 1) := by decide +kernel
theorem d_law_908 : decode code 908 = .ok (.invokevirtual 134, 3) := by decide +kernel
theorem d_law_911 : decode code 911 = .ok (.aload_n 2, 1) := by decide +kernel
theorem d_law_912 : decode code 912 = .ok (.invokevirtual 137, 3) := by decide +kernel
theorem d_law_915 : decode code 915 = .ok (.if_icmp .eq 137, 3) := by decide +kernel
theorem d_law_918 : decode code 918 = .ok (.iconst 0, 1) := by decide +kernel
theorem d_law_919 : decode code 919 = .ok (.ireturn, 1) := by decide +kernel
theorem d_law_920 : decode code 920 = .ok (.aload_n 1, 1) := by decide +kernel
theorem d_law_921 : decode code 921 = .ok (.invokevirtual 138, 3) := by decide +kernel
theorem d_law_924 : decode code 924 = .ok (.aload_n 2, 1) := by decide +kernel
theorem d_law_925 : decode code 925 = .ok (.invokevirtual 141, 3) := by decide +kernel
theorem d_law_928 : decode code 928 = .ok (.if_icmp .eq 124, 3) := by decide +kernel
theorem d_law_931 : decode code 931 = .ok (.iconst 0, 1) := by decide +kernel
theorem d_law_932 : decode code 932 = .ok (.ireturn, 1) := by decide +kernel
theorem d_law_933 : decode code 933 = .ok (.aload_n 1, 1) := by decide +kernel
theorem d_law_934 : decode code 934 = .ok (.aload_n 0, 1) := by decide +kernel
theorem d_law_935 : decode code 935 = .ok (.iload_n 3, 1) := by decide +kernel
theorem d_law_936 : decode code 936 = .ok (.iconst 1, 1) := by decide +kernel
theorem d_law_937 : decode code 937 = .ok (.iadd, 1) := by decide +kernel
theorem d_law_938 : decode code 938 = .ok (.iaload, 1) := by decide +kernel
theorem d_law_939 : decode code 939 = .ok (.aload_n 0, 1) := by decide +kernel
theorem d_law_940 : decode code 940 = .ok (.iload_n 3, 1) := by decide +kernel
theorem d_law_941 : decode code 941 = .ok (.iconst 2, 1) := by decide +kernel
theorem d_law_942 : decode code 942 = .ok (.iadd, 1) := by decide +kernel
theorem d_law_943 : decode code 943 = .ok (.iaload, 1) := by decide +kernel
theorem d_law_944 : decode code 944 = .ok (.aload_n 0, 1) := by decide +kernel
theorem d_law_945 : decode code 945 = .ok (.iload_n 3, 1) := by decide +kernel
theorem d_law_946 : decode code 946 = .ok (.iconst 3, 1) := by decide +kernel
theorem d_law_947 : decode code 947 = .ok (.iadd, 1) := by decide +kernel
theorem d_law_948 : decode code 948 = .ok (.iaload, 1) := by decide +kernel
theorem d_law_949 : decode code 949 = .ok (.invokevirtual 142, 3) := by decide +kernel
theorem d_law_952 : decode code 952 = .ok (.aload_n 2, 1) := by decide +kernel
theorem d_law_953 : decode code 953 = .ok (.aload_n 0, 1) := by decide +kernel
theorem d_law_954 : decode code 954 = .ok (.iload_n 3, 1) := by decide +kernel
theorem d_law_955 : decode code 955 = .ok (.iconst 1, 1) := by decide +kernel
theorem d_law_956 : decode code 956 = .ok (.iadd, 1) := by decide +kernel
theorem d_law_957 : decode code 957 = .ok (.iaload, 1) := by decide +kernel
theorem d_law_958 : decode code 958 = .ok (.aload_n 0, 1) := by decide +kernel
theorem d_law_959 : decode code 959 = .ok (.iload_n 3, 1) := by decide +kernel
theorem d_law_960 : decode code 960 = .ok (.iconst 2, 1) := by decide +kernel
theorem d_law_961 : decode code 961 = .ok (.iadd, 1) := by decide +kernel
theorem d_law_962 : decode code 962 = .ok (.iaload, 1) := by decide +kernel
theorem d_law_963 : decode code 963 = .ok (.aload_n 0, 1) := by decide +kernel
theorem d_law_964 : decode code 964 = .ok (.iload_n 3, 1) := by decide +kernel
theorem d_law_965 : decode code 965 = .ok (.iconst 3, 1) := by decide +kernel
theorem d_law_966 : decode code 966 = .ok (.iadd, 1) := by decide +kernel
theorem d_law_967 : decode code 967 = .ok (.iaload, 1) := by decide +kernel
theorem d_law_968 : decode code 968 = .ok (.invokevirtual 146, 3) := by decide +kernel
theorem d_law_971 : decode code 971 = .ok (.if_icmp .eq 81, 3) := by decide +kernel
theorem d_law_974 : decode code 974 = .ok (.iconst 0, 1) := by decide +kernel
theorem d_law_975 : decode code 975 = .ok (.ireturn, 1) := by decide +kernel
theorem d_law_976 : decode code 976 = .ok (.aload_n 1, 1) := by decide +kernel
theorem d_law_977 : decode code 977 = .ok (.aload_n 0, 1) := by decide +kernel
theorem d_law_978 : decode code 978 = .ok (.iload_n 3, 1) := by decide +kernel
theorem d_law_979 : decode code 979 = .ok (.iconst 1, 1) := by decide +kernel
theorem d_law_980 : decode code 980 = .ok (.iadd, 1) := by decide +kernel
theorem d_law_981 : decode code 981 = .ok (.iaload, 1) := by decide +kernel
theorem d_law_982 : decode code 982 = .ok (.aload_n 0, 1) := by decide +kernel
theorem d_law_983 : decode code 983 = .ok (.iload_n 3, 1) := by decide +kernel
theorem d_law_984 : decode code 984 = .ok (.iconst 2, 1) := by decide +kernel
theorem d_law_985 : decode code 985 = .ok (.iadd, 1) := by decide +kernel
theorem d_law_986 : decode code 986 = .ok (.iaload, 1) := by decide +kernel
theorem d_law_987 : decode code 987 = .ok (.aload_n 0, 1) := by decide +kernel
theorem d_law_988 : decode code 988 = .ok (.iload_n 3, 1) := by decide +kernel
theorem d_law_989 : decode code 989 = .ok (.iconst 3, 1) := by decide +kernel
theorem d_law_990 : decode code 990 = .ok (.iadd, 1) := by decide +kernel
theorem d_law_991 : decode code 991 = .ok (.iaload, 1) := by decide +kernel
theorem d_law_992 : decode code 992 = .ok (.aload_n 0, 1) := by decide +kernel
theorem d_law_993 : decode code 993 = .ok (.iload_n 3, 1) := by decide +kernel
theorem d_law_994 : decode code 994 = .ok (.iconst 4, 1) := by decide +kernel
theorem d_law_995 : decode code 995 = .ok (.iadd, 1) := by decide +kernel
theorem d_law_996 : decode code 996 = .ok (.iaload, 1) := by decide +kernel
theorem d_law_997 : decode code 997 = .ok (.invokevirtual 147, 3) := by decide +kernel
theorem d_law_1000 : decode code 1000 = .ok (.aload_n 2, 1) := by decide +kernel
theorem d_law_1001 : decode code 1001 = .ok (.aload_n 0, 1) := by decide +kernel
theorem d_law_1002 : decode code 1002 = .ok (.iload_n 3, 1) := by decide +kernel
theorem d_law_1003 : decode code 1003 = .ok (.iconst 1, 1) := by decide +kernel
theorem d_law_1004 : decode code 1004 = .ok (.iadd, 1) := by decide +kernel
theorem d_law_1005 : decode code 1005 = .ok (.iaload, 1) := by decide +kernel
theorem d_law_1006 : decode code 1006 = .ok (.aload_n 0, 1) := by decide +kernel
theorem d_law_1007 : decode code 1007 = .ok (.iload_n 3, 1) := by decide +kernel
theorem d_law_1008 : decode code 1008 = .ok (.iconst 2, 1) := by decide +kernel
theorem d_law_1009 : decode code 1009 = .ok (.iadd, 1) := by decide +kernel
theorem d_law_1010 : decode code 1010 = .ok (.iaload, 1) := by decide +kernel
theorem d_law_1011 : decode code 1011 = .ok (.aload_n 0, 1) := by decide +kernel
theorem d_law_1012 : decode code 1012 = .ok (.iload_n 3, 1) := by decide +kernel
theorem d_law_1013 : decode code 1013 = .ok (.iconst 3, 1) := by decide +kernel
theorem d_law_1014 : decode code 1014 = .ok (.iadd, 1) := by decide +kernel
theorem d_law_1015 : decode code 1015 = .ok (.iaload, 1) := by decide +kernel
theorem d_law_1016 : decode code 1016 = .ok (.aload_n 0, 1) := by decide +kernel
theorem d_law_1017 : decode code 1017 = .ok (.iload_n 3, 1) := by decide +kernel
theorem d_law_1018 : decode code 1018 = .ok (.iconst 4, 1) := by decide +kernel
theorem d_law_1019 : decode code 1019 = .ok (.iadd, 1) := by decide +kernel
theorem d_law_1020 : decode code 1020 = .ok (.iaload, 1) := by decide +kernel
theorem d_law_1021 : decode code 1021 = .ok (.invokevirtual 151, 3) := by decide +kernel
theorem d_law_1024 : decode code 1024 = .ok (.if_icmp .eq 28, 3) := by decide +kernel
theorem d_law_1027 : decode code 1027 = .ok (.iconst 0, 1) := by decide +kernel
theorem d_law_1028 : decode code 1028 = .ok (.ireturn, 1) := by decide +kernel
theorem d_law_1029 : decode code 1029 = .ok (.aload_n 1, 1) := by decide +kernel
theorem d_law_1030 : decode code 1030 = .ok (.aload_n 0, 1) := by decide +kernel
theorem d_law_1031 : decode code 1031 = .ok (.iload_n 3, 1) := by decide +kernel
theorem d_law_1032 : decode code 1032 = .ok (.iconst 1, 1) := by decide +kernel
theorem d_law_1033 : decode code 1033 = .ok (.iadd, 1) := by decide +kernel
theorem d_law_1034 : decode code 1034 = .ok (.iaload, 1) := by decide +kernel
theorem d_law_1035 : decode code 1035 = .ok (.invokevirtual 152, 3) := by decide +kernel
theorem d_law_1038 : decode code 1038 = .ok (.aload_n 2, 1) := by decide +kernel
theorem d_law_1039 : decode code 1039 = .ok (.aload_n 0, 1) := by decide +kernel
theorem d_law_1040 : decode code 1040 = .ok (.iload_n 3, 1) := by decide +kernel
theorem d_law_1041 : decode code 1041 = .ok (.iconst 1, 1) := by decide +kernel
theorem d_law_1042 : decode code 1042 = .ok (.iadd, 1) := by decide +kernel
theorem d_law_1043 : decode code 1043 = .ok (.iaload, 1) := by decide +kernel
theorem d_law_1044 : decode code 1044 = .ok (.invokevirtual 155, 3) := by decide +kernel
theorem d_law_1047 : decode code 1047 = .ok (.if_icmp .eq 5, 3) := by decide +kernel
theorem d_law_1050 : decode code 1050 = .ok (.iconst 0, 1) := by decide +kernel
theorem d_law_1051 : decode code 1051 = .ok (.ireturn, 1) := by decide +kernel
theorem d_law_1052 : decode code 1052 = .ok (.iinc 3 6, 3) := by decide +kernel
theorem d_law_1055 : decode code 1055 = .ok (.goto (-1037), 3) := by decide +kernel
theorem d_law_1058 : decode code 1058 = .ok (.iconst 1, 1) := by decide +kernel
theorem d_law_1059 : decode code 1059 = .ok (.ireturn, 1) := by decide +kernel
set_option maxRecDepth 20000 in
theorem kx_law_7 : Cond.classLink R_law 7 RX11 ∈ lw_g := lw_c1 21 rfl rfl
set_option maxRecDepth 20000 in
theorem ml_law_9 : Cond.methodLink R_law 9 yX11_init ∈ lw_g := lw_c1 23 rfl rfl
set_option maxRecDepth 20000 in
theorem ml_law_13 : Cond.methodLink R_law 13 yX11_feed ∈ lw_g := lw_c3 79 rfl rfl
set_option maxRecDepth 20000 in
theorem ml_law_18 : Cond.methodLink R_law 18 yX11_end ∈ lw_g := lw_c3 87 rfl rfl
set_option maxRecDepth 20000 in
theorem ml_law_23 : Cond.methodLink R_law 23 yX11_list ∈ lw_g := lw_c3 91 rfl rfl
set_option maxRecDepth 20000 in
theorem ml_law_28 : Cond.methodLink R_law 28 yX11_fault ∈ lw_g := lw_c4 38 rfl rfl
set_option maxRecDepth 20000 in
theorem ml_law_32 : Cond.methodLink R_law 32 yX11_rule ∈ lw_g := lw_c4 42 rfl rfl
set_option maxRecDepth 20000 in
theorem ml_law_36 : Cond.methodLink R_law 36 yX11_sign ∈ lw_g := lw_c4 46 rfl rfl
set_option maxRecDepth 20000 in
theorem ml_law_41 : Cond.methodLink R_law 41 yX11_named ∈ lw_g := lw_c4 60 rfl rfl
set_option maxRecDepth 20000 in
theorem ml_law_45 : Cond.methodLink R_law 45 yX11_blocks ∈ lw_g := lw_c4 66 rfl rfl
set_option maxRecDepth 20000 in
theorem ml_law_49 : Cond.methodLink R_law 49 yX11_block ∈ lw_g := lw_c4 172 rfl rfl
set_option maxRecDepth 20000 in
theorem ml_law_53 : Cond.methodLink R_law 53 yX11_box ∈ lw_g := lw_c4 195 rfl rfl
set_option maxRecDepth 20000 in
theorem ml_law_57 : Cond.methodLink R_law 57 yX11_face ∈ lw_g := lw_c4 222 rfl rfl
set_option maxRecDepth 20000 in
theorem ml_law_62 : Cond.methodLink R_law 62 yX11_term ∈ lw_g := lw_c4 226 rfl rfl
set_option maxRecDepth 20000 in
theorem ml_law_66 : Cond.methodLink R_law 66 yX11_about ∈ lw_g := lw_c5 4 rfl rfl
set_option maxRecDepth 20000 in
theorem ml_law_70 : Cond.methodLink R_law 70 yX11_spellings ∈ lw_g := lw_c5 12 rfl rfl
set_option maxRecDepth 20000 in
theorem ml_law_74 : Cond.methodLink R_law 74 yX11_best ∈ lw_g := lw_c5 79 rfl rfl
set_option maxRecDepth 20000 in
theorem ml_law_78 : Cond.methodLink R_law 78 yX11_bestSign ∈ lw_g := lw_c5 120 rfl rfl
set_option maxRecDepth 20000 in
theorem ml_law_82 : Cond.methodLink R_law 82 yX11_write ∈ lw_g := lw_c5 132 rfl rfl
set_option maxRecDepth 20000 in
theorem ml_law_86 : Cond.methodLink R_law 86 yX11_written ∈ lw_g := lw_c5 147 rfl rfl
set_option maxRecDepth 20000 in
theorem ml_law_90 : Cond.methodLink R_law 90 yX11_ways ∈ lw_g := lw_c5 151 rfl rfl
set_option maxRecDepth 20000 in
theorem ml_law_94 : Cond.methodLink R_law 94 yX11_waysOn ∈ lw_g := lw_c5 181 rfl rfl
set_option maxRecDepth 20000 in
theorem ml_law_98 : Cond.methodLink R_law 98 yX11_read ∈ lw_g := lw_c5 197 rfl rfl
set_option maxRecDepth 20000 in
theorem ml_law_102 : Cond.methodLink R_law 102 yX11_readTerm ∈ lw_g := lw_c5 226 rfl rfl
set_option maxRecDepth 20000 in
theorem ml_law_106 : Cond.methodLink R_law 106 yX11_spells ∈ lw_g := lw_c5 230 rfl rfl
set_option maxRecDepth 20000 in
theorem ml_law_110 : Cond.methodLink R_law 110 yX11_group ∈ lw_g := lw_c5 238 rfl rfl
set_option maxRecDepth 20000 in
theorem ml_law_114 : Cond.methodLink R_law 114 yX11_grouped ∈ lw_g := lw_c6 27 rfl rfl
set_option maxRecDepth 20000 in
theorem ml_law_118 : Cond.methodLink R_law 118 yX11_clear ∈ lw_g := lw_c6 31 rfl rfl
set_option maxRecDepth 20000 in
theorem ml_law_122 : Cond.methodLink R_law 122 yX11_say ∈ lw_g := lw_c6 35 rfl rfl
set_option maxRecDepth 20000 in
theorem ml_law_126 : Cond.methodLink R_law 126 yX11_fill ∈ lw_g := lw_c6 44 rfl rfl
set_option maxRecDepth 20000 in
theorem ml_law_130 : Cond.methodLink R_law 130 yX11_filled ∈ lw_g := lw_c6 119 rfl rfl
set_option maxRecDepth 20000 in
theorem ml_law_134 : Cond.methodLink R_law 134 yX11_fills ∈ lw_g := lw_c6 124 rfl rfl
set_option maxRecDepth 20000 in
theorem ml_law_138 : Cond.methodLink R_law 138 yX11_judge ∈ lw_g := lw_c6 132 rfl rfl
set_option maxRecDepth 20000 in
theorem ml_law_142 : Cond.methodLink R_law 142 yX11_value ∈ lw_g := lw_c6 151 rfl rfl
set_option maxRecDepth 20000 in
theorem ml_law_147 : Cond.methodLink R_law 147 yX11_valueOn ∈ lw_g := lw_c6 164 rfl rfl
set_option maxRecDepth 20000 in
theorem ml_law_152 : Cond.methodLink R_law 152 yX11_count ∈ lw_g := lw_c6 169 rfl rfl
set_option maxRecDepth 20000 in
theorem kx_law_10 : Cond.classLink R_law 10 RX12 ∈ lw_g := lw_c6 173 rfl rfl
set_option maxRecDepth 20000 in
theorem ml_law_12 : Cond.methodLink R_law 12 yX12_init ∈ lw_g := lw_c6 175 rfl rfl
set_option maxRecDepth 20000 in
theorem ml_law_17 : Cond.methodLink R_law 17 yX12_feed ∈ lw_g := lw_c8 17 rfl rfl
set_option maxRecDepth 20000 in
theorem ml_law_22 : Cond.methodLink R_law 22 yX12_end ∈ lw_g := lw_c8 21 rfl rfl
set_option maxRecDepth 20000 in
theorem ml_law_31 : Cond.methodLink R_law 31 yX12_fault ∈ lw_g := lw_c8 25 rfl rfl
set_option maxRecDepth 20000 in
theorem ml_law_27 : Cond.methodLink R_law 27 yX12_list ∈ lw_g := lw_c8 29 rfl rfl
set_option maxRecDepth 20000 in
theorem ml_law_35 : Cond.methodLink R_law 35 yX12_rule ∈ lw_g := lw_c8 87 rfl rfl
set_option maxRecDepth 20000 in
theorem ml_law_40 : Cond.methodLink R_law 40 yX12_sign ∈ lw_g := lw_c8 91 rfl rfl
set_option maxRecDepth 20000 in
theorem ml_law_44 : Cond.methodLink R_law 44 yX12_named ∈ lw_g := lw_c8 95 rfl rfl
set_option maxRecDepth 20000 in
theorem ml_law_48 : Cond.methodLink R_law 48 yX12_blocks ∈ lw_g := lw_c8 99 rfl rfl
set_option maxRecDepth 20000 in
theorem ml_law_52 : Cond.methodLink R_law 52 yX12_block ∈ lw_g := lw_c8 142 rfl rfl
set_option maxRecDepth 20000 in
theorem ml_law_56 : Cond.methodLink R_law 56 yX12_box ∈ lw_g := lw_c8 158 rfl rfl
set_option maxRecDepth 20000 in
theorem ml_law_61 : Cond.methodLink R_law 61 yX12_face ∈ lw_g := lw_c8 162 rfl rfl
set_option maxRecDepth 20000 in
theorem ml_law_65 : Cond.methodLink R_law 65 yX12_term ∈ lw_g := lw_c8 166 rfl rfl
set_option maxRecDepth 20000 in
theorem ml_law_69 : Cond.methodLink R_law 69 yX12_about ∈ lw_g := lw_c8 170 rfl rfl
set_option maxRecDepth 20000 in
theorem ml_law_73 : Cond.methodLink R_law 73 yX12_spellings ∈ lw_g := lw_c8 178 rfl rfl
set_option maxRecDepth 20000 in
theorem ml_law_77 : Cond.methodLink R_law 77 yX12_best ∈ lw_g := lw_c9 17 rfl rfl
set_option maxRecDepth 20000 in
theorem ml_law_81 : Cond.methodLink R_law 81 yX12_bestSign ∈ lw_g := lw_c9 25 rfl rfl
set_option maxRecDepth 20000 in
theorem ml_law_85 : Cond.methodLink R_law 85 yX12_write ∈ lw_g := lw_c9 29 rfl rfl
set_option maxRecDepth 20000 in
theorem ml_law_89 : Cond.methodLink R_law 89 yX12_written ∈ lw_g := lw_c9 33 rfl rfl
set_option maxRecDepth 20000 in
theorem ml_law_93 : Cond.methodLink R_law 93 yX12_ways ∈ lw_g := lw_c9 37 rfl rfl
set_option maxRecDepth 20000 in
theorem ml_law_97 : Cond.methodLink R_law 97 yX12_waysOn ∈ lw_g := lw_c9 55 rfl rfl
set_option maxRecDepth 20000 in
theorem ml_law_101 : Cond.methodLink R_law 101 yX12_read ∈ lw_g := lw_c9 66 rfl rfl
set_option maxRecDepth 20000 in
theorem ml_law_105 : Cond.methodLink R_law 105 yX12_readTerm ∈ lw_g := lw_c9 70 rfl rfl
set_option maxRecDepth 20000 in
theorem ml_law_109 : Cond.methodLink R_law 109 yX12_spells ∈ lw_g := lw_c9 74 rfl rfl
set_option maxRecDepth 20000 in
theorem ml_law_113 : Cond.methodLink R_law 113 yX12_group ∈ lw_g := lw_c9 78 rfl rfl
set_option maxRecDepth 20000 in
theorem ml_law_117 : Cond.methodLink R_law 117 yX12_grouped ∈ lw_g := lw_c9 82 rfl rfl
set_option maxRecDepth 20000 in
theorem ml_law_121 : Cond.methodLink R_law 121 yX12_clear ∈ lw_g := lw_c9 86 rfl rfl
set_option maxRecDepth 20000 in
theorem ml_law_125 : Cond.methodLink R_law 125 yX12_say ∈ lw_g := lw_c9 90 rfl rfl
set_option maxRecDepth 20000 in
theorem ml_law_129 : Cond.methodLink R_law 129 yX12_fill ∈ lw_g := lw_c9 94 rfl rfl
set_option maxRecDepth 20000 in
theorem ml_law_133 : Cond.methodLink R_law 133 yX12_filled ∈ lw_g := lw_c9 102 rfl rfl
set_option maxRecDepth 20000 in
theorem ml_law_137 : Cond.methodLink R_law 137 yX12_fills ∈ lw_g := lw_c9 106 rfl rfl
set_option maxRecDepth 20000 in
theorem ml_law_141 : Cond.methodLink R_law 141 yX12_judge ∈ lw_g := lw_c9 110 rfl rfl
set_option maxRecDepth 20000 in
theorem ml_law_146 : Cond.methodLink R_law 146 yX12_value ∈ lw_g := lw_c9 115 rfl rfl
set_option maxRecDepth 20000 in
theorem ml_law_151 : Cond.methodLink R_law 151 yX12_valueOn ∈ lw_g := lw_c9 119 rfl rfl
set_option maxRecDepth 20000 in
theorem ml_law_155 : Cond.methodLink R_law 155 yX12_count ∈ lw_g := lw_c9 123 rfl rfl
