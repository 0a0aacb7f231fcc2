theorem dX12_read_0 : decode cX12_read 0 = .ok (.aload_n 0, 1) := by decide +kernel
theorem dX12_read_1 : decode cX12_read 1 = .ok (.getfield 332, 3) := by decide +kernel
theorem dX12_read_4 : decode cX12_read 4 = .ok (.ifCond .ne 6, 3) := by decide +kernel
theorem dX12_read_7 : decode cX12_read 7 = .ok (.bipush (-4), 2) := by decide +kernel
theorem dX12_read_9 : decode cX12_read 9 = .ok (.ireturn, 1) := by decide +kernel
theorem dX12_read_10 : decode cX12_read 10 = .ok (.aload_n 0, 1) := by decide +kernel
theorem dX12_read_11 : decode cX12_read 11 = .ok (.invokevirtual 462, 3) := by decide +kernel
theorem dX12_read_14 : decode cX12_read 14 = .ok (.aload_n 0, 1) := by decide +kernel
theorem dX12_read_15 : decode cX12_read 15 = .ok (.invokevirtual 486, 3) := by decide +kernel
theorem dX12_read_18 : decode cX12_read 18 = .ok (.aload_n 0, 1) := by decide +kernel
theorem dX12_read_19 : decode cX12_read 19 = .ok (.getfield 332, 3) := by decide +kernel
theorem dX12_read_22 : decode cX12_read 22 = .ok (.istore_n 1, 1) := by decide +kernel
theorem dX12_read_23 : decode cX12_read 23 = .ok (.iload_n 1, 1) := by decide +kernel
theorem dX12_read_24 : decode cX12_read 24 = .ok (.ifCond .lt 117, 3) := by decide +kernel
theorem dX12_read_27 : decode cX12_read 27 = .ok (.aload_n 0, 1) := by decide +kernel
theorem dX12_read_28 : decode cX12_read 28 = .ok (.getfield 154, 3) := by decide +kernel
theorem dX12_read_31 : decode cX12_read 31 = .ok (.iload_n 1, 1) := by decide +kernel
theorem dX12_read_32 : decode cX12_read 32 = .ok (.iload_n 1, 1) := by decide +kernel
theorem dX12_read_33 : decode cX12_read 33 = .ok (.aload_n 0, 1) := by decide +kernel
theorem dX12_read_34 : decode cX12_read 34 = .ok (.getfield 332, 3) := by decide +kernel
theorem dX12_read_37 : decode cX12_read 37 = .ok (.if_icmp .ne 7, 3) := by decide +kernel
theorem dX12_read_40 : decode cX12_read 40 = .ok (.iconst 0, 1) := by decide +kernel
theorem dX12_read_41 : decode cX12_read 41 = .ok (.goto 6, 3) := by decide +kernel
theorem dX12_read_44 : decode cX12_read 44 = .ok (.ldc_w 435, 3) := by decide +kernel
theorem dX12_read_47 : decode cX12_read 47 = .ok (.iastore, 1) := by decide +kernel
theorem dX12_read_48 : decode cX12_read 48 = .ok (.iconst 0, 1) := by decide +kernel
theorem dX12_read_49 : decode cX12_read 49 = .ok (.istore_n 2, 1) := by decide +kernel
theorem dX12_read_50 : decode cX12_read 50 = .ok (.iload_n 2, 1) := by decide +kernel
theorem dX12_read_51 : decode cX12_read 51 = .ok (.aload_n 0, 1) := by decide +kernel
theorem dX12_read_52 : decode cX12_read 52 = .ok (.getfield 408, 3) := by decide +kernel
theorem dX12_read_55 : decode cX12_read 55 = .ok (.if_icmp .ge 80, 3) := by decide +kernel
theorem dX12_read_58 : decode cX12_read 58 = .ok (.iload_n 1, 1) := by decide +kernel
theorem dX12_read_59 : decode cX12_read 59 = .ok (.iconst 1, 1) := by decide +kernel
theorem dX12_read_60 : decode cX12_read 60 = .ok (.iadd, 1) := by decide +kernel
theorem dX12_read_61 : decode cX12_read 61 = .ok (.istore_n 3, 1) := by decide +kernel
theorem dX12_read_62 : decode cX12_read 62 = .ok (.iload_n 3, 1) := by decide +kernel
theorem dX12_read_63 : decode cX12_read 63 = .ok (.aload_n 0, 1) := by decide +kernel
theorem dX12_read_64 : decode cX12_read 64 = .ok (.getfield 332, 3) := by decide +kernel
theorem dX12_read_67 : decode cX12_read 67 = .ok (.if_icmp .gt 62, 3) := by decide +kernel
theorem dX12_read_70 : decode cX12_read 70 = .ok (.aload_n 0, 1) := by decide +kernel
theorem dX12_read_71 : decode cX12_read 71 = .ok (.getfield 163, 3) := by decide +kernel
theorem dX12_read_74 : decode cX12_read 74 = .ok (.sipush 576, 3) := by decide +kernel
theorem dX12_read_77 : decode cX12_read 77 = .ok (.iload_n 2, 1) := by decide +kernel
theorem dX12_read_78 : decode cX12_read 78 = .ok (.imul, 1) := by decide +kernel
theorem dX12_read_79 : decode cX12_read 79 = .ok (.bipush 24, 2) := by decide +kernel
theorem dX12_read_81 : decode cX12_read 81 = .ok (.iload_n 1, 1) := by decide +kernel
theorem dX12_read_82 : decode cX12_read 82 = .ok (.imul, 1) := by decide +kernel
theorem dX12_read_83 : decode cX12_read 83 = .ok (.iadd, 1) := by decide +kernel
theorem dX12_read_84 : decode cX12_read 84 = .ok (.iload_n 3, 1) := by decide +kernel
theorem dX12_read_85 : decode cX12_read 85 = .ok (.iadd, 1) := by decide +kernel
theorem dX12_read_86 : decode cX12_read 86 = .ok (.iconst 1, 1) := by decide +kernel
theorem dX12_read_87 : decode cX12_read 87 = .ok (.isub, 1) := by decide +kernel
theorem dX12_read_88 : decode cX12_read 88 = .ok (.baload, 1) := by decide +kernel
theorem dX12_read_89 : decode cX12_read 89 = .ok (.ifCond .eq 34, 3) := by decide +kernel
theorem dX12_read_92 : decode cX12_read 92 = .ok (.iconst 1, 1) := by decide +kernel
theorem dX12_read_93 : decode cX12_read 93 = .ok (.aload_n 0, 1) := by decide +kernel
theorem dX12_read_94 : decode cX12_read 94 = .ok (.getfield 154, 3) := by decide +kernel
theorem dX12_read_97 : decode cX12_read 97 = .ok (.iload_n 3, 1) := by decide +kernel
theorem dX12_read_98 : decode cX12_read 98 = .ok (.iaload, 1) := by decide +kernel
theorem dX12_read_99 : decode cX12_read 99 = .ok (.iadd, 1) := by decide +kernel
theorem dX12_read_100 : decode cX12_read 100 = .ok (.aload_n 0, 1) := by decide +kernel
theorem dX12_read_101 : decode cX12_read 101 = .ok (.getfield 154, 3) := by decide +kernel
theorem dX12_read_104 : decode cX12_read 104 = .ok (.iload_n 1, 1) := by decide +kernel
theorem dX12_read_105 : decode cX12_read 105 = .ok (.iaload, 1) := by decide +kernel
theorem dX12_read_106 : decode cX12_read 106 = .ok (.if_icmp .ge 17, 3) := by decide +kernel
theorem dX12_read_109 : decode cX12_read 109 = .ok (.aload_n 0, 1) := by decide +kernel
theorem dX12_read_110 : decode cX12_read 110 = .ok (.getfield 154, 3) := by decide +kernel
theorem dX12_read_113 : decode cX12_read 113 = .ok (.iload_n 1, 1) := by decide +kernel
theorem dX12_read_114 : decode cX12_read 114 = .ok (.iconst 1, 1) := by decide +kernel
theorem dX12_read_115 : decode cX12_read 115 = .ok (.aload_n 0, 1) := by decide +kernel
theorem dX12_read_116 : decode cX12_read 116 = .ok (.getfield 154, 3) := by decide +kernel
theorem dX12_read_119 : decode cX12_read 119 = .ok (.iload_n 3, 1) := by decide +kernel
theorem dX12_read_120 : decode cX12_read 120 = .ok (.iaload, 1) := by decide +kernel
theorem dX12_read_121 : decode cX12_read 121 = .ok (.iadd, 1) := by decide +kernel
theorem dX12_read_122 : decode cX12_read 122 = .ok (.iastore, 1) := by decide +kernel
theorem dX12_read_123 : decode cX12_read 123 = .ok (.iinc 3 1, 3) := by decide +kernel
theorem dX12_read_126 : decode cX12_read 126 = .ok (.goto (-64), 3) := by decide +kernel
theorem dX12_read_129 : decode cX12_read 129 = .ok (.iinc 2 1, 3) := by decide +kernel
theorem dX12_read_132 : decode cX12_read 132 = .ok (.goto (-82), 3) := by decide +kernel
theorem dX12_read_135 : decode cX12_read 135 = .ok (.iinc 1 (-1), 3) := by decide +kernel
theorem dX12_read_138 : decode cX12_read 138 = .ok (.goto (-115), 3) := by decide +kernel
theorem dX12_read_141 : decode cX12_read 141 = .ok (.aload_n 0, 1) := by decide +kernel
theorem dX12_read_142 : decode cX12_read 142 = .ok (.getfield 154, 3) := by decide +kernel
theorem dX12_read_145 : decode cX12_read 145 = .ok (.iconst 0, 1) := by decide +kernel
theorem dX12_read_146 : decode cX12_read 146 = .ok (.iaload, 1) := by decide +kernel
theorem dX12_read_147 : decode cX12_read 147 = .ok (.ldc_w 435, 3) := by decide +kernel
theorem dX12_read_150 : decode cX12_read 150 = .ok (.if_icmp .lt 5, 3) := by decide +kernel
theorem dX12_read_153 : decode cX12_read 153 = .ok (.iconst (-1), 1) := by decide +kernel
theorem dX12_read_154 : decode cX12_read 154 = .ok (.ireturn, 1) := by decide +kernel
theorem dX12_read_155 : decode cX12_read 155 = .ok (.aload_n 0, 1) := by decide +kernel
theorem dX12_read_156 : decode cX12_read 156 = .ok (.getfield 154, 3) := by decide +kernel
theorem dX12_read_159 : decode cX12_read 159 = .ok (.iconst 0, 1) := by decide +kernel
theorem dX12_read_160 : decode cX12_read 160 = .ok (.iaload, 1) := by decide +kernel
theorem dX12_read_161 : decode cX12_read 161 = .ok (.istore_n 1, 1) := by decide +kernel
theorem dX12_read_162 : decode cX12_read 162 = .ok (.aload_n 0, 1) := by decide +kernel
theorem dX12_read_163 : decode cX12_read 163 = .ok (.getfield 167, 3) := by decide +kernel
theorem dX12_read_166 : decode cX12_read 166 = .ok (.iconst 0, 1) := by decide +kernel
theorem dX12_read_167 : decode cX12_read 167 = .ok (.iconst 1, 1) := by decide +kernel
theorem dX12_read_168 : decode cX12_read 168 = .ok (.iastore, 1) := by decide +kernel
theorem dX12_read_169 : decode cX12_read 169 = .ok (.iconst 0, 1) := by decide +kernel
theorem dX12_read_170 : decode cX12_read 170 = .ok (.istore_n 2, 1) := by decide +kernel
theorem dX12_read_171 : decode cX12_read 171 = .ok (.iload_n 2, 1) := by decide +kernel
theorem dX12_read_172 : decode cX12_read 172 = .ok (.iload_n 1, 1) := by decide +kernel
theorem dX12_read_173 : decode cX12_read 173 = .ok (.if_icmp .ge 162, 3) := by decide +kernel
theorem dX12_read_176 : decode cX12_read 176 = .ok (.aload_n 0, 1) := by decide +kernel
theorem dX12_read_177 : decode cX12_read 177 = .ok (.getfield 167, 3) := by decide +kernel
theorem dX12_read_180 : decode cX12_read 180 = .ok (.iload_n 2, 1) := by decide +kernel
theorem dX12_read_181 : decode cX12_read 181 = .ok (.iconst 1, 1) := by decide +kernel
theorem dX12_read_182 : decode cX12_read 182 = .ok (.iadd, 1) := by decide +kernel
theorem dX12_read_183 : decode cX12_read 183 = .ok (.iconst 0, 1) := by decide +kernel
theorem dX12_read_184 : decode cX12_read 184 = .ok (.iastore, 1) := by decide +kernel
theorem dX12_read_185 : decode cX12_read 185 = .ok (.iconst 0, 1) := by decide +kernel
theorem dX12_read_186 : decode cX12_read 186 = .ok (.istore_n 3, 1) := by decide +kernel
theorem dX12_read_187 : decode cX12_read 187 = .ok (.iload_n 3, 1) := by decide +kernel
theorem dX12_read_188 : decode cX12_read 188 = .ok (.aload_n 0, 1) := by decide +kernel
theorem dX12_read_189 : decode cX12_read 189 = .ok (.getfield 408, 3) := by decide +kernel
theorem dX12_read_192 : decode cX12_read 192 = .ok (.if_icmp .ge 137, 3) := by decide +kernel
theorem dX12_read_195 : decode cX12_read 195 = .ok (.aload_n 0, 1) := by decide +kernel
theorem dX12_read_196 : decode cX12_read 196 = .ok (.getfield 167, 3) := by decide +kernel
theorem dX12_read_199 : decode cX12_read 199 = .ok (.iload_n 2, 1) := by decide +kernel
theorem dX12_read_200 : decode cX12_read 200 = .ok (.iconst 1, 1) := by decide +kernel
theorem dX12_read_201 : decode cX12_read 201 = .ok (.iadd, 1) := by decide +kernel
theorem dX12_read_202 : decode cX12_read 202 = .ok (.iaload, 1) := by decide +kernel
theorem dX12_read_203 : decode cX12_read 203 = .ok (.ifCond .ne 126, 3) := by decide +kernel
theorem dX12_read_206 : decode cX12_read 206 = .ok (.iconst 0, 1) := by decide +kernel
theorem dX12_read_207 : decode cX12_read 207 = .ok (.istore 4, 2) := by decide +kernel
theorem dX12_read_209 : decode cX12_read 209 = .ok (.iload 4, 2) := by decide +kernel
theorem dX12_read_211 : decode cX12_read 211 = .ok (.aload_n 0, 1) := by decide +kernel
theorem dX12_read_212 : decode cX12_read 212 = .ok (.getfield 332, 3) := by decide +kernel
theorem dX12_read_215 : decode cX12_read 215 = .ok (.if_icmp .ge 101, 3) := by decide +kernel
theorem dX12_read_218 : decode cX12_read 218 = .ok (.aload_n 0, 1) := by decide +kernel
theorem dX12_read_219 : decode cX12_read 219 = .ok (.getfield 167, 3) := by decide +kernel
theorem dX12_read_222 : decode cX12_read 222 = .ok (.iload_n 2, 1) := by decide +kernel
theorem dX12_read_223 : decode cX12_read 223 = .ok (.iaload, 1) := by decide +kernel
theorem dX12_read_224 : decode cX12_read 224 = .ok (.iload 4, 2) := by decide +kernel
theorem dX12_read_226 : decode cX12_read 226 = .ok (.ishr, 1) := by decide +kernel
theorem dX12_read_227 : decode cX12_read 227 = .ok (.iconst 1, 1) := by decide +kernel
theorem dX12_read_228 : decode cX12_read 228 = .ok (.iand, 1) := by decide +kernel
theorem dX12_read_229 : decode cX12_read 229 = .ok (.ifCond .ne 6, 3) := by decide +kernel
theorem dX12_read_232 : decode cX12_read 232 = .ok (.goto 78, 3) := by decide +kernel
theorem dX12_read_235 : decode cX12_read 235 = .ok (.iload 4, 2) := by decide +kernel
theorem dX12_read_237 : decode cX12_read 237 = .ok (.iconst 1, 1) := by decide +kernel
theorem dX12_read_238 : decode cX12_read 238 = .ok (.iadd, 1) := by decide +kernel
theorem dX12_read_239 : decode cX12_read 239 = .ok (.istore 5, 2) := by decide +kernel
theorem dX12_read_241 : decode cX12_read 241 = .ok (.iload 5, 2) := by decide +kernel
theorem dX12_read_243 : decode cX12_read 243 = .ok (.aload_n 0, 1) := by decide +kernel
theorem dX12_read_244 : decode cX12_read 244 = .ok (.getfield 332, 3) := by decide +kernel
theorem dX12_read_247 : decode cX12_read 247 = .ok (.if_icmp .gt 63, 3) := by decide +kernel
theorem dX12_read_250 : decode cX12_read 250 = .ok (.aload_n 0, 1) := by decide +kernel
theorem dX12_read_251 : decode cX12_read 251 = .ok (.getfield 163, 3) := by decide +kernel
theorem dX12_read_254 : decode cX12_read 254 = .ok (.sipush 576, 3) := by decide +kernel
theorem dX12_read_257 : decode cX12_read 257 = .ok (.iload_n 3, 1) := by decide +kernel
theorem dX12_read_258 : decode cX12_read 258 = .ok (.imul, 1) := by decide +kernel
theorem dX12_read_259 : decode cX12_read 259 = .ok (.bipush 24, 2) := by decide +kernel
theorem dX12_read_261 : decode cX12_read 261 = .ok (.iload 4, 2) := by decide +kernel
theorem dX12_read_263 : decode cX12_read 263 = .ok (.imul, 1) := by decide +kernel
theorem dX12_read_264 : decode cX12_read 264 = .ok (.iadd, 1) := by decide +kernel
theorem dX12_read_265 : decode cX12_read 265 = .ok (.iload 5, 2) := by decide +kernel
theorem dX12_read_267 : decode cX12_read 267 = .ok (.iadd, 1) := by decide +kernel
theorem dX12_read_268 : decode cX12_read 268 = .ok (.iconst 1, 1) := by decide +kernel
theorem dX12_read_269 : decode cX12_read 269 = .ok (.isub, 1) := by decide +kernel
theorem dX12_read_270 : decode cX12_read 270 = .ok (.baload, 1) := by decide +kernel
theorem dX12_read_271 : decode cX12_read 271 = .ok (.ifCond .eq 33, 3) := by decide +kernel
theorem dX12_read_274 : decode cX12_read 274 = .ok (.aload_n 0, 1) := by decide +kernel
theorem dX12_read_275 : decode cX12_read 275 = .ok (.getfield 154, 3) := by decide +kernel
theorem dX12_read_278 : decode cX12_read 278 = .ok (.iload 5, 2) := by decide +kernel
theorem dX12_read_280 : decode cX12_read 280 = .ok (.iaload, 1) := by decide +kernel
theorem dX12_read_281 : decode cX12_read 281 = .ok (.iload_n 1, 1) := by decide +kernel
theorem dX12_read_282 : decode cX12_read 282 = .ok (.iload_n 2, 1) := by decide +kernel
theorem dX12_read_283 : decode cX12_read 283 = .ok (.isub, 1) := by decide +kernel
theorem dX12_read_284 : decode cX12_read 284 = .ok (.iconst 1, 1) := by decide +kernel
theorem dX12_read_285 : decode cX12_read 285 = .ok (.isub, 1) := by decide +kernel
theorem dX12_read_286 : decode cX12_read 286 = .ok (.if_icmp .ne 18, 3) := by decide +kernel
theorem dX12_read_289 : decode cX12_read 289 = .ok (.aload_n 0, 1) := by decide +kernel
theorem dX12_read_290 : decode cX12_read 290 = .ok (.getfield 167, 3) := by decide +kernel
theorem dX12_read_293 : decode cX12_read 293 = .ok (.iload_n 2, 1) := by decide +kernel
theorem dX12_read_294 : decode cX12_read 294 = .ok (.iconst 1, 1) := by decide +kernel
theorem dX12_read_295 : decode cX12_read 295 = .ok (.iadd, 1) := by decide +kernel
theorem dX12_read_296 : decode cX12_read 296 = .ok (.dup2, 1) := by decide +kernel
theorem dX12_read_297 : decode cX12_read 297 = .ok (.iaload, 1) := by decide +kernel
theorem dX12_read_298 : decode cX12_read 298 = .ok (.iconst 1, 1) := by decide +kernel
theorem dX12_read_299 : decode cX12_read 299 = .ok (.iload 5, 2) := by decide +kernel
theorem dX12_read_301 : decode cX12_read 301 = .ok (.ishl, 1) := by decide +kernel
theorem dX12_read_302 : decode cX12_read 302 = .ok (.ior, 1) := by decide +kernel
theorem dX12_read_303 : decode cX12_read 303 = .ok (.iastore, 1) := by decide +kernel
theorem dX12_read_304 : decode cX12_read 304 = .ok (.iinc 5 1, 3) := by decide +kernel
theorem dX12_read_307 : decode cX12_read 307 = .ok (.goto (-66), 3) := by decide +kernel
theorem dX12_read_310 : decode cX12_read 310 = .ok (.iinc 4 1, 3) := by decide +kernel
theorem dX12_read_313 : decode cX12_read 313 = .ok (.goto (-104), 3) := by decide +kernel
theorem dX12_read_316 : decode cX12_read 316 = .ok (.aload_n 0, 1) := by decide +kernel
theorem dX12_read_317 : decode cX12_read 317 = .ok (.getfield 157, 3) := by decide +kernel
theorem dX12_read_320 : decode cX12_read 320 = .ok (.iload_n 2, 1) := by decide +kernel
theorem dX12_read_321 : decode cX12_read 321 = .ok (.iload_n 3, 1) := by decide +kernel
theorem dX12_read_322 : decode cX12_read 322 = .ok (.iastore, 1) := by decide +kernel
theorem dX12_read_323 : decode cX12_read 323 = .ok (.iinc 3 1, 3) := by decide +kernel
theorem dX12_read_326 : decode cX12_read 326 = .ok (.goto (-139), 3) := by decide +kernel
theorem dX12_read_329 : decode cX12_read 329 = .ok (.iinc 2 1, 3) := by decide +kernel
theorem dX12_read_332 : decode cX12_read 332 = .ok (.goto (-161), 3) := by decide +kernel
theorem dX12_read_335 : decode cX12_read 335 = .ok (.iload_n 1, 1) := by decide +kernel
theorem dX12_read_336 : decode cX12_read 336 = .ok (.iconst 1, 1) := by decide +kernel
theorem dX12_read_337 : decode cX12_read 337 = .ok (.isub, 1) := by decide +kernel
theorem dX12_read_338 : decode cX12_read 338 = .ok (.istore_n 2, 1) := by decide +kernel
theorem dX12_read_339 : decode cX12_read 339 = .ok (.iload_n 2, 1) := by decide +kernel
theorem dX12_read_340 : decode cX12_read 340 = .ok (.ifCond .lt 125, 3) := by decide +kernel
theorem dX12_read_343 : decode cX12_read 343 = .ok (.iconst 0, 1) := by decide +kernel
theorem dX12_read_344 : decode cX12_read 344 = .ok (.istore_n 3, 1) := by decide +kernel
theorem dX12_read_345 : decode cX12_read 345 = .ok (.iconst 0, 1) := by decide +kernel
theorem dX12_read_346 : decode cX12_read 346 = .ok (.istore 4, 2) := by decide +kernel
theorem dX12_read_348 : decode cX12_read 348 = .ok (.iload 4, 2) := by decide +kernel
theorem dX12_read_350 : decode cX12_read 350 = .ok (.aload_n 0, 1) := by decide +kernel
theorem dX12_read_351 : decode cX12_read 351 = .ok (.getfield 332, 3) := by decide +kernel
theorem dX12_read_354 : decode cX12_read 354 = .ok (.if_icmp .ge 98, 3) := by decide +kernel
theorem dX12_read_357 : decode cX12_read 357 = .ok (.iload 4, 2) := by decide +kernel
theorem dX12_read_359 : decode cX12_read 359 = .ok (.iconst 1, 1) := by decide +kernel
theorem dX12_read_360 : decode cX12_read 360 = .ok (.iadd, 1) := by decide +kernel
theorem dX12_read_361 : decode cX12_read 361 = .ok (.istore 5, 2) := by decide +kernel
theorem dX12_read_363 : decode cX12_read 363 = .ok (.iload 5, 2) := by decide +kernel
theorem dX12_read_365 : decode cX12_read 365 = .ok (.aload_n 0, 1) := by decide +kernel
theorem dX12_read_366 : decode cX12_read 366 = .ok (.getfield 332, 3) := by decide +kernel
theorem dX12_read_369 : decode cX12_read 369 = .ok (.if_icmp .gt 77, 3) := by decide +kernel
theorem dX12_read_372 : decode cX12_read 372 = .ok (.aload_n 0, 1) := by decide +kernel
theorem dX12_read_373 : decode cX12_read 373 = .ok (.getfield 167, 3) := by decide +kernel
theorem dX12_read_376 : decode cX12_read 376 = .ok (.iload_n 2, 1) := by decide +kernel
theorem dX12_read_377 : decode cX12_read 377 = .ok (.iaload, 1) := by decide +kernel
theorem dX12_read_378 : decode cX12_read 378 = .ok (.iload 4, 2) := by decide +kernel
theorem dX12_read_380 : decode cX12_read 380 = .ok (.ishr, 1) := by decide +kernel
theorem dX12_read_381 : decode cX12_read 381 = .ok (.iconst 1, 1) := by decide +kernel
theorem dX12_read_382 : decode cX12_read 382 = .ok (.iand, 1) := by decide +kernel
theorem dX12_read_383 : decode cX12_read 383 = .ok (.iconst 1, 1) := by decide +kernel
theorem dX12_read_384 : decode cX12_read 384 = .ok (.if_icmp .ne 62, 3) := by decide +kernel
theorem dX12_read_387 : decode cX12_read 387 = .ok (.aload_n 0, 1) := by decide +kernel
theorem dX12_read_388 : decode cX12_read 388 = .ok (.getfield 167, 3) := by decide +kernel
theorem dX12_read_391 : decode cX12_read 391 = .ok (.iload_n 2, 1) := by decide +kernel
theorem dX12_read_392 : decode cX12_read 392 = .ok (.iconst 1, 1) := by decide +kernel
theorem dX12_read_393 : decode cX12_read 393 = .ok (.iadd, 1) := by decide +kernel
theorem dX12_read_394 : decode cX12_read 394 = .ok (.iaload, 1) := by decide +kernel
theorem dX12_read_395 : decode cX12_read 395 = .ok (.iload 5, 2) := by decide +kernel
theorem dX12_read_397 : decode cX12_read 397 = .ok (.ishr, 1) := by decide +kernel
theorem dX12_read_398 : decode cX12_read 398 = .ok (.iconst 1, 1) := by decide +kernel
theorem dX12_read_399 : decode cX12_read 399 = .ok (.iand, 1) := by decide +kernel
theorem dX12_read_400 : decode cX12_read 400 = .ok (.iconst 1, 1) := by decide +kernel
theorem dX12_read_401 : decode cX12_read 401 = .ok (.if_icmp .ne 39, 3) := by decide +kernel
theorem dX12_read_404 : decode cX12_read 404 = .ok (.aload_n 0, 1) := by decide +kernel
theorem dX12_read_405 : decode cX12_read 405 = .ok (.getfield 163, 3) := by decide +kernel
theorem dX12_read_408 : decode cX12_read 408 = .ok (.sipush 576, 3) := by decide +kernel
theorem dX12_read_411 : decode cX12_read 411 = .ok (.aload_n 0, 1) := by decide +kernel
theorem dX12_read_412 : decode cX12_read 412 = .ok (.getfield 157, 3) := by decide +kernel
theorem dX12_read_415 : decode cX12_read 415 = .ok (.iload_n 2, 1) := by decide +kernel
theorem dX12_read_416 : decode cX12_read 416 = .ok (.iaload, 1) := by decide +kernel
theorem dX12_read_417 : decode cX12_read 417 = .ok (.imul, 1) := by decide +kernel
theorem dX12_read_418 : decode cX12_read 418 = .ok (.bipush 24, 2) := by decide +kernel
theorem dX12_read_420 : decode cX12_read 420 = .ok (.iload 4, 2) := by decide +kernel
theorem dX12_read_422 : decode cX12_read 422 = .ok (.imul, 1) := by decide +kernel
theorem dX12_read_423 : decode cX12_read 423 = .ok (.iadd, 1) := by decide +kernel
theorem dX12_read_424 : decode cX12_read 424 = .ok (.iload 5, 2) := by decide +kernel
theorem dX12_read_426 : decode cX12_read 426 = .ok (.iadd, 1) := by decide +kernel
theorem dX12_read_427 : decode cX12_read 427 = .ok (.iconst 1, 1) := by decide +kernel
theorem dX12_read_428 : decode cX12_read 428 = .ok (.isub, 1) := by decide +kernel
theorem dX12_read_429 : decode cX12_read 429 = .ok (.baload, 1) := by decide +kernel
theorem dX12_read_430 : decode cX12_read 430 = .ok (.ifCond .eq 10, 3) := by decide +kernel
theorem dX12_read_433 : decode cX12_read 433 = .ok (.iload_n 3, 1) := by decide +kernel
theorem dX12_read_434 : decode cX12_read 434 = .ok (.iconst 1, 1) := by decide +kernel
theorem dX12_read_435 : decode cX12_read 435 = .ok (.iload 4, 2) := by decide +kernel
theorem dX12_read_437 : decode cX12_read 437 = .ok (.ishl, 1) := by decide +kernel
theorem dX12_read_438 : decode cX12_read 438 = .ok (.ior, 1) := by decide +kernel
theorem dX12_read_439 : decode cX12_read 439 = .ok (.istore_n 3, 1) := by decide +kernel
theorem dX12_read_440 : decode cX12_read 440 = .ok (.iinc 5 1, 3) := by decide +kernel
theorem dX12_read_443 : decode cX12_read 443 = .ok (.goto (-80), 3) := by decide +kernel
theorem dX12_read_446 : decode cX12_read 446 = .ok (.iinc 4 1, 3) := by decide +kernel
theorem dX12_read_449 : decode cX12_read 449 = .ok (.goto (-101), 3) := by decide +kernel
theorem dX12_read_452 : decode cX12_read 452 = .ok (.aload_n 0, 1) := by decide +kernel
theorem dX12_read_453 : decode cX12_read 453 = .ok (.getfield 167, 3) := by decide +kernel
theorem dX12_read_456 : decode cX12_read 456 = .ok (.iload_n 2, 1) := by decide +kernel
theorem dX12_read_457 : decode cX12_read 457 = .ok (.iload_n 3, 1) := by decide +kernel
theorem dX12_read_458 : decode cX12_read 458 = .ok (.iastore, 1) := by decide +kernel
theorem dX12_read_459 : decode cX12_read 459 = .ok (.iinc 2 (-1), 3) := by decide +kernel
theorem dX12_read_462 : decode cX12_read 462 = .ok (.goto (-123), 3) := by decide +kernel
theorem dX12_read_465 : decode cX12_read 465 = .ok (.iconst 0, 1) := by decide +kernel
theorem dX12_read_466 : decode cX12_read 466 = .ok (.istore_n 2, 1) := by decide +kernel
theorem dX12_read_467 : decode cX12_read 467 = .ok (.iconst 0, 1) := by decide +kernel
theorem dX12_read_468 : decode cX12_read 468 = .ok (.istore_n 3, 1) := by decide +kernel
theorem dX12_read_469 : decode cX12_read 469 = .ok (.iload_n 3, 1) := by decide +kernel
theorem dX12_read_470 : decode cX12_read 470 = .ok (.iload_n 1, 1) := by decide +kernel
theorem dX12_read_471 : decode cX12_read 471 = .ok (.if_icmp .ge 77, 3) := by decide +kernel
theorem dX12_read_474 : decode cX12_read 474 = .ok (.iload_n 2, 1) := by decide +kernel
theorem dX12_read_475 : decode cX12_read 475 = .ok (.iconst 1, 1) := by decide +kernel
theorem dX12_read_476 : decode cX12_read 476 = .ok (.iadd, 1) := by decide +kernel
theorem dX12_read_477 : decode cX12_read 477 = .ok (.istore 4, 2) := by decide +kernel
theorem dX12_read_479 : decode cX12_read 479 = .ok (.aload_n 0, 1) := by decide +kernel
theorem dX12_read_480 : decode cX12_read 480 = .ok (.getfield 167, 3) := by decide +kernel
theorem dX12_read_483 : decode cX12_read 483 = .ok (.iload_n 3, 1) := by decide +kernel
theorem dX12_read_484 : decode cX12_read 484 = .ok (.iconst 1, 1) := by decide +kernel
theorem dX12_read_485 : decode cX12_read 485 = .ok (.iadd, 1) := by decide +kernel
theorem dX12_read_486 : decode cX12_read 486 = .ok (.iaload, 1) := by decide +kernel
theorem dX12_read_487 : decode cX12_read 487 = .ok (.iload 4, 2) := by decide +kernel
theorem dX12_read_489 : decode cX12_read 489 = .ok (.ishr, 1) := by decide +kernel
theorem dX12_read_490 : decode cX12_read 490 = .ok (.iconst 1, 1) := by decide +kernel
theorem dX12_read_491 : decode cX12_read 491 = .ok (.iand, 1) := by decide +kernel
theorem dX12_read_492 : decode cX12_read 492 = .ok (.ifCond .eq 31, 3) := by decide +kernel
theorem dX12_read_495 : decode cX12_read 495 = .ok (.aload_n 0, 1) := by decide +kernel
theorem dX12_read_496 : decode cX12_read 496 = .ok (.getfield 163, 3) := by decide +kernel
theorem dX12_read_499 : decode cX12_read 499 = .ok (.sipush 576, 3) := by decide +kernel
theorem dX12_read_502 : decode cX12_read 502 = .ok (.aload_n 0, 1) := by decide +kernel
theorem dX12_read_503 : decode cX12_read 503 = .ok (.getfield 157, 3) := by decide +kernel
theorem dX12_read_506 : decode cX12_read 506 = .ok (.iload_n 3, 1) := by decide +kernel
theorem dX12_read_507 : decode cX12_read 507 = .ok (.iaload, 1) := by decide +kernel
theorem dX12_read_508 : decode cX12_read 508 = .ok (.imul, 1) := by decide +kernel
theorem dX12_read_509 : decode cX12_read 509 = .ok (.bipush 24, 2) := by decide +kernel
theorem dX12_read_511 : decode cX12_read 511 = .ok (.iload_n 2, 1) := by decide +kernel
theorem dX12_read_512 : decode cX12_read 512 = .ok (.imul, 1) := by decide +kernel
theorem dX12_read_513 : decode cX12_read 513 = .ok (.iadd, 1) := by decide +kernel
theorem dX12_read_514 : decode cX12_read 514 = .ok (.iload 4, 2) := by decide +kernel
theorem dX12_read_516 : decode cX12_read 516 = .ok (.iadd, 1) := by decide +kernel
theorem dX12_read_517 : decode cX12_read 517 = .ok (.iconst 1, 1) := by decide +kernel
theorem dX12_read_518 : decode cX12_read 518 = .ok (.isub, 1) := by decide +kernel
theorem dX12_read_519 : decode cX12_read 519 = .ok (.baload, 1) := by decide +kernel
theorem dX12_read_520 : decode cX12_read 520 = .ok (.ifCond .ne 9, 3) := by decide +kernel
theorem dX12_read_523 : decode cX12_read 523 = .ok (.iinc 4 1, 3) := by decide +kernel
theorem dX12_read_526 : decode cX12_read 526 = .ok (.goto (-47), 3) := by decide +kernel
theorem dX12_read_529 : decode cX12_read 529 = .ok (.aload_n 0, 1) := by decide +kernel
theorem dX12_read_530 : decode cX12_read 530 = .ok (.getfield 160, 3) := by decide +kernel
theorem dX12_read_533 : decode cX12_read 533 = .ok (.iload_n 3, 1) := by decide +kernel
theorem dX12_read_534 : decode cX12_read 534 = .ok (.iload 4, 2) := by decide +kernel
theorem dX12_read_536 : decode cX12_read 536 = .ok (.iload_n 2, 1) := by decide +kernel
theorem dX12_read_537 : decode cX12_read 537 = .ok (.isub, 1) := by decide +kernel
theorem dX12_read_538 : decode cX12_read 538 = .ok (.iastore, 1) := by decide +kernel
theorem dX12_read_539 : decode cX12_read 539 = .ok (.iload 4, 2) := by decide +kernel
theorem dX12_read_541 : decode cX12_read 541 = .ok (.istore_n 2, 1) := by decide +kernel
theorem dX12_read_542 : decode cX12_read 542 = .ok (.iinc 3 1, 3) := by decide +kernel
theorem dX12_read_545 : decode cX12_read 545 = .ok (.goto (-76), 3) := by decide +kernel
theorem dX12_read_548 : decode cX12_read 548 = .ok (.aload_n 0, 1) := by decide +kernel
theorem dX12_read_549 : decode cX12_read 549 = .ok (.iload_n 1, 1) := by decide +kernel
theorem dX12_read_550 : decode cX12_read 550 = .ok (.putfield 341, 3) := by decide +kernel
theorem dX12_read_553 : decode cX12_read 553 = .ok (.iload_n 1, 1) := by decide +kernel
theorem dX12_read_554 : decode cX12_read 554 = .ok (.ireturn, 1) := by decide +kernel
abbrev rm_X12_read : Room := { frames := 4, cells := 0, slots := 0, locals := 100 }
def f_X12_read_62 (N : Nat) (k23 : Int32 → St → Option (Int32 × St)) (k50 : Int32 → Int32 → St → Option (Int32 × St)) : Nat → Int32 → Int32 → Int32 → St → Option (Int32 × St)
  | 0, _, _, _, _ => none
  | n + 1, x1, x2, x3, σ => (if (σ.1 1069 0) < x3 then k50 x1 (x2 + 1) σ else grd (ib ((((576 * x2) + (24 * x1)) + x3) - 1) 23040) ((if (σ.1 50 ((((576 * x2) + (24 * x1)) + x3) - 1).toNatClampNeg) = 0 then f_X12_read_62 N k23 k50 n x1 x2 (x3 + 1) σ else grd (ib x3 25) (grd (ib x1 25) ((if (σ.1 47 x1.toNatClampNeg) ≤ (1 + (σ.1 47 x3.toNatClampNeg)) then f_X12_read_62 N k23 k50 n x1 x2 (x3 + 1) σ else grd (ib x3 25) (grd (ib x1 25) (f_X12_read_62 N k23 k50 n x1 x2 (x3 + 1) (si σ 47 x1.toNatClampNeg (1 + (σ.1 47 x3.toNatClampNeg)))))))))))
def f_X12_read_50 (N : Nat) (k23 : Int32 → St → Option (Int32 × St)) : Nat → Int32 → Int32 → St → Option (Int32 × St)
  | 0, _, _, _ => none
  | n + 1, x1, x2, σ => (if (σ.1 1049 0) ≤ x2 then k23 (x1 + (-1)) σ else f_X12_read_62 N k23 (f_X12_read_50 N k23 n) N x1 x2 (x1 + 1) σ)
def f_X12_read_47 (N : Nat) (k23 : Int32 → St → Option (Int32 × St)) (x1 : Int32) (t1 : Int32) (t2 : Int32) (σ : St) : Option (Int32 × St) := grd (ib t1 25) (f_X12_read_50 N k23 N x1 0 (si σ 47 t1.toNatClampNeg t2))
def f_X12_read_241 (N : Nat) (k171 : Int32 → Int32 → St → Option (Int32 × St)) (k187 : Int32 → Int32 → Int32 → St → Option (Int32 × St)) (k209 : Int32 → Int32 → Int32 → Int32 → St → Option (Int32 × St)) : Nat → Int32 → Int32 → Int32 → Int32 → Int32 → St → Option (Int32 × St)
  | 0, _, _, _, _, _, _ => none
  | n + 1, x1, x2, x3, x4, x5, σ => (if (σ.1 1069 0) < x5 then k209 x1 x2 x3 (x4 + 1) σ else grd (ib ((((576 * x3) + (24 * x4)) + x5) - 1) 23040) ((if (σ.1 50 ((((576 * x3) + (24 * x4)) + x5) - 1).toNatClampNeg) = 0 then f_X12_read_241 N k171 k187 k209 n x1 x2 x3 x4 (x5 + 1) σ else grd (ib x5 25) ((if (σ.1 47 x5.toNatClampNeg) = ((x1 - x2) - 1) then grd (ib (x2 + 1) 25) (grd (ib (x2 + 1) 25) (f_X12_read_241 N k171 k187 k209 n x1 x2 x3 x4 (x5 + 1) (si σ 51 (x2 + 1).toNatClampNeg ((σ.1 51 (x2 + 1).toNatClampNeg) ||| (1 <<< (x5 &&& 31)))))) else f_X12_read_241 N k171 k187 k209 n x1 x2 x3 x4 (x5 + 1) σ)))))
def f_X12_read_209 (N : Nat) (k171 : Int32 → Int32 → St → Option (Int32 × St)) (k187 : Int32 → Int32 → Int32 → St → Option (Int32 × St)) : Nat → Int32 → Int32 → Int32 → Int32 → St → Option (Int32 × St)
  | 0, _, _, _, _, _ => none
  | n + 1, x1, x2, x3, x4, σ => (if (σ.1 1069 0) ≤ x4 then grd (ib x2 24) (k187 x1 x2 (x3 + 1) (si σ 48 x2.toNatClampNeg x3)) else grd (ib x2 25) ((if (((σ.1 51 x2.toNatClampNeg) >>> (x4 &&& 31)) &&& 1) = 0 then f_X12_read_209 N k171 k187 n x1 x2 x3 (x4 + 1) σ else f_X12_read_241 N k171 k187 (f_X12_read_209 N k171 k187 n) N x1 x2 x3 x4 (x4 + 1) σ)))
def f_X12_read_187 (N : Nat) (k171 : Int32 → Int32 → St → Option (Int32 × St)) : Nat → Int32 → Int32 → Int32 → St → Option (Int32 × St)
  | 0, _, _, _, _ => none
  | n + 1, x1, x2, x3, σ => (if (σ.1 1049 0) ≤ x3 then k171 x1 (x2 + 1) σ else grd (ib (x2 + 1) 25) ((if (σ.1 51 (x2 + 1).toNatClampNeg) = 0 then f_X12_read_209 N k171 (f_X12_read_187 N k171 n) N x1 x2 x3 0 σ else k171 x1 (x2 + 1) σ)))
def f_X12_read_363 (N : Nat) (k339 : Int32 → Int32 → St → Option (Int32 × St)) (k348 : Int32 → Int32 → Int32 → Int32 → St → Option (Int32 × St)) : Nat → Int32 → Int32 → Int32 → Int32 → Int32 → St → Option (Int32 × St)
  | 0, _, _, _, _, _, _ => none
  | n + 1, x1, x2, x3, x4, x5, σ => (if (σ.1 1069 0) < x5 then k348 x1 x2 x3 (x4 + 1) σ else grd (ib x2 25) ((if (((σ.1 51 x2.toNatClampNeg) >>> (x4 &&& 31)) &&& 1) = 1 then grd (ib (x2 + 1) 25) ((if (((σ.1 51 (x2 + 1).toNatClampNeg) >>> (x5 &&& 31)) &&& 1) = 1 then grd (ib x2 24) (grd (ib ((((576 * (σ.1 48 x2.toNatClampNeg)) + (24 * x4)) + x5) - 1) 23040) ((if (σ.1 50 ((((576 * (σ.1 48 x2.toNatClampNeg)) + (24 * x4)) + x5) - 1).toNatClampNeg) = 0 then f_X12_read_363 N k339 k348 n x1 x2 x3 x4 (x5 + 1) σ else f_X12_read_363 N k339 k348 n x1 x2 (x3 ||| (1 <<< (x4 &&& 31))) x4 (x5 + 1) σ))) else f_X12_read_363 N k339 k348 n x1 x2 x3 x4 (x5 + 1) σ)) else k348 x1 x2 x3 (x4 + 1) σ)))
def f_X12_read_348 (N : Nat) (k339 : Int32 → Int32 → St → Option (Int32 × St)) : Nat → Int32 → Int32 → Int32 → Int32 → St → Option (Int32 × St)
  | 0, _, _, _, _, _ => none
  | n + 1, x1, x2, x3, x4, σ => (if (σ.1 1069 0) ≤ x4 then grd (ib x2 25) (k339 x1 (x2 + (-1)) (si σ 51 x2.toNatClampNeg x3)) else f_X12_read_363 N k339 (f_X12_read_348 N k339 n) N x1 x2 x3 x4 (x4 + 1) σ)
def f_X12_read_479 (N : Nat) (k469 : Int32 → Int32 → Int32 → St → Option (Int32 × St)) : Nat → Int32 → Int32 → Int32 → Int32 → St → Option (Int32 × St)
  | 0, _, _, _, _, _ => none
  | n + 1, x1, x2, x3, x4, σ => grd (ib (x3 + 1) 25) ((if (((σ.1 51 (x3 + 1).toNatClampNeg) >>> (x4 &&& 31)) &&& 1) = 0 then f_X12_read_479 N k469 n x1 x2 x3 (x4 + 1) σ else grd (ib x3 24) (grd (ib ((((576 * (σ.1 48 x3.toNatClampNeg)) + (24 * x2)) + x4) - 1) 23040) ((if (σ.1 50 ((((576 * (σ.1 48 x3.toNatClampNeg)) + (24 * x2)) + x4) - 1).toNatClampNeg) = 0 then f_X12_read_479 N k469 n x1 x2 x3 (x4 + 1) σ else grd (ib x3 24) (k469 x1 x4 (x3 + 1) (si σ 49 x3.toNatClampNeg (x4 - x2))))))))
def f_X12_read_469 (N : Nat) : Nat → Int32 → Int32 → Int32 → St → Option (Int32 × St)
  | 0, _, _, _, _ => none
  | n + 1, x1, x2, x3, σ => (if x1 ≤ x3 then some (x1, (si σ 1074 0 x1)) else f_X12_read_479 N (f_X12_read_469 N n) N x1 x2 x3 (x2 + 1) σ)
def f_X12_read_339 (N : Nat) : Nat → Int32 → Int32 → St → Option (Int32 × St)
  | 0, _, _, _ => none
  | n + 1, x1, x2, σ => (if x2 < 0 then f_X12_read_469 N N x1 0 0 σ else f_X12_read_348 N (f_X12_read_339 N n) N x1 x2 0 0 σ)
def f_X12_read_171 (N : Nat) : Nat → Int32 → Int32 → St → Option (Int32 × St)
  | 0, _, _, _ => none
  | n + 1, x1, x2, σ => (if x1 ≤ x2 then f_X12_read_339 N N x1 (x1 - 1) σ else grd (ib (x2 + 1) 25) (f_X12_read_187 N (f_X12_read_171 N n) N x1 x2 0 (si σ 51 (x2 + 1).toNatClampNeg 0)))
def f_X12_read_23 (N : Nat) : Nat → Int32 → St → Option (Int32 × St)
  | 0, _, _ => none
  | n + 1, x1, σ => (if x1 < 0 then grd (ib 0 25) ((if (σ.1 47 0) < 1000000000 then grd (ib 0 25) (grd (ib 0 25) (f_X12_read_171 N N (σ.1 47 0) 0 (si σ 51 0 1))) else some ((-1), σ))) else (if x1 = (σ.1 1069 0) then f_X12_read_47 N (f_X12_read_23 N n) x1 x1 0 σ else f_X12_read_47 N (f_X12_read_23 N n) x1 x1 1000000000 σ))
def f_X12_read (N : Nat) (σ : St) : Option (Int32 × St) := (if (σ.1 1069 0) = 0 then some ((-4), σ) else bo (f_X12_asListed N σ) (fun σ2 => bo (f_X12_makeSpells N σ2) (fun σ3 => f_X12_read_23 N N (σ3.1 1069 0) σ3)))
section
variable {p : Program} {l : Launch} {e : Env} {s : State} {m : MethodId} {args : Array Value} {below : List Frame} {meth : Method} {c : Code} {g : XG}
set_option maxRecDepth 4000 in
theorem w_X12_read_62 (N : Nat) (k23 : Int32 → St → Option (Int32 × St)) (k50 : Int32 → Int32 → St → Option (Int32 × St)) {r : Int32} {σ' : St} (C : xC KM g RX12 cX12_read 6 (some .int) p s m args meth c) (hk23 : ∀ (x1 : Int32) (σ : St) (H : Heap) (locs : List Loc) (ls : Array Slot), xW KM g s σ H locs → lv_has ls 6 [(0, .ref (g.q 0)), (1, .int x1)] → k23 x1 σ = some (r, σ') → W p l e rm_X12_read s m args below meth c H locs 0 0 (MQ below (xPost KM g (some (.int r)) σ') args s 0 0 (xA KM g.q)) (F0 m 23 ls [])) (hk50 : ∀ (x1 : Int32) (x2 : Int32) (σ : St) (H : Heap) (locs : List Loc) (ls : Array Slot), xW KM g s σ H locs → lv_has ls 6 [(0, .ref (g.q 0)), (1, .int x1), (2, .int x2)] → k50 x1 x2 σ = some (r, σ') → W p l e rm_X12_read s m args below meth c H locs 0 0 (MQ below (xPost KM g (some (.int r)) σ') args s 0 0 (xA KM g.q)) (F0 m 50 ls [])) : ∀ (n : Nat), ∀ (x1 : Int32) (x2 : Int32) (x3 : Int32) (σ : St) (H : Heap) (locs : List Loc) (ls : Array Slot), xW KM g s σ H locs → lv_has ls 6 [(0, .ref (g.q 0)), (1, .int x1), (2, .int x2), (3, .int x3)] → f_X12_read_62 N k23 k50 n x1 x2 x3 σ = some (r, σ') → W p l e rm_X12_read s m args below meth c H locs 0 0 (MQ below (xPost KM g (some (.int r)) σ') args s 0 0 (xA KM g.q)) (F0 m 62 ls []) := by
  have hx := C.1
  have hb := C.2.1
  intro n
  induction n with
  | zero => intro x1 x2 x3 σ H locs ls hW hl h; rw [f_X12_read_62] at h; cases h
  | succ n ih =>
    intro x1 x2 x3 σ H locs ls hW hl h
    rw [f_X12_read_62] at h
    refine lv_iload_n hx hb dX12_read_62 rfl (lv_at hl 3 rfl) ?_
    refine lv_aload_n hx hb dX12_read_63 rfl (lv_at hl 0 rfl) ?_
    refine xg_i C hW fg_12_332 KM_0 rfl (v := 1069) rfl (x := σ.1 1069 0) rfl dX12_read_64 ?_
    refine lv_icmp_gt (tgt := 129) hx hb dX12_read_67 (by decide) (fun c12 => ?_) (fun c12 => ?_)
    · have h := xit c12 h
      refine lv_iinc (v := x2 + 1) (lv' := [(2, .int (x2 + 1)), (0, .ref (g.q 0)), (1, .int x1), (3, .int x3)]) hx hb dX12_read_129 hl (k := 2) rfl rfl (Nat.le_of_ble_eq_true rfl) rfl (fun ls hl => ?_)
      refine lv_goto (tgt := 50) hx hb dX12_read_132 (by decide) ?_
      exact hk50 x1 (x2 + 1) _ _ _ _ hW (lv_sub hl [1, 2, 0] rfl) h
    · have h := xif c12 h
      refine lv_aload_n hx hb dX12_read_70 rfl (lv_at hl 0 rfl) ?_
      refine xg_r C hW fg_12_163 KM_0 rfl dX12_read_71 ?_
      refine lv_sipush (v := 576) hx hb dX12_read_74 rfl ?_
      refine lv_iload_n hx hb dX12_read_77 rfl (lv_at hl 2 rfl) ?_
      refine lv_imul hx hb dX12_read_78 ?_
      refine lv_bipush (v := 24) hx hb dX12_read_79 rfl ?_
      refine lv_iload_n hx hb dX12_read_81 rfl (lv_at hl 1 rfl) ?_
      refine lv_imul hx hb dX12_read_82 ?_
      refine lv_iadd hx hb dX12_read_83 ?_
      refine lv_iload_n hx hb dX12_read_84 rfl (lv_at hl 3 rfl) ?_
      refine lv_iadd hx hb dX12_read_85 ?_
      refine lv_iconst (v := 1) hx hb dX12_read_86 rfl ?_
      refine lv_isub hx hb dX12_read_87 ?_
      obtain ⟨g13, h⟩ := xgd h
      refine xa_z C hW KM_50 g13 (x := σ.1 50 ((((576 * x2) + (24 * x1)) + x3) - 1).toNatClampNeg) rfl dX12_read_88 ?_
      refine lv_if_eq (tgt := 123) hx hb dX12_read_89 (by decide) (fun c14 => ?_) (fun c14 => ?_)
      · have h := xit c14 h
        refine lv_iinc (v := x3 + 1) (lv' := [(3, .int (x3 + 1)), (0, .ref (g.q 0)), (1, .int x1), (2, .int x2)]) hx hb dX12_read_123 hl (k := 3) rfl rfl (Nat.le_of_ble_eq_true rfl) rfl (fun ls hl => ?_)
        refine lv_goto (tgt := 62) hx hb dX12_read_126 (by decide) ?_
        exact ih x1 x2 (x3 + 1) _ _ _ _ hW (lv_sub hl [1, 2, 3, 0] rfl) h
      · have h := xif c14 h
        refine lv_iconst (v := 1) hx hb dX12_read_92 rfl ?_
        refine lv_aload_n hx hb dX12_read_93 rfl (lv_at hl 0 rfl) ?_
        refine xg_r C hW fg_12_154 KM_0 rfl dX12_read_94 ?_
        refine lv_iload_n hx hb dX12_read_97 rfl (lv_at hl 3 rfl) ?_
        obtain ⟨g15, h⟩ := xgd h
        refine xa_i C hW KM_47 g15 (x := σ.1 47 x3.toNatClampNeg) rfl dX12_read_98 ?_
        refine lv_iadd hx hb dX12_read_99 ?_
        refine lv_aload_n hx hb dX12_read_100 rfl (lv_at hl 0 rfl) ?_
        refine xg_r C hW fg_12_154 KM_0 rfl dX12_read_101 ?_
        refine lv_iload_n hx hb dX12_read_104 rfl (lv_at hl 1 rfl) ?_
        obtain ⟨g16, h⟩ := xgd h
        refine xa_i C hW KM_47 g16 (x := σ.1 47 x1.toNatClampNeg) rfl dX12_read_105 ?_
        refine lv_icmp_ge (tgt := 123) hx hb dX12_read_106 (by decide) (fun c17 => ?_) (fun c17 => ?_)
        · have h := xit c17 h
          refine lv_iinc (v := x3 + 1) (lv' := [(3, .int (x3 + 1)), (0, .ref (g.q 0)), (1, .int x1), (2, .int x2)]) hx hb dX12_read_123 hl (k := 3) rfl rfl (Nat.le_of_ble_eq_true rfl) rfl (fun ls hl => ?_)
          refine lv_goto (tgt := 62) hx hb dX12_read_126 (by decide) ?_
          exact ih x1 x2 (x3 + 1) _ _ _ _ hW (lv_sub hl [1, 2, 3, 0] rfl) h
        · have h := xif c17 h
          refine lv_aload_n hx hb dX12_read_109 rfl (lv_at hl 0 rfl) ?_
          refine xg_r C hW fg_12_154 KM_0 rfl dX12_read_110 ?_
          refine lv_iload_n hx hb dX12_read_113 rfl (lv_at hl 1 rfl) ?_
          refine lv_iconst (v := 1) hx hb dX12_read_114 rfl ?_
          refine lv_aload_n hx hb dX12_read_115 rfl (lv_at hl 0 rfl) ?_
          refine xg_r C hW fg_12_154 KM_0 rfl dX12_read_116 ?_
          refine lv_iload_n hx hb dX12_read_119 rfl (lv_at hl 3 rfl) ?_
          obtain ⟨g18, h⟩ := xgd h
          refine xa_i C hW KM_47 g18 (x := σ.1 47 x3.toNatClampNeg) rfl dX12_read_120 ?_
          refine lv_iadd hx hb dX12_read_121 ?_
          obtain ⟨g19, h⟩ := xgd h
          refine xs_i C hW KM_47 g19 dX12_read_122 (fun H locs hW => ?_)
          refine lv_iinc (v := x3 + 1) (lv' := [(3, .int (x3 + 1)), (0, .ref (g.q 0)), (1, .int x1), (2, .int x2)]) hx hb dX12_read_123 hl (k := 3) rfl rfl (Nat.le_of_ble_eq_true rfl) rfl (fun ls hl => ?_)
          refine lv_goto (tgt := 62) hx hb dX12_read_126 (by decide) ?_
          exact ih x1 x2 (x3 + 1) _ _ _ _ hW (lv_sub hl [1, 2, 3, 0] rfl) h
set_option maxRecDepth 4000 in
theorem w_X12_read_50 (N : Nat) (k23 : Int32 → St → Option (Int32 × St)) {r : Int32} {σ' : St} (C : xC KM g RX12 cX12_read 6 (some .int) p s m args meth c) (hk23 : ∀ (x1 : Int32) (σ : St) (H : Heap) (locs : List Loc) (ls : Array Slot), xW KM g s σ H locs → lv_has ls 6 [(0, .ref (g.q 0)), (1, .int x1)] → k23 x1 σ = some (r, σ') → W p l e rm_X12_read s m args below meth c H locs 0 0 (MQ below (xPost KM g (some (.int r)) σ') args s 0 0 (xA KM g.q)) (F0 m 23 ls [])) : ∀ (n : Nat), ∀ (x1 : Int32) (x2 : Int32) (σ : St) (H : Heap) (locs : List Loc) (ls : Array Slot), xW KM g s σ H locs → lv_has ls 6 [(0, .ref (g.q 0)), (1, .int x1), (2, .int x2)] → f_X12_read_50 N k23 n x1 x2 σ = some (r, σ') → W p l e rm_X12_read s m args below meth c H locs 0 0 (MQ below (xPost KM g (some (.int r)) σ') args s 0 0 (xA KM g.q)) (F0 m 50 ls []) := by
  have hx := C.1
  have hb := C.2.1
  intro n
  induction n with
  | zero => intro x1 x2 σ H locs ls hW hl h; rw [f_X12_read_50] at h; cases h
  | succ n ih =>
    intro x1 x2 σ H locs ls hW hl h
    rw [f_X12_read_50] at h
    refine lv_iload_n hx hb dX12_read_50 rfl (lv_at hl 2 rfl) ?_
    refine lv_aload_n hx hb dX12_read_51 rfl (lv_at hl 0 rfl) ?_
    refine xg_i C hW fg_12_408 KM_0 rfl (v := 1049) rfl (x := σ.1 1049 0) rfl dX12_read_52 ?_
    refine lv_icmp_ge (tgt := 135) hx hb dX12_read_55 (by decide) (fun c11 => ?_) (fun c11 => ?_)
    · have h := xit c11 h
      refine lv_iinc (v := x1 + (-1)) (lv' := [(1, .int (x1 + (-1))), (0, .ref (g.q 0)), (2, .int x2)]) hx hb dX12_read_135 hl (k := 1) rfl rfl (Nat.le_of_ble_eq_true rfl) rfl (fun ls hl => ?_)
      refine lv_goto (tgt := 23) hx hb dX12_read_138 (by decide) ?_
      exact hk23 (x1 + (-1)) _ _ _ _ hW (lv_sub hl [1, 0] rfl) h
    · have h := xif c11 h
      refine lv_iload_n hx hb dX12_read_58 rfl (lv_at hl 1 rfl) ?_
      refine lv_iconst (v := 1) hx hb dX12_read_59 rfl ?_
      refine lv_iadd hx hb dX12_read_60 ?_
      refine lv_istore_n (lv' := [(3, .int (x1 + 1)), (0, .ref (g.q 0)), (1, .int x1), (2, .int x2)]) hx hb dX12_read_61 rfl hl (Nat.le_of_ble_eq_true rfl) rfl (fun ls hl => ?_)
      exact w_X12_read_62 N k23 (f_X12_read_50 N k23 n) C hk23 ih N x1 x2 (x1 + 1) _ _ _ _ hW (lv_sub hl [1, 2, 3, 0] rfl) h
set_option maxRecDepth 4000 in
theorem w_X12_read_47 (N : Nat) (k23 : Int32 → St → Option (Int32 × St)) {r : Int32} {σ' : St} (C : xC KM g RX12 cX12_read 6 (some .int) p s m args meth c) (hk23 : ∀ (x1 : Int32) (σ : St) (H : Heap) (locs : List Loc) (ls : Array Slot), xW KM g s σ H locs → lv_has ls 6 [(0, .ref (g.q 0)), (1, .int x1)] → k23 x1 σ = some (r, σ') → W p l e rm_X12_read s m args below meth c H locs 0 0 (MQ below (xPost KM g (some (.int r)) σ') args s 0 0 (xA KM g.q)) (F0 m 23 ls [])) : ∀ (x1 : Int32) (t1 : Int32) (t2 : Int32) (σ : St) (H : Heap) (locs : List Loc) (ls : Array Slot), xW KM g s σ H locs → lv_has ls 6 [(0, .ref (g.q 0)), (1, .int x1)] → f_X12_read_47 N k23 x1 t1 t2 σ = some (r, σ') → W p l e rm_X12_read s m args below meth c H locs 0 0 (MQ below (xPost KM g (some (.int r)) σ') args s 0 0 (xA KM g.q)) (F0 m 47 ls [.int t2, .int t1, .ref (g.q 47)]) := by
  have hx := C.1
  have hb := C.2.1
  intro x1 t1 t2 σ H locs ls hW hl h
  unfold f_X12_read_47 at h
  obtain ⟨g10, h⟩ := xgd h
  refine xs_i C hW KM_47 g10 dX12_read_47 (fun H locs hW => ?_)
  refine lv_iconst (v := 0) hx hb dX12_read_48 rfl ?_
  refine lv_istore_n (lv' := [(2, .int 0), (0, .ref (g.q 0)), (1, .int x1)]) hx hb dX12_read_49 rfl hl (Nat.le_of_ble_eq_true rfl) rfl (fun ls hl => ?_)
  exact w_X12_read_50 N k23 C hk23 N x1 0 _ _ _ _ hW (lv_sub hl [1, 2, 0] rfl) h
set_option maxRecDepth 4000 in
theorem w_X12_read_241 (N : Nat) (k171 : Int32 → Int32 → St → Option (Int32 × St)) (k187 : Int32 → Int32 → Int32 → St → Option (Int32 × St)) (k209 : Int32 → Int32 → Int32 → Int32 → St → Option (Int32 × St)) {r : Int32} {σ' : St} (C : xC KM g RX12 cX12_read 6 (some .int) p s m args meth c) (hk171 : ∀ (x1 : Int32) (x2 : Int32) (σ : St) (H : Heap) (locs : List Loc) (ls : Array Slot), xW KM g s σ H locs → lv_has ls 6 [(0, .ref (g.q 0)), (1, .int x1), (2, .int x2)] → k171 x1 x2 σ = some (r, σ') → W p l e rm_X12_read s m args below meth c H locs 0 0 (MQ below (xPost KM g (some (.int r)) σ') args s 0 0 (xA KM g.q)) (F0 m 171 ls [])) (hk187 : ∀ (x1 : Int32) (x2 : Int32) (x3 : Int32) (σ : St) (H : Heap) (locs : List Loc) (ls : Array Slot), xW KM g s σ H locs → lv_has ls 6 [(0, .ref (g.q 0)), (1, .int x1), (2, .int x2), (3, .int x3)] → k187 x1 x2 x3 σ = some (r, σ') → W p l e rm_X12_read s m args below meth c H locs 0 0 (MQ below (xPost KM g (some (.int r)) σ') args s 0 0 (xA KM g.q)) (F0 m 187 ls [])) (hk209 : ∀ (x1 : Int32) (x2 : Int32) (x3 : Int32) (x4 : Int32) (σ : St) (H : Heap) (locs : List Loc) (ls : Array Slot), xW KM g s σ H locs → lv_has ls 6 [(0, .ref (g.q 0)), (1, .int x1), (2, .int x2), (3, .int x3), (4, .int x4)] → k209 x1 x2 x3 x4 σ = some (r, σ') → W p l e rm_X12_read s m args below meth c H locs 0 0 (MQ below (xPost KM g (some (.int r)) σ') args s 0 0 (xA KM g.q)) (F0 m 209 ls [])) : ∀ (n : Nat), ∀ (x1 : Int32) (x2 : Int32) (x3 : Int32) (x4 : Int32) (x5 : Int32) (σ : St) (H : Heap) (locs : List Loc) (ls : Array Slot), xW KM g s σ H locs → lv_has ls 6 [(0, .ref (g.q 0)), (1, .int x1), (2, .int x2), (3, .int x3), (4, .int x4), (5, .int x5)] → f_X12_read_241 N k171 k187 k209 n x1 x2 x3 x4 x5 σ = some (r, σ') → W p l e rm_X12_read s m args below meth c H locs 0 0 (MQ below (xPost KM g (some (.int r)) σ') args s 0 0 (xA KM g.q)) (F0 m 241 ls []) := by
  have hx := C.1
  have hb := C.2.1
  intro n
  induction n with
  | zero => intro x1 x2 x3 x4 x5 σ H locs ls hW hl h; rw [f_X12_read_241] at h; cases h
  | succ n ih =>
    intro x1 x2 x3 x4 x5 σ H locs ls hW hl h
    rw [f_X12_read_241] at h
    refine lv_iload hx hb dX12_read_241 (lv_at hl 5 rfl) ?_
    refine lv_aload_n hx hb dX12_read_243 rfl (lv_at hl 0 rfl) ?_
    refine xg_i C hW fg_12_332 KM_0 rfl (v := 1069) rfl (x := σ.1 1069 0) rfl dX12_read_244 ?_
    refine lv_icmp_gt (tgt := 310) hx hb dX12_read_247 (by decide) (fun c29 => ?_) (fun c29 => ?_)
    · have h := xit c29 h
      refine lv_iinc (v := x4 + 1) (lv' := [(4, .int (x4 + 1)), (0, .ref (g.q 0)), (1, .int x1), (2, .int x2), (3, .int x3), (5, .int x5)]) hx hb dX12_read_310 hl (k := 4) rfl rfl (Nat.le_of_ble_eq_true rfl) rfl (fun ls hl => ?_)
      refine lv_goto (tgt := 209) hx hb dX12_read_313 (by decide) ?_
      exact hk209 x1 x2 x3 (x4 + 1) _ _ _ _ hW (lv_sub hl [1, 2, 3, 4, 0] rfl) h
    · have h := xif c29 h
      refine lv_aload_n hx hb dX12_read_250 rfl (lv_at hl 0 rfl) ?_
      refine xg_r C hW fg_12_163 KM_0 rfl dX12_read_251 ?_
      refine lv_sipush (v := 576) hx hb dX12_read_254 rfl ?_
      refine lv_iload_n hx hb dX12_read_257 rfl (lv_at hl 3 rfl) ?_
      refine lv_imul hx hb dX12_read_258 ?_
      refine lv_bipush (v := 24) hx hb dX12_read_259 rfl ?_
      refine lv_iload hx hb dX12_read_261 (lv_at hl 4 rfl) ?_
      refine lv_imul hx hb dX12_read_263 ?_
      refine lv_iadd hx hb dX12_read_264 ?_
      refine lv_iload hx hb dX12_read_265 (lv_at hl 5 rfl) ?_
      refine lv_iadd hx hb dX12_read_267 ?_
      refine lv_iconst (v := 1) hx hb dX12_read_268 rfl ?_
      refine lv_isub hx hb dX12_read_269 ?_
      obtain ⟨g30, h⟩ := xgd h
      refine xa_z C hW KM_50 g30 (x := σ.1 50 ((((576 * x3) + (24 * x4)) + x5) - 1).toNatClampNeg) rfl dX12_read_270 ?_
      refine lv_if_eq (tgt := 304) hx hb dX12_read_271 (by decide) (fun c31 => ?_) (fun c31 => ?_)
      · have h := xit c31 h
        refine lv_iinc (v := x5 + 1) (lv' := [(5, .int (x5 + 1)), (0, .ref (g.q 0)), (1, .int x1), (2, .int x2), (3, .int x3), (4, .int x4)]) hx hb dX12_read_304 hl (k := 5) rfl rfl (Nat.le_of_ble_eq_true rfl) rfl (fun ls hl => ?_)
        refine lv_goto (tgt := 241) hx hb dX12_read_307 (by decide) ?_
        exact ih x1 x2 x3 x4 (x5 + 1) _ _ _ _ hW (lv_sub hl [1, 2, 3, 4, 5, 0] rfl) h
      · have h := xif c31 h
        refine lv_aload_n hx hb dX12_read_274 rfl (lv_at hl 0 rfl) ?_
        refine xg_r C hW fg_12_154 KM_0 rfl dX12_read_275 ?_
        refine lv_iload hx hb dX12_read_278 (lv_at hl 5 rfl) ?_
        obtain ⟨g32, h⟩ := xgd h
        refine xa_i C hW KM_47 g32 (x := σ.1 47 x5.toNatClampNeg) rfl dX12_read_280 ?_
        refine lv_iload_n hx hb dX12_read_281 rfl (lv_at hl 1 rfl) ?_
        refine lv_iload_n hx hb dX12_read_282 rfl (lv_at hl 2 rfl) ?_
        refine lv_isub hx hb dX12_read_283 ?_
        refine lv_iconst (v := 1) hx hb dX12_read_284 rfl ?_
        refine lv_isub hx hb dX12_read_285 ?_
        refine lv_icmp_ne (tgt := 304) hx hb dX12_read_286 (by decide) (fun c33 => ?_) (fun c33 => ?_)
        · have h := xif c33 h
          refine lv_iinc (v := x5 + 1) (lv' := [(5, .int (x5 + 1)), (0, .ref (g.q 0)), (1, .int x1), (2, .int x2), (3, .int x3), (4, .int x4)]) hx hb dX12_read_304 hl (k := 5) rfl rfl (Nat.le_of_ble_eq_true rfl) rfl (fun ls hl => ?_)
          refine lv_goto (tgt := 241) hx hb dX12_read_307 (by decide) ?_
          exact ih x1 x2 x3 x4 (x5 + 1) _ _ _ _ hW (lv_sub hl [1, 2, 3, 4, 5, 0] rfl) h
        · have h := xit c33 h
          refine lv_aload_n hx hb dX12_read_289 rfl (lv_at hl 0 rfl) ?_
          refine xg_r C hW fg_12_167 KM_0 rfl dX12_read_290 ?_
          refine lv_iload_n hx hb dX12_read_293 rfl (lv_at hl 2 rfl) ?_
          refine lv_iconst (v := 1) hx hb dX12_read_294 rfl ?_
          refine lv_iadd hx hb dX12_read_295 ?_
          refine lv_dup2_11 hx hb dX12_read_296 rfl rfl ?_
          obtain ⟨g34, h⟩ := xgd h
          refine xa_i C hW KM_51 g34 (x := σ.1 51 (x2 + 1).toNatClampNeg) rfl dX12_read_297 ?_
          refine lv_iconst (v := 1) hx hb dX12_read_298 rfl ?_
          refine lv_iload hx hb dX12_read_299 (lv_at hl 5 rfl) ?_
          refine lv_ishl hx hb dX12_read_301 ?_
          refine lv_ior hx hb dX12_read_302 ?_
          obtain ⟨g35, h⟩ := xgd h
          refine xs_i C hW KM_51 g35 dX12_read_303 (fun H locs hW => ?_)
          refine lv_iinc (v := x5 + 1) (lv' := [(5, .int (x5 + 1)), (0, .ref (g.q 0)), (1, .int x1), (2, .int x2), (3, .int x3), (4, .int x4)]) hx hb dX12_read_304 hl (k := 5) rfl rfl (Nat.le_of_ble_eq_true rfl) rfl (fun ls hl => ?_)
          refine lv_goto (tgt := 241) hx hb dX12_read_307 (by decide) ?_
          exact ih x1 x2 x3 x4 (x5 + 1) _ _ _ _ hW (lv_sub hl [1, 2, 3, 4, 5, 0] rfl) h
set_option maxRecDepth 4000 in
theorem w_X12_read_209 (N : Nat) (k171 : Int32 → Int32 → St → Option (Int32 × St)) (k187 : Int32 → Int32 → Int32 → St → Option (Int32 × St)) {r : Int32} {σ' : St} (C : xC KM g RX12 cX12_read 6 (some .int) p s m args meth c) (hk171 : ∀ (x1 : Int32) (x2 : Int32) (σ : St) (H : Heap) (locs : List Loc) (ls : Array Slot), xW KM g s σ H locs → lv_has ls 6 [(0, .ref (g.q 0)), (1, .int x1), (2, .int x2)] → k171 x1 x2 σ = some (r, σ') → W p l e rm_X12_read s m args below meth c H locs 0 0 (MQ below (xPost KM g (some (.int r)) σ') args s 0 0 (xA KM g.q)) (F0 m 171 ls [])) (hk187 : ∀ (x1 : Int32) (x2 : Int32) (x3 : Int32) (σ : St) (H : Heap) (locs : List Loc) (ls : Array Slot), xW KM g s σ H locs → lv_has ls 6 [(0, .ref (g.q 0)), (1, .int x1), (2, .int x2), (3, .int x3)] → k187 x1 x2 x3 σ = some (r, σ') → W p l e rm_X12_read s m args below meth c H locs 0 0 (MQ below (xPost KM g (some (.int r)) σ') args s 0 0 (xA KM g.q)) (F0 m 187 ls [])) : ∀ (n : Nat), ∀ (x1 : Int32) (x2 : Int32) (x3 : Int32) (x4 : Int32) (σ : St) (H : Heap) (locs : List Loc) (ls : Array Slot), xW KM g s σ H locs → lv_has ls 6 [(0, .ref (g.q 0)), (1, .int x1), (2, .int x2), (3, .int x3), (4, .int x4)] → f_X12_read_209 N k171 k187 n x1 x2 x3 x4 σ = some (r, σ') → W p l e rm_X12_read s m args below meth c H locs 0 0 (MQ below (xPost KM g (some (.int r)) σ') args s 0 0 (xA KM g.q)) (F0 m 209 ls []) := by
  have hx := C.1
  have hb := C.2.1
  intro n
  induction n with
  | zero => intro x1 x2 x3 x4 σ H locs ls hW hl h; rw [f_X12_read_209] at h; cases h
  | succ n ih =>
    intro x1 x2 x3 x4 σ H locs ls hW hl h
    rw [f_X12_read_209] at h
    refine lv_iload hx hb dX12_read_209 (lv_at hl 4 rfl) ?_
    refine lv_aload_n hx hb dX12_read_211 rfl (lv_at hl 0 rfl) ?_
    refine xg_i C hW fg_12_332 KM_0 rfl (v := 1069) rfl (x := σ.1 1069 0) rfl dX12_read_212 ?_
    refine lv_icmp_ge (tgt := 316) hx hb dX12_read_215 (by decide) (fun c25 => ?_) (fun c25 => ?_)
    · have h := xit c25 h
      refine lv_aload_n hx hb dX12_read_316 rfl (lv_at hl 0 rfl) ?_
      refine xg_r C hW fg_12_157 KM_0 rfl dX12_read_317 ?_
      refine lv_iload_n hx hb dX12_read_320 rfl (lv_at hl 2 rfl) ?_
      refine lv_iload_n hx hb dX12_read_321 rfl (lv_at hl 3 rfl) ?_
      obtain ⟨g26, h⟩ := xgd h
      refine xs_i C hW KM_48 g26 dX12_read_322 (fun H locs hW => ?_)
      refine lv_iinc (v := x3 + 1) (lv' := [(3, .int (x3 + 1)), (0, .ref (g.q 0)), (1, .int x1), (2, .int x2), (4, .int x4)]) hx hb dX12_read_323 hl (k := 3) rfl rfl (Nat.le_of_ble_eq_true rfl) rfl (fun ls hl => ?_)
      refine lv_goto (tgt := 187) hx hb dX12_read_326 (by decide) ?_
      exact hk187 x1 x2 (x3 + 1) _ _ _ _ hW (lv_sub hl [1, 2, 3, 0] rfl) h
    · have h := xif c25 h
      refine lv_aload_n hx hb dX12_read_218 rfl (lv_at hl 0 rfl) ?_
      refine xg_r C hW fg_12_167 KM_0 rfl dX12_read_219 ?_
      refine lv_iload_n hx hb dX12_read_222 rfl (lv_at hl 2 rfl) ?_
      obtain ⟨g27, h⟩ := xgd h
      refine xa_i C hW KM_51 g27 (x := σ.1 51 x2.toNatClampNeg) rfl dX12_read_223 ?_
      refine lv_iload hx hb dX12_read_224 (lv_at hl 4 rfl) ?_
      refine lv_ishr hx hb dX12_read_226 ?_
      refine lv_iconst (v := 1) hx hb dX12_read_227 rfl ?_
      refine lv_iand hx hb dX12_read_228 ?_
      refine lv_if_ne (tgt := 235) hx hb dX12_read_229 (by decide) (fun c28 => ?_) (fun c28 => ?_)
      · have h := xif c28 h
        refine lv_iload hx hb dX12_read_235 (lv_at hl 4 rfl) ?_
        refine lv_iconst (v := 1) hx hb dX12_read_237 rfl ?_
        refine lv_iadd hx hb dX12_read_238 ?_
        refine lv_istore (lv' := [(5, .int (x4 + 1)), (0, .ref (g.q 0)), (1, .int x1), (2, .int x2), (3, .int x3), (4, .int x4)]) hx hb dX12_read_239 hl (Nat.le_of_ble_eq_true rfl) rfl (fun ls hl => ?_)
        exact w_X12_read_241 N k171 k187 (f_X12_read_209 N k171 k187 n) C hk171 hk187 ih N x1 x2 x3 x4 (x4 + 1) _ _ _ _ hW (lv_sub hl [1, 2, 3, 4, 5, 0] rfl) h
      · have h := xit c28 h
        refine lv_goto (tgt := 310) hx hb dX12_read_232 (by decide) ?_
        refine lv_iinc (v := x4 + 1) (lv' := [(4, .int (x4 + 1)), (0, .ref (g.q 0)), (1, .int x1), (2, .int x2), (3, .int x3)]) hx hb dX12_read_310 hl (k := 4) rfl rfl (Nat.le_of_ble_eq_true rfl) rfl (fun ls hl => ?_)
        refine lv_goto (tgt := 209) hx hb dX12_read_313 (by decide) ?_
        exact ih x1 x2 x3 (x4 + 1) _ _ _ _ hW (lv_sub hl [1, 2, 3, 4, 0] rfl) h
set_option maxRecDepth 4000 in
theorem w_X12_read_187 (N : Nat) (k171 : Int32 → Int32 → St → Option (Int32 × St)) {r : Int32} {σ' : St} (C : xC KM g RX12 cX12_read 6 (some .int) p s m args meth c) (hk171 : ∀ (x1 : Int32) (x2 : Int32) (σ : St) (H : Heap) (locs : List Loc) (ls : Array Slot), xW KM g s σ H locs → lv_has ls 6 [(0, .ref (g.q 0)), (1, .int x1), (2, .int x2)] → k171 x1 x2 σ = some (r, σ') → W p l e rm_X12_read s m args below meth c H locs 0 0 (MQ below (xPost KM g (some (.int r)) σ') args s 0 0 (xA KM g.q)) (F0 m 171 ls [])) : ∀ (n : Nat), ∀ (x1 : Int32) (x2 : Int32) (x3 : Int32) (σ : St) (H : Heap) (locs : List Loc) (ls : Array Slot), xW KM g s σ H locs → lv_has ls 6 [(0, .ref (g.q 0)), (1, .int x1), (2, .int x2), (3, .int x3)] → f_X12_read_187 N k171 n x1 x2 x3 σ = some (r, σ') → W p l e rm_X12_read s m args below meth c H locs 0 0 (MQ below (xPost KM g (some (.int r)) σ') args s 0 0 (xA KM g.q)) (F0 m 187 ls []) := by
  have hx := C.1
  have hb := C.2.1
  intro n
  induction n with
  | zero => intro x1 x2 x3 σ H locs ls hW hl h; rw [f_X12_read_187] at h; cases h
  | succ n ih =>
    intro x1 x2 x3 σ H locs ls hW hl h
    rw [f_X12_read_187] at h
    refine lv_iload_n hx hb dX12_read_187 rfl (lv_at hl 3 rfl) ?_
    refine lv_aload_n hx hb dX12_read_188 rfl (lv_at hl 0 rfl) ?_
    refine xg_i C hW fg_12_408 KM_0 rfl (v := 1049) rfl (x := σ.1 1049 0) rfl dX12_read_189 ?_
    refine lv_icmp_ge (tgt := 329) hx hb dX12_read_192 (by decide) (fun c22 => ?_) (fun c22 => ?_)
    · have h := xit c22 h
      refine lv_iinc (v := x2 + 1) (lv' := [(2, .int (x2 + 1)), (0, .ref (g.q 0)), (1, .int x1), (3, .int x3)]) hx hb dX12_read_329 hl (k := 2) rfl rfl (Nat.le_of_ble_eq_true rfl) rfl (fun ls hl => ?_)
      refine lv_goto (tgt := 171) hx hb dX12_read_332 (by decide) ?_
      exact hk171 x1 (x2 + 1) _ _ _ _ hW (lv_sub hl [1, 2, 0] rfl) h
    · have h := xif c22 h
      refine lv_aload_n hx hb dX12_read_195 rfl (lv_at hl 0 rfl) ?_
      refine xg_r C hW fg_12_167 KM_0 rfl dX12_read_196 ?_
      refine lv_iload_n hx hb dX12_read_199 rfl (lv_at hl 2 rfl) ?_
      refine lv_iconst (v := 1) hx hb dX12_read_200 rfl ?_
      refine lv_iadd hx hb dX12_read_201 ?_
      obtain ⟨g23, h⟩ := xgd h
      refine xa_i C hW KM_51 g23 (x := σ.1 51 (x2 + 1).toNatClampNeg) rfl dX12_read_202 ?_
      refine lv_if_ne (tgt := 329) hx hb dX12_read_203 (by decide) (fun c24 => ?_) (fun c24 => ?_)
      · have h := xif c24 h
        refine lv_iinc (v := x2 + 1) (lv' := [(2, .int (x2 + 1)), (0, .ref (g.q 0)), (1, .int x1), (3, .int x3)]) hx hb dX12_read_329 hl (k := 2) rfl rfl (Nat.le_of_ble_eq_true rfl) rfl (fun ls hl => ?_)
        refine lv_goto (tgt := 171) hx hb dX12_read_332 (by decide) ?_
        exact hk171 x1 (x2 + 1) _ _ _ _ hW (lv_sub hl [1, 2, 0] rfl) h
      · have h := xit c24 h
        refine lv_iconst (v := 0) hx hb dX12_read_206 rfl ?_
        refine lv_istore (lv' := [(4, .int 0), (0, .ref (g.q 0)), (1, .int x1), (2, .int x2), (3, .int x3)]) hx hb dX12_read_207 hl (Nat.le_of_ble_eq_true rfl) rfl (fun ls hl => ?_)
        exact w_X12_read_209 N k171 (f_X12_read_187 N k171 n) C hk171 ih N x1 x2 x3 0 _ _ _ _ hW (lv_sub hl [1, 2, 3, 4, 0] rfl) h
set_option maxRecDepth 4000 in
theorem w_X12_read_363 (N : Nat) (k339 : Int32 → Int32 → St → Option (Int32 × St)) (k348 : Int32 → Int32 → Int32 → Int32 → St → Option (Int32 × St)) {r : Int32} {σ' : St} (C : xC KM g RX12 cX12_read 6 (some .int) p s m args meth c) (hk339 : ∀ (x1 : Int32) (x2 : Int32) (σ : St) (H : Heap) (locs : List Loc) (ls : Array Slot), xW KM g s σ H locs → lv_has ls 6 [(0, .ref (g.q 0)), (1, .int x1), (2, .int x2)] → k339 x1 x2 σ = some (r, σ') → W p l e rm_X12_read s m args below meth c H locs 0 0 (MQ below (xPost KM g (some (.int r)) σ') args s 0 0 (xA KM g.q)) (F0 m 339 ls [])) (hk348 : ∀ (x1 : Int32) (x2 : Int32) (x3 : Int32) (x4 : Int32) (σ : St) (H : Heap) (locs : List Loc) (ls : Array Slot), xW KM g s σ H locs → lv_has ls 6 [(0, .ref (g.q 0)), (1, .int x1), (2, .int x2), (3, .int x3), (4, .int x4)] → k348 x1 x2 x3 x4 σ = some (r, σ') → W p l e rm_X12_read s m args below meth c H locs 0 0 (MQ below (xPost KM g (some (.int r)) σ') args s 0 0 (xA KM g.q)) (F0 m 348 ls [])) : ∀ (n : Nat), ∀ (x1 : Int32) (x2 : Int32) (x3 : Int32) (x4 : Int32) (x5 : Int32) (σ : St) (H : Heap) (locs : List Loc) (ls : Array Slot), xW KM g s σ H locs → lv_has ls 6 [(0, .ref (g.q 0)), (1, .int x1), (2, .int x2), (3, .int x3), (4, .int x4), (5, .int x5)] → f_X12_read_363 N k339 k348 n x1 x2 x3 x4 x5 σ = some (r, σ') → W p l e rm_X12_read s m args below meth c H locs 0 0 (MQ below (xPost KM g (some (.int r)) σ') args s 0 0 (xA KM g.q)) (F0 m 363 ls []) := by
  have hx := C.1
  have hb := C.2.1
  intro n
  induction n with
  | zero => intro x1 x2 x3 x4 x5 σ H locs ls hW hl h; rw [f_X12_read_363] at h; cases h
  | succ n ih =>
    intro x1 x2 x3 x4 x5 σ H locs ls hW hl h
    rw [f_X12_read_363] at h
    refine lv_iload hx hb dX12_read_363 (lv_at hl 5 rfl) ?_
    refine lv_aload_n hx hb dX12_read_365 rfl (lv_at hl 0 rfl) ?_
    refine xg_i C hW fg_12_332 KM_0 rfl (v := 1069) rfl (x := σ.1 1069 0) rfl dX12_read_366 ?_
    refine lv_icmp_gt (tgt := 446) hx hb dX12_read_369 (by decide) (fun c39 => ?_) (fun c39 => ?_)
    · have h := xit c39 h
      refine lv_iinc (v := x4 + 1) (lv' := [(4, .int (x4 + 1)), (0, .ref (g.q 0)), (1, .int x1), (2, .int x2), (3, .int x3), (5, .int x5)]) hx hb dX12_read_446 hl (k := 4) rfl rfl (Nat.le_of_ble_eq_true rfl) rfl (fun ls hl => ?_)
      refine lv_goto (tgt := 348) hx hb dX12_read_449 (by decide) ?_
      exact hk348 x1 x2 x3 (x4 + 1) _ _ _ _ hW (lv_sub hl [1, 2, 3, 4, 0] rfl) h
    · have h := xif c39 h
      refine lv_aload_n hx hb dX12_read_372 rfl (lv_at hl 0 rfl) ?_
      refine xg_r C hW fg_12_167 KM_0 rfl dX12_read_373 ?_
      refine lv_iload_n hx hb dX12_read_376 rfl (lv_at hl 2 rfl) ?_
      obtain ⟨g40, h⟩ := xgd h
      refine xa_i C hW KM_51 g40 (x := σ.1 51 x2.toNatClampNeg) rfl dX12_read_377 ?_
      refine lv_iload hx hb dX12_read_378 (lv_at hl 4 rfl) ?_
      refine lv_ishr hx hb dX12_read_380 ?_
      refine lv_iconst (v := 1) hx hb dX12_read_381 rfl ?_
      refine lv_iand hx hb dX12_read_382 ?_
      refine lv_iconst (v := 1) hx hb dX12_read_383 rfl ?_
      refine lv_icmp_ne (tgt := 446) hx hb dX12_read_384 (by decide) (fun c41 => ?_) (fun c41 => ?_)
      · have h := xif c41 h
        refine lv_iinc (v := x4 + 1) (lv' := [(4, .int (x4 + 1)), (0, .ref (g.q 0)), (1, .int x1), (2, .int x2), (3, .int x3), (5, .int x5)]) hx hb dX12_read_446 hl (k := 4) rfl rfl (Nat.le_of_ble_eq_true rfl) rfl (fun ls hl => ?_)
        refine lv_goto (tgt := 348) hx hb dX12_read_449 (by decide) ?_
        exact hk348 x1 x2 x3 (x4 + 1) _ _ _ _ hW (lv_sub hl [1, 2, 3, 4, 0] rfl) h
      · have h := xit c41 h
        refine lv_aload_n hx hb dX12_read_387 rfl (lv_at hl 0 rfl) ?_
        refine xg_r C hW fg_12_167 KM_0 rfl dX12_read_388 ?_
        refine lv_iload_n hx hb dX12_read_391 rfl (lv_at hl 2 rfl) ?_
        refine lv_iconst (v := 1) hx hb dX12_read_392 rfl ?_
        refine lv_iadd hx hb dX12_read_393 ?_
        obtain ⟨g42, h⟩ := xgd h
        refine xa_i C hW KM_51 g42 (x := σ.1 51 (x2 + 1).toNatClampNeg) rfl dX12_read_394 ?_
        refine lv_iload hx hb dX12_read_395 (lv_at hl 5 rfl) ?_
        refine lv_ishr hx hb dX12_read_397 ?_
        refine lv_iconst (v := 1) hx hb dX12_read_398 rfl ?_
        refine lv_iand hx hb dX12_read_399 ?_
        refine lv_iconst (v := 1) hx hb dX12_read_400 rfl ?_
        refine lv_icmp_ne (tgt := 440) hx hb dX12_read_401 (by decide) (fun c43 => ?_) (fun c43 => ?_)
        · have h := xif c43 h
          refine lv_iinc (v := x5 + 1) (lv' := [(5, .int (x5 + 1)), (0, .ref (g.q 0)), (1, .int x1), (2, .int x2), (3, .int x3), (4, .int x4)]) hx hb dX12_read_440 hl (k := 5) rfl rfl (Nat.le_of_ble_eq_true rfl) rfl (fun ls hl => ?_)
          refine lv_goto (tgt := 363) hx hb dX12_read_443 (by decide) ?_
          exact ih x1 x2 x3 x4 (x5 + 1) _ _ _ _ hW (lv_sub hl [1, 2, 3, 4, 5, 0] rfl) h
        · have h := xit c43 h
          refine lv_aload_n hx hb dX12_read_404 rfl (lv_at hl 0 rfl) ?_
          refine xg_r C hW fg_12_163 KM_0 rfl dX12_read_405 ?_
          refine lv_sipush (v := 576) hx hb dX12_read_408 rfl ?_
          refine lv_aload_n hx hb dX12_read_411 rfl (lv_at hl 0 rfl) ?_
          refine xg_r C hW fg_12_157 KM_0 rfl dX12_read_412 ?_
          refine lv_iload_n hx hb dX12_read_415 rfl (lv_at hl 2 rfl) ?_
          obtain ⟨g44, h⟩ := xgd h
          refine xa_i C hW KM_48 g44 (x := σ.1 48 x2.toNatClampNeg) rfl dX12_read_416 ?_
          refine lv_imul hx hb dX12_read_417 ?_
          refine lv_bipush (v := 24) hx hb dX12_read_418 rfl ?_
          refine lv_iload hx hb dX12_read_420 (lv_at hl 4 rfl) ?_
          refine lv_imul hx hb dX12_read_422 ?_
          refine lv_iadd hx hb dX12_read_423 ?_
          refine lv_iload hx hb dX12_read_424 (lv_at hl 5 rfl) ?_
          refine lv_iadd hx hb dX12_read_426 ?_
          refine lv_iconst (v := 1) hx hb dX12_read_427 rfl ?_
          refine lv_isub hx hb dX12_read_428 ?_
          obtain ⟨g45, h⟩ := xgd h
          refine xa_z C hW KM_50 g45 (x := σ.1 50 ((((576 * (σ.1 48 x2.toNatClampNeg)) + (24 * x4)) + x5) - 1).toNatClampNeg) rfl dX12_read_429 ?_
          refine lv_if_eq (tgt := 440) hx hb dX12_read_430 (by decide) (fun c46 => ?_) (fun c46 => ?_)
          · have h := xit c46 h
            refine lv_iinc (v := x5 + 1) (lv' := [(5, .int (x5 + 1)), (0, .ref (g.q 0)), (1, .int x1), (2, .int x2), (3, .int x3), (4, .int x4)]) hx hb dX12_read_440 hl (k := 5) rfl rfl (Nat.le_of_ble_eq_true rfl) rfl (fun ls hl => ?_)
            refine lv_goto (tgt := 363) hx hb dX12_read_443 (by decide) ?_
            exact ih x1 x2 x3 x4 (x5 + 1) _ _ _ _ hW (lv_sub hl [1, 2, 3, 4, 5, 0] rfl) h
          · have h := xif c46 h
            refine lv_iload_n hx hb dX12_read_433 rfl (lv_at hl 3 rfl) ?_
            refine lv_iconst (v := 1) hx hb dX12_read_434 rfl ?_
            refine lv_iload hx hb dX12_read_435 (lv_at hl 4 rfl) ?_
            refine lv_ishl hx hb dX12_read_437 ?_
            refine lv_ior hx hb dX12_read_438 ?_
            refine lv_istore_n (lv' := [(3, .int (x3 ||| (1 <<< (x4 &&& 31)))), (0, .ref (g.q 0)), (1, .int x1), (2, .int x2), (4, .int x4), (5, .int x5)]) hx hb dX12_read_439 rfl hl (Nat.le_of_ble_eq_true rfl) rfl (fun ls hl => ?_)
            refine lv_iinc (v := x5 + 1) (lv' := [(5, .int (x5 + 1)), (3, .int (x3 ||| (1 <<< (x4 &&& 31)))), (0, .ref (g.q 0)), (1, .int x1), (2, .int x2), (4, .int x4)]) hx hb dX12_read_440 hl (k := 5) rfl rfl (Nat.le_of_ble_eq_true rfl) rfl (fun ls hl => ?_)
            refine lv_goto (tgt := 363) hx hb dX12_read_443 (by decide) ?_
            exact ih x1 x2 (x3 ||| (1 <<< (x4 &&& 31))) x4 (x5 + 1) _ _ _ _ hW (lv_sub hl [2, 3, 4, 1, 5, 0] rfl) h
set_option maxRecDepth 4000 in
theorem w_X12_read_348 (N : Nat) (k339 : Int32 → Int32 → St → Option (Int32 × St)) {r : Int32} {σ' : St} (C : xC KM g RX12 cX12_read 6 (some .int) p s m args meth c) (hk339 : ∀ (x1 : Int32) (x2 : Int32) (σ : St) (H : Heap) (locs : List Loc) (ls : Array Slot), xW KM g s σ H locs → lv_has ls 6 [(0, .ref (g.q 0)), (1, .int x1), (2, .int x2)] → k339 x1 x2 σ = some (r, σ') → W p l e rm_X12_read s m args below meth c H locs 0 0 (MQ below (xPost KM g (some (.int r)) σ') args s 0 0 (xA KM g.q)) (F0 m 339 ls [])) : ∀ (n : Nat), ∀ (x1 : Int32) (x2 : Int32) (x3 : Int32) (x4 : Int32) (σ : St) (H : Heap) (locs : List Loc) (ls : Array Slot), xW KM g s σ H locs → lv_has ls 6 [(0, .ref (g.q 0)), (1, .int x1), (2, .int x2), (3, .int x3), (4, .int x4)] → f_X12_read_348 N k339 n x1 x2 x3 x4 σ = some (r, σ') → W p l e rm_X12_read s m args below meth c H locs 0 0 (MQ below (xPost KM g (some (.int r)) σ') args s 0 0 (xA KM g.q)) (F0 m 348 ls []) := by
  have hx := C.1
  have hb := C.2.1
  intro n
  induction n with
  | zero => intro x1 x2 x3 x4 σ H locs ls hW hl h; rw [f_X12_read_348] at h; cases h
  | succ n ih =>
    intro x1 x2 x3 x4 σ H locs ls hW hl h
    rw [f_X12_read_348] at h
    refine lv_iload hx hb dX12_read_348 (lv_at hl 4 rfl) ?_
    refine lv_aload_n hx hb dX12_read_350 rfl (lv_at hl 0 rfl) ?_
    refine xg_i C hW fg_12_332 KM_0 rfl (v := 1069) rfl (x := σ.1 1069 0) rfl dX12_read_351 ?_
    refine lv_icmp_ge (tgt := 452) hx hb dX12_read_354 (by decide) (fun c37 => ?_) (fun c37 => ?_)
    · have h := xit c37 h
      refine lv_aload_n hx hb dX12_read_452 rfl (lv_at hl 0 rfl) ?_
      refine xg_r C hW fg_12_167 KM_0 rfl dX12_read_453 ?_
      refine lv_iload_n hx hb dX12_read_456 rfl (lv_at hl 2 rfl) ?_
      refine lv_iload_n hx hb dX12_read_457 rfl (lv_at hl 3 rfl) ?_
      obtain ⟨g38, h⟩ := xgd h
      refine xs_i C hW KM_51 g38 dX12_read_458 (fun H locs hW => ?_)
      refine lv_iinc (v := x2 + (-1)) (lv' := [(2, .int (x2 + (-1))), (0, .ref (g.q 0)), (1, .int x1), (3, .int x3), (4, .int x4)]) hx hb dX12_read_459 hl (k := 2) rfl rfl (Nat.le_of_ble_eq_true rfl) rfl (fun ls hl => ?_)
      refine lv_goto (tgt := 339) hx hb dX12_read_462 (by decide) ?_
      exact hk339 x1 (x2 + (-1)) _ _ _ _ hW (lv_sub hl [1, 2, 0] rfl) h
    · have h := xif c37 h
      refine lv_iload hx hb dX12_read_357 (lv_at hl 4 rfl) ?_
      refine lv_iconst (v := 1) hx hb dX12_read_359 rfl ?_
      refine lv_iadd hx hb dX12_read_360 ?_
      refine lv_istore (lv' := [(5, .int (x4 + 1)), (0, .ref (g.q 0)), (1, .int x1), (2, .int x2), (3, .int x3), (4, .int x4)]) hx hb dX12_read_361 hl (Nat.le_of_ble_eq_true rfl) rfl (fun ls hl => ?_)
      exact w_X12_read_363 N k339 (f_X12_read_348 N k339 n) C hk339 ih N x1 x2 x3 x4 (x4 + 1) _ _ _ _ hW (lv_sub hl [1, 2, 3, 4, 5, 0] rfl) h
set_option maxRecDepth 4000 in
theorem w_X12_read_479 (N : Nat) (k469 : Int32 → Int32 → Int32 → St → Option (Int32 × St)) {r : Int32} {σ' : St} (C : xC KM g RX12 cX12_read 6 (some .int) p s m args meth c) (hk469 : ∀ (x1 : Int32) (x2 : Int32) (x3 : Int32) (σ : St) (H : Heap) (locs : List Loc) (ls : Array Slot), xW KM g s σ H locs → lv_has ls 6 [(0, .ref (g.q 0)), (1, .int x1), (2, .int x2), (3, .int x3)] → k469 x1 x2 x3 σ = some (r, σ') → W p l e rm_X12_read s m args below meth c H locs 0 0 (MQ below (xPost KM g (some (.int r)) σ') args s 0 0 (xA KM g.q)) (F0 m 469 ls [])) : ∀ (n : Nat), ∀ (x1 : Int32) (x2 : Int32) (x3 : Int32) (x4 : Int32) (σ : St) (H : Heap) (locs : List Loc) (ls : Array Slot), xW KM g s σ H locs → lv_has ls 6 [(0, .ref (g.q 0)), (1, .int x1), (2, .int x2), (3, .int x3), (4, .int x4)] → f_X12_read_479 N k469 n x1 x2 x3 x4 σ = some (r, σ') → W p l e rm_X12_read s m args below meth c H locs 0 0 (MQ below (xPost KM g (some (.int r)) σ') args s 0 0 (xA KM g.q)) (F0 m 479 ls []) := by
  have hx := C.1
  have hb := C.2.1
  intro n
  induction n with
  | zero => intro x1 x2 x3 x4 σ H locs ls hW hl h; rw [f_X12_read_479] at h; cases h
  | succ n ih =>
    intro x1 x2 x3 x4 σ H locs ls hW hl h
    rw [f_X12_read_479] at h
    refine lv_aload_n hx hb dX12_read_479 rfl (lv_at hl 0 rfl) ?_
    refine xg_r C hW fg_12_167 KM_0 rfl dX12_read_480 ?_
    refine lv_iload_n hx hb dX12_read_483 rfl (lv_at hl 3 rfl) ?_
    refine lv_iconst (v := 1) hx hb dX12_read_484 rfl ?_
    refine lv_iadd hx hb dX12_read_485 ?_
    obtain ⟨g48, h⟩ := xgd h
    refine xa_i C hW KM_51 g48 (x := σ.1 51 (x3 + 1).toNatClampNeg) rfl dX12_read_486 ?_
    refine lv_iload hx hb dX12_read_487 (lv_at hl 4 rfl) ?_
    refine lv_ishr hx hb dX12_read_489 ?_
    refine lv_iconst (v := 1) hx hb dX12_read_490 rfl ?_
    refine lv_iand hx hb dX12_read_491 ?_
    refine lv_if_eq (tgt := 523) hx hb dX12_read_492 (by decide) (fun c49 => ?_) (fun c49 => ?_)
    · have h := xit c49 h
      refine lv_iinc (v := x4 + 1) (lv' := [(4, .int (x4 + 1)), (0, .ref (g.q 0)), (1, .int x1), (2, .int x2), (3, .int x3)]) hx hb dX12_read_523 hl (k := 4) rfl rfl (Nat.le_of_ble_eq_true rfl) rfl (fun ls hl => ?_)
      refine lv_goto (tgt := 479) hx hb dX12_read_526 (by decide) ?_
      exact ih x1 x2 x3 (x4 + 1) _ _ _ _ hW (lv_sub hl [1, 2, 3, 4, 0] rfl) h
    · have h := xif c49 h
      refine lv_aload_n hx hb dX12_read_495 rfl (lv_at hl 0 rfl) ?_
      refine xg_r C hW fg_12_163 KM_0 rfl dX12_read_496 ?_
      refine lv_sipush (v := 576) hx hb dX12_read_499 rfl ?_
      refine lv_aload_n hx hb dX12_read_502 rfl (lv_at hl 0 rfl) ?_
      refine xg_r C hW fg_12_157 KM_0 rfl dX12_read_503 ?_
      refine lv_iload_n hx hb dX12_read_506 rfl (lv_at hl 3 rfl) ?_
      obtain ⟨g50, h⟩ := xgd h
      refine xa_i C hW KM_48 g50 (x := σ.1 48 x3.toNatClampNeg) rfl dX12_read_507 ?_
      refine lv_imul hx hb dX12_read_508 ?_
      refine lv_bipush (v := 24) hx hb dX12_read_509 rfl ?_
      refine lv_iload_n hx hb dX12_read_511 rfl (lv_at hl 2 rfl) ?_
      refine lv_imul hx hb dX12_read_512 ?_
      refine lv_iadd hx hb dX12_read_513 ?_
      refine lv_iload hx hb dX12_read_514 (lv_at hl 4 rfl) ?_
      refine lv_iadd hx hb dX12_read_516 ?_
      refine lv_iconst (v := 1) hx hb dX12_read_517 rfl ?_
      refine lv_isub hx hb dX12_read_518 ?_
      obtain ⟨g51, h⟩ := xgd h
      refine xa_z C hW KM_50 g51 (x := σ.1 50 ((((576 * (σ.1 48 x3.toNatClampNeg)) + (24 * x2)) + x4) - 1).toNatClampNeg) rfl dX12_read_519 ?_
      refine lv_if_ne (tgt := 529) hx hb dX12_read_520 (by decide) (fun c52 => ?_) (fun c52 => ?_)
      · have h := xif c52 h
        refine lv_aload_n hx hb dX12_read_529 rfl (lv_at hl 0 rfl) ?_
        refine xg_r C hW fg_12_160 KM_0 rfl dX12_read_530 ?_
        refine lv_iload_n hx hb dX12_read_533 rfl (lv_at hl 3 rfl) ?_
        refine lv_iload hx hb dX12_read_534 (lv_at hl 4 rfl) ?_
        refine lv_iload_n hx hb dX12_read_536 rfl (lv_at hl 2 rfl) ?_
        refine lv_isub hx hb dX12_read_537 ?_
        obtain ⟨g53, h⟩ := xgd h
        refine xs_i C hW KM_49 g53 dX12_read_538 (fun H locs hW => ?_)
        refine lv_iload hx hb dX12_read_539 (lv_at hl 4 rfl) ?_
        refine lv_istore_n (lv' := [(2, .int x4), (0, .ref (g.q 0)), (1, .int x1), (3, .int x3), (4, .int x4)]) hx hb dX12_read_541 rfl hl (Nat.le_of_ble_eq_true rfl) rfl (fun ls hl => ?_)
        refine lv_iinc (v := x3 + 1) (lv' := [(3, .int (x3 + 1)), (2, .int x4), (0, .ref (g.q 0)), (1, .int x1), (4, .int x4)]) hx hb dX12_read_542 hl (k := 3) rfl rfl (Nat.le_of_ble_eq_true rfl) rfl (fun ls hl => ?_)
        refine lv_goto (tgt := 469) hx hb dX12_read_545 (by decide) ?_
        exact hk469 x1 x4 (x3 + 1) _ _ _ _ hW (lv_sub hl [2, 3, 1, 0] rfl) h
      · have h := xit c52 h
        refine lv_iinc (v := x4 + 1) (lv' := [(4, .int (x4 + 1)), (0, .ref (g.q 0)), (1, .int x1), (2, .int x2), (3, .int x3)]) hx hb dX12_read_523 hl (k := 4) rfl rfl (Nat.le_of_ble_eq_true rfl) rfl (fun ls hl => ?_)
        refine lv_goto (tgt := 479) hx hb dX12_read_526 (by decide) ?_
        exact ih x1 x2 x3 (x4 + 1) _ _ _ _ hW (lv_sub hl [1, 2, 3, 4, 0] rfl) h
set_option maxRecDepth 4000 in
theorem w_X12_read_469 (N : Nat) {r : Int32} {σ' : St} (C : xC KM g RX12 cX12_read 6 (some .int) p s m args meth c) : ∀ (n : Nat), ∀ (x1 : Int32) (x2 : Int32) (x3 : Int32) (σ : St) (H : Heap) (locs : List Loc) (ls : Array Slot), xW KM g s σ H locs → lv_has ls 6 [(0, .ref (g.q 0)), (1, .int x1), (2, .int x2), (3, .int x3)] → f_X12_read_469 N n x1 x2 x3 σ = some (r, σ') → W p l e rm_X12_read s m args below meth c H locs 0 0 (MQ below (xPost KM g (some (.int r)) σ') args s 0 0 (xA KM g.q)) (F0 m 469 ls []) := by
  have hx := C.1
  have hb := C.2.1
  intro n
  induction n with
  | zero => intro x1 x2 x3 σ H locs ls hW hl h; rw [f_X12_read_469] at h; cases h
  | succ n ih =>
    intro x1 x2 x3 σ H locs ls hW hl h
    rw [f_X12_read_469] at h
    refine lv_iload_n hx hb dX12_read_469 rfl (lv_at hl 3 rfl) ?_
    refine lv_iload_n hx hb dX12_read_470 rfl (lv_at hl 1 rfl) ?_
    refine lv_icmp_ge (tgt := 548) hx hb dX12_read_471 (by decide) (fun c47 => ?_) (fun c47 => ?_)
    · have h := xit c47 h
      refine lv_aload_n hx hb dX12_read_548 rfl (lv_at hl 0 rfl) ?_
      refine lv_iload_n hx hb dX12_read_549 rfl (lv_at hl 1 rfl) ?_
      refine xp_i C hW fp_12_341 KM_0 rfl (v := 1074) rfl rfl rfl dX12_read_550 (fun H locs hW => ?_)
      refine lv_iload_n hx hb dX12_read_553 rfl (lv_at hl 1 rfl) ?_
      cases h
      exact xr_i C hW dX12_read_554
    · have h := xif c47 h
      refine lv_iload_n hx hb dX12_read_474 rfl (lv_at hl 2 rfl) ?_
      refine lv_iconst (v := 1) hx hb dX12_read_475 rfl ?_
      refine lv_iadd hx hb dX12_read_476 ?_
      refine lv_istore (lv' := [(4, .int (x2 + 1)), (0, .ref (g.q 0)), (1, .int x1), (2, .int x2), (3, .int x3)]) hx hb dX12_read_477 hl (Nat.le_of_ble_eq_true rfl) rfl (fun ls hl => ?_)
      exact w_X12_read_479 N (f_X12_read_469 N n) C ih N x1 x2 x3 (x2 + 1) _ _ _ _ hW (lv_sub hl [1, 2, 3, 4, 0] rfl) h
set_option maxRecDepth 4000 in
theorem w_X12_read_339 (N : Nat) {r : Int32} {σ' : St} (C : xC KM g RX12 cX12_read 6 (some .int) p s m args meth c) : ∀ (n : Nat), ∀ (x1 : Int32) (x2 : Int32) (σ : St) (H : Heap) (locs : List Loc) (ls : Array Slot), xW KM g s σ H locs → lv_has ls 6 [(0, .ref (g.q 0)), (1, .int x1), (2, .int x2)] → f_X12_read_339 N n x1 x2 σ = some (r, σ') → W p l e rm_X12_read s m args below meth c H locs 0 0 (MQ below (xPost KM g (some (.int r)) σ') args s 0 0 (xA KM g.q)) (F0 m 339 ls []) := by
  have hx := C.1
  have hb := C.2.1
  intro n
  induction n with
  | zero => intro x1 x2 σ H locs ls hW hl h; rw [f_X12_read_339] at h; cases h
  | succ n ih =>
    intro x1 x2 σ H locs ls hW hl h
    rw [f_X12_read_339] at h
    refine lv_iload_n hx hb dX12_read_339 rfl (lv_at hl 2 rfl) ?_
    refine lv_if_lt (tgt := 465) hx hb dX12_read_340 (by decide) (fun c36 => ?_) (fun c36 => ?_)
    · have h := xit c36 h
      refine lv_iconst (v := 0) hx hb dX12_read_465 rfl ?_
      refine lv_istore_n (lv' := [(2, .int 0), (0, .ref (g.q 0)), (1, .int x1)]) hx hb dX12_read_466 rfl hl (Nat.le_of_ble_eq_true rfl) rfl (fun ls hl => ?_)
      refine lv_iconst (v := 0) hx hb dX12_read_467 rfl ?_
      refine lv_istore_n (lv' := [(3, .int 0), (2, .int 0), (0, .ref (g.q 0)), (1, .int x1)]) hx hb dX12_read_468 rfl hl (Nat.le_of_ble_eq_true rfl) rfl (fun ls hl => ?_)
      exact w_X12_read_469 N C N x1 0 0 _ _ _ _ hW (lv_sub hl [2, 3, 1, 0] rfl) h
    · have h := xif c36 h
      refine lv_iconst (v := 0) hx hb dX12_read_343 rfl ?_
      refine lv_istore_n (lv' := [(3, .int 0), (0, .ref (g.q 0)), (1, .int x1), (2, .int x2)]) hx hb dX12_read_344 rfl hl (Nat.le_of_ble_eq_true rfl) rfl (fun ls hl => ?_)
      refine lv_iconst (v := 0) hx hb dX12_read_345 rfl ?_
      refine lv_istore (lv' := [(4, .int 0), (3, .int 0), (0, .ref (g.q 0)), (1, .int x1), (2, .int x2)]) hx hb dX12_read_346 hl (Nat.le_of_ble_eq_true rfl) rfl (fun ls hl => ?_)
      exact w_X12_read_348 N (f_X12_read_339 N n) C ih N x1 x2 0 0 _ _ _ _ hW (lv_sub hl [2, 3, 4, 1, 0] rfl) h
set_option maxRecDepth 4000 in
theorem w_X12_read_171 (N : Nat) {r : Int32} {σ' : St} (C : xC KM g RX12 cX12_read 6 (some .int) p s m args meth c) : ∀ (n : Nat), ∀ (x1 : Int32) (x2 : Int32) (σ : St) (H : Heap) (locs : List Loc) (ls : Array Slot), xW KM g s σ H locs → lv_has ls 6 [(0, .ref (g.q 0)), (1, .int x1), (2, .int x2)] → f_X12_read_171 N n x1 x2 σ = some (r, σ') → W p l e rm_X12_read s m args below meth c H locs 0 0 (MQ below (xPost KM g (some (.int r)) σ') args s 0 0 (xA KM g.q)) (F0 m 171 ls []) := by
  have hx := C.1
  have hb := C.2.1
  intro n
  induction n with
  | zero => intro x1 x2 σ H locs ls hW hl h; rw [f_X12_read_171] at h; cases h
  | succ n ih =>
    intro x1 x2 σ H locs ls hW hl h
    rw [f_X12_read_171] at h
    refine lv_iload_n hx hb dX12_read_171 rfl (lv_at hl 2 rfl) ?_
    refine lv_iload_n hx hb dX12_read_172 rfl (lv_at hl 1 rfl) ?_
    refine lv_icmp_ge (tgt := 335) hx hb dX12_read_173 (by decide) (fun c20 => ?_) (fun c20 => ?_)
    · have h := xit c20 h
      refine lv_iload_n hx hb dX12_read_335 rfl (lv_at hl 1 rfl) ?_
      refine lv_iconst (v := 1) hx hb dX12_read_336 rfl ?_
      refine lv_isub hx hb dX12_read_337 ?_
      refine lv_istore_n (lv' := [(2, .int (x1 - 1)), (0, .ref (g.q 0)), (1, .int x1)]) hx hb dX12_read_338 rfl hl (Nat.le_of_ble_eq_true rfl) rfl (fun ls hl => ?_)
      exact w_X12_read_339 N C N x1 (x1 - 1) _ _ _ _ hW (lv_sub hl [1, 2, 0] rfl) h
    · have h := xif c20 h
      refine lv_aload_n hx hb dX12_read_176 rfl (lv_at hl 0 rfl) ?_
      refine xg_r C hW fg_12_167 KM_0 rfl dX12_read_177 ?_
      refine lv_iload_n hx hb dX12_read_180 rfl (lv_at hl 2 rfl) ?_
      refine lv_iconst (v := 1) hx hb dX12_read_181 rfl ?_
      refine lv_iadd hx hb dX12_read_182 ?_
      refine lv_iconst (v := 0) hx hb dX12_read_183 rfl ?_
      obtain ⟨g21, h⟩ := xgd h
      refine xs_i C hW KM_51 g21 dX12_read_184 (fun H locs hW => ?_)
      refine lv_iconst (v := 0) hx hb dX12_read_185 rfl ?_
      refine lv_istore_n (lv' := [(3, .int 0), (0, .ref (g.q 0)), (1, .int x1), (2, .int x2)]) hx hb dX12_read_186 rfl hl (Nat.le_of_ble_eq_true rfl) rfl (fun ls hl => ?_)
      exact w_X12_read_187 N (f_X12_read_171 N n) C ih N x1 x2 0 _ _ _ _ hW (lv_sub hl [1, 2, 3, 0] rfl) h
set_option maxRecDepth 4000 in
theorem w_X12_read_23 (N : Nat) {r : Int32} {σ' : St} (C : xC KM g RX12 cX12_read 6 (some .int) p s m args meth c) : ∀ (n : Nat), ∀ (x1 : Int32) (σ : St) (H : Heap) (locs : List Loc) (ls : Array Slot), xW KM g s σ H locs → lv_has ls 6 [(0, .ref (g.q 0)), (1, .int x1)] → f_X12_read_23 N n x1 σ = some (r, σ') → W p l e rm_X12_read s m args below meth c H locs 0 0 (MQ below (xPost KM g (some (.int r)) σ') args s 0 0 (xA KM g.q)) (F0 m 23 ls []) := by
  have hx := C.1
  have hb := C.2.1
  intro n
  induction n with
  | zero => intro x1 σ H locs ls hW hl h; rw [f_X12_read_23] at h; cases h
  | succ n ih =>
    intro x1 σ H locs ls hW hl h
    rw [f_X12_read_23] at h
    refine lv_iload_n hx hb dX12_read_23 rfl (lv_at hl 1 rfl) ?_
    refine lv_if_lt (tgt := 141) hx hb dX12_read_24 (by decide) (fun c4 => ?_) (fun c4 => ?_)
    · have h := xit c4 h
      refine lv_aload_n hx hb dX12_read_141 rfl (lv_at hl 0 rfl) ?_
      refine xg_r C hW fg_12_154 KM_0 rfl dX12_read_142 ?_
      refine lv_iconst (v := 0) hx hb dX12_read_145 rfl ?_
      obtain ⟨g5, h⟩ := xgd h
      refine xa_i C hW KM_47 g5 (x := σ.1 47 0) rfl dX12_read_146 ?_
      refine lv_ldcw (v := 1000000000) hx hb C.ow (C.hts _ kc_X12_435) dX12_read_147 ?_
      refine lv_icmp_lt (tgt := 155) hx hb dX12_read_150 (by decide) (fun c6 => ?_) (fun c6 => ?_)
      · have h := xit c6 h
        refine lv_aload_n hx hb dX12_read_155 rfl (lv_at hl 0 rfl) ?_
        refine xg_r C hW fg_12_154 KM_0 rfl dX12_read_156 ?_
        refine lv_iconst (v := 0) hx hb dX12_read_159 rfl ?_
        obtain ⟨g7, h⟩ := xgd h
        refine xa_i C hW KM_47 g7 (x := σ.1 47 0) rfl dX12_read_160 ?_
        refine lv_istore_n (lv' := [(1, .int (σ.1 47 0)), (0, .ref (g.q 0))]) hx hb dX12_read_161 rfl hl (Nat.le_of_ble_eq_true rfl) rfl (fun ls hl => ?_)
        refine lv_aload_n hx hb dX12_read_162 rfl (lv_at hl 1 rfl) ?_
        refine xg_r C hW fg_12_167 KM_0 rfl dX12_read_163 ?_
        refine lv_iconst (v := 0) hx hb dX12_read_166 rfl ?_
        refine lv_iconst (v := 1) hx hb dX12_read_167 rfl ?_
        obtain ⟨g8, h⟩ := xgd h
        refine xs_i C hW KM_51 g8 dX12_read_168 (fun H locs hW => ?_)
        refine lv_iconst (v := 0) hx hb dX12_read_169 rfl ?_
        refine lv_istore_n (lv' := [(2, .int 0), (1, .int (σ.1 47 0)), (0, .ref (g.q 0))]) hx hb dX12_read_170 rfl hl (Nat.le_of_ble_eq_true rfl) rfl (fun ls hl => ?_)
        exact w_X12_read_171 N C N (σ.1 47 0) 0 _ _ _ _ hW (lv_sub hl [2, 1, 0] rfl) h
      · have h := xif c6 h
        refine lv_iconst (v := (-1)) hx hb dX12_read_153 rfl ?_
        cases h
        exact xr_i C hW dX12_read_154
    · have h := xif c4 h
      refine lv_aload_n hx hb dX12_read_27 rfl (lv_at hl 0 rfl) ?_
      refine xg_r C hW fg_12_154 KM_0 rfl dX12_read_28 ?_
      refine lv_iload_n hx hb dX12_read_31 rfl (lv_at hl 1 rfl) ?_
      refine lv_iload_n hx hb dX12_read_32 rfl (lv_at hl 1 rfl) ?_
      refine lv_aload_n hx hb dX12_read_33 rfl (lv_at hl 0 rfl) ?_
      refine xg_i C hW fg_12_332 KM_0 rfl (v := 1069) rfl (x := σ.1 1069 0) rfl dX12_read_34 ?_
      refine lv_icmp_ne (tgt := 44) hx hb dX12_read_37 (by decide) (fun c9 => ?_) (fun c9 => ?_)
      · have h := xif c9 h
        refine lv_ldcw (v := 1000000000) hx hb C.ow (C.hts _ kc_X12_435) dX12_read_44 ?_
        exact w_X12_read_47 N (f_X12_read_23 N n) C ih x1 x1 1000000000 _ _ _ _ hW (lv_sub hl [0, 1] rfl) h
      · have h := xit c9 h
        refine lv_iconst (v := 0) hx hb dX12_read_40 rfl ?_
        refine lv_goto (tgt := 47) hx hb dX12_read_41 (by decide) ?_
        exact w_X12_read_47 N (f_X12_read_23 N n) C ih x1 x1 0 _ _ _ _ hW (lv_sub hl [0, 1] rfl) h
set_option maxRecDepth 4000 in
theorem m_X12_read (N : Nat) (σ : St) {r : Int32} {σ' : St} (h : f_X12_read N σ = some (r, σ')) : xM l KM g yX12_read cX12_read 6 (some .int) rm_X12_read [.ref (g.q 0)] σ (some (.int r)) σ' := by
  refine xmet pn_X12 rfl (Nat.le_of_ble_eq_true rfl) (lv := [(0, .ref (g.q 0))]) rfl (fun p e s m args below meth c ls C hW hl => ?_)
  have hx := C.1
  have hb := C.2.1
  unfold f_X12_read at h
  refine lv_aload_n hx hb dX12_read_0 rfl (lv_at hl 0 rfl) ?_
  refine xg_i C hW fg_12_332 KM_0 rfl (v := 1069) rfl (x := σ.1 1069 0) rfl dX12_read_1 ?_
  refine lv_if_ne (tgt := 10) hx hb dX12_read_4 (by decide) (fun c1 => ?_) (fun c1 => ?_)
  · have h := xif c1 h
    refine lv_aload_n hx hb dX12_read_10 rfl (lv_at hl 0 rfl) ?_
    obtain ⟨σ2, e2, h⟩ := xbo h
    refine xc_V (As := []) (rest := []) C hW (m_X12_asListed N _ e2) mf_X12_asListed mv_X12_asListed ml_X12_462 ⟨rfl, rfl⟩ ⟨Nat.le_of_ble_eq_true rfl, Nat.le_of_ble_eq_true rfl⟩ KM_0 rfl hl.1 rfl rfl (Nat.le_of_ble_eq_true rfl) dX12_read_11 (fun H locs hW => W.eq (g2 := F0 m 14 ls []) rfl ?_)
    refine lv_aload_n hx hb dX12_read_14 rfl (lv_at hl 0 rfl) ?_
    obtain ⟨σ3, e3, h⟩ := xbo h
    refine xc_V (As := []) (rest := []) C hW (m_X12_makeSpells N _ e3) mf_X12_makeSpells mv_X12_makeSpells ml_X12_486 ⟨rfl, rfl⟩ ⟨Nat.le_of_ble_eq_true rfl, Nat.le_of_ble_eq_true rfl⟩ KM_0 rfl hl.1 rfl rfl (Nat.le_of_ble_eq_true rfl) dX12_read_15 (fun H locs hW => W.eq (g2 := F0 m 18 ls []) rfl ?_)
    refine lv_aload_n hx hb dX12_read_18 rfl (lv_at hl 0 rfl) ?_
    refine xg_i C hW fg_12_332 KM_0 rfl (v := 1069) rfl (x := σ3.1 1069 0) rfl dX12_read_19 ?_
    refine lv_istore_n (lv' := [(1, .int (σ3.1 1069 0)), (0, .ref (g.q 0))]) hx hb dX12_read_22 rfl hl (Nat.le_of_ble_eq_true rfl) rfl (fun ls hl => ?_)
    exact w_X12_read_23 N C N (σ3.1 1069 0) _ _ _ _ hW (lv_sub hl [1, 0] rfl) h
  · have h := xit c1 h
    refine lv_bipush (v := (-4)) hx hb dX12_read_7 rfl ?_
    cases h
    exact xr_i C hW dX12_read_9
end
theorem dX12_readTerm_0 : decode cX12_readTerm 0 = .ok (.iload_n 1, 1) := by decide +kernel
theorem dX12_readTerm_1 : decode cX12_readTerm 1 = .ok (.iconst 0, 1) := by decide +kernel
theorem dX12_readTerm_2 : decode cX12_readTerm 2 = .ok (.aload_n 0, 1) := by decide +kernel
theorem dX12_readTerm_3 : decode cX12_readTerm 3 = .ok (.getfield 341, 3) := by decide +kernel
theorem dX12_readTerm_6 : decode cX12_readTerm 6 = .ok (.iconst 1, 1) := by decide +kernel
theorem dX12_readTerm_7 : decode cX12_readTerm 7 = .ok (.isub, 1) := by decide +kernel
theorem dX12_readTerm_8 : decode cX12_readTerm 8 = .ok (.invokestatic 295, 3) := by decide +kernel
theorem dX12_readTerm_11 : decode cX12_readTerm 11 = .ok (.ifCond .ne 5, 3) := by decide +kernel
theorem dX12_readTerm_14 : decode cX12_readTerm 14 = .ok (.iconst (-1), 1) := by decide +kernel
theorem dX12_readTerm_15 : decode cX12_readTerm 15 = .ok (.ireturn, 1) := by decide +kernel
theorem dX12_readTerm_16 : decode cX12_readTerm 16 = .ok (.iload_n 2, 1) := by decide +kernel
theorem dX12_readTerm_17 : decode cX12_readTerm 17 = .ok (.ifCond .ne 12, 3) := by decide +kernel
theorem dX12_readTerm_20 : decode cX12_readTerm 20 = .ok (.aload_n 0, 1) := by decide +kernel
theorem dX12_readTerm_21 : decode cX12_readTerm 21 = .ok (.getfield 157, 3) := by decide +kernel
theorem dX12_readTerm_24 : decode cX12_readTerm 24 = .ok (.iload_n 1, 1) := by decide +kernel
theorem dX12_readTerm_25 : decode cX12_readTerm 25 = .ok (.iaload, 1) := by decide +kernel
theorem dX12_readTerm_26 : decode cX12_readTerm 26 = .ok (.goto 18, 3) := by decide +kernel
theorem dX12_readTerm_29 : decode cX12_readTerm 29 = .ok (.iload_n 2, 1) := by decide +kernel
theorem dX12_readTerm_30 : decode cX12_readTerm 30 = .ok (.iconst 1, 1) := by decide +kernel
theorem dX12_readTerm_31 : decode cX12_readTerm 31 = .ok (.if_icmp .ne 12, 3) := by decide +kernel
theorem dX12_readTerm_34 : decode cX12_readTerm 34 = .ok (.aload_n 0, 1) := by decide +kernel
theorem dX12_readTerm_35 : decode cX12_readTerm 35 = .ok (.getfield 160, 3) := by decide +kernel
theorem dX12_readTerm_38 : decode cX12_readTerm 38 = .ok (.iload_n 1, 1) := by decide +kernel
theorem dX12_readTerm_39 : decode cX12_readTerm 39 = .ok (.iaload, 1) := by decide +kernel
theorem dX12_readTerm_40 : decode cX12_readTerm 40 = .ok (.goto 4, 3) := by decide +kernel
theorem dX12_readTerm_43 : decode cX12_readTerm 43 = .ok (.iconst (-1), 1) := by decide +kernel
theorem dX12_readTerm_44 : decode cX12_readTerm 44 = .ok (.ireturn, 1) := by decide +kernel
abbrev rm_X12_readTerm : Room := { frames := 1, cells := 0, slots := 0, locals := 22 }
def f_X12_readTerm (x1 : Int32) (x2 : Int32) (σ : St) : Option Int32 := (if (f_X12_in x1 0 ((σ.1 1074 0) - 1) σ) = 0 then some ((-1)) else (if x2 = 0 then grd (ib x1 24) (some (σ.1 48 x1.toNatClampNeg)) else (if x2 = 1 then grd (ib x1 24) (some (σ.1 49 x1.toNatClampNeg)) else some ((-1)))))
section
variable {p : Program} {l : Launch} {e : Env} {s : State} {m : MethodId} {args : Array Value} {below : List Frame} {meth : Method} {c : Code} {g : XG}
set_option maxRecDepth 4000 in
theorem m_X12_readTerm (x1 : Int32) (x2 : Int32) (σ : St) {r : Int32} (h : f_X12_readTerm x1 x2 σ = some r) : xM l KM g yX12_readTerm cX12_readTerm 3 (some .int) rm_X12_readTerm [.ref (g.q 0), .int x1, .int x2] σ (some (.int r)) σ := by
  refine xmet pn_X12 rfl (Nat.le_of_ble_eq_true rfl) (lv := [(0, .ref (g.q 0)), (1, .int x1), (2, .int x2)]) rfl (fun p e s m args below meth c ls C hW hl => ?_)
  have hx := C.1
  have hb := C.2.1
  unfold f_X12_readTerm at h
  refine lv_iload_n hx hb dX12_readTerm_0 rfl (lv_at hl 1 rfl) ?_
  refine lv_iconst (v := 0) hx hb dX12_readTerm_1 rfl ?_
  refine lv_aload_n hx hb dX12_readTerm_2 rfl (lv_at hl 0 rfl) ?_
  refine xg_i C hW fg_12_341 KM_0 rfl (v := 1074) rfl (x := σ.1 1074 0) rfl dX12_readTerm_3 ?_
  refine lv_iconst (v := 1) hx hb dX12_readTerm_6 rfl ?_
  refine lv_isub hx hb dX12_readTerm_7 ?_
  refine xc_S (As := [.int x1, .int 0, .int ((σ.1 1074 0) - 1)]) (rest := []) C hW (m_X12_in x1 0 ((σ.1 1074 0) - 1) _ rfl) mf_X12_in mt_X12_in ml_X12_295 ⟨rfl, rfl⟩ ⟨Nat.le_of_ble_eq_true rfl, Nat.le_of_ble_eq_true rfl⟩ hl.1 rfl rfl (Nat.le_of_ble_eq_true rfl) dX12_readTerm_8 (fun H locs hW => W.eq (g2 := F0 m 11 ls [.int (f_X12_in x1 0 ((σ.1 1074 0) - 1) σ)]) rfl ?_)
  refine lv_if_ne (tgt := 16) hx hb dX12_readTerm_11 (by decide) (fun c1 => ?_) (fun c1 => ?_)
  · have h := xif c1 h
    refine lv_iload_n hx hb dX12_readTerm_16 rfl (lv_at hl 2 rfl) ?_
    refine lv_if_ne (tgt := 29) hx hb dX12_readTerm_17 (by decide) (fun c2 => ?_) (fun c2 => ?_)
    · have h := xif c2 h
      refine lv_iload_n hx hb dX12_readTerm_29 rfl (lv_at hl 2 rfl) ?_
      refine lv_iconst (v := 1) hx hb dX12_readTerm_30 rfl ?_
      refine lv_icmp_ne (tgt := 43) hx hb dX12_readTerm_31 (by decide) (fun c3 => ?_) (fun c3 => ?_)
      · have h := xif c3 h
        refine lv_iconst (v := (-1)) hx hb dX12_readTerm_43 rfl ?_
        cases h
        exact xr_i C hW dX12_readTerm_44
      · have h := xit c3 h
        refine lv_aload_n hx hb dX12_readTerm_34 rfl (lv_at hl 0 rfl) ?_
        refine xg_r C hW fg_12_160 KM_0 rfl dX12_readTerm_35 ?_
        refine lv_iload_n hx hb dX12_readTerm_38 rfl (lv_at hl 1 rfl) ?_
        obtain ⟨g4, h⟩ := xgd h
        refine xa_i C hW KM_49 g4 (x := σ.1 49 x1.toNatClampNeg) rfl dX12_readTerm_39 ?_
        refine lv_goto (tgt := 44) hx hb dX12_readTerm_40 (by decide) ?_
        cases h
        exact xr_i C hW dX12_readTerm_44
    · have h := xit c2 h
      refine lv_aload_n hx hb dX12_readTerm_20 rfl (lv_at hl 0 rfl) ?_
      refine xg_r C hW fg_12_157 KM_0 rfl dX12_readTerm_21 ?_
      refine lv_iload_n hx hb dX12_readTerm_24 rfl (lv_at hl 1 rfl) ?_
      obtain ⟨g5, h⟩ := xgd h
      refine xa_i C hW KM_48 g5 (x := σ.1 48 x1.toNatClampNeg) rfl dX12_readTerm_25 ?_
      refine lv_goto (tgt := 44) hx hb dX12_readTerm_26 (by decide) ?_
      cases h
      exact xr_i C hW dX12_readTerm_44
  · have h := xit c1 h
    refine lv_iconst (v := (-1)) hx hb dX12_readTerm_14 rfl ?_
    cases h
    exact xr_i C hW dX12_readTerm_15
end
