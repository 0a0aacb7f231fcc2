theorem dX12_bestOf_0 : decode cX12_bestOf 0 = .ok (.aload_n 0, 1) := by decide +kernel
theorem dX12_bestOf_1 : decode cX12_bestOf 1 = .ok (.invokevirtual 462, 3) := by decide +kernel
theorem dX12_bestOf_4 : decode cX12_bestOf 4 = .ok (.iconst (-1), 1) := by decide +kernel
theorem dX12_bestOf_5 : decode cX12_bestOf 5 = .ok (.istore_n 2, 1) := by decide +kernel
theorem dX12_bestOf_6 : decode cX12_bestOf 6 = .ok (.iconst 0, 1) := by decide +kernel
theorem dX12_bestOf_7 : decode cX12_bestOf 7 = .ok (.istore_n 3, 1) := by decide +kernel
theorem dX12_bestOf_8 : decode cX12_bestOf 8 = .ok (.iload_n 3, 1) := by decide +kernel
theorem dX12_bestOf_9 : decode cX12_bestOf 9 = .ok (.aload_n 0, 1) := by decide +kernel
theorem dX12_bestOf_10 : decode cX12_bestOf 10 = .ok (.getfield 21, 3) := by decide +kernel
theorem dX12_bestOf_13 : decode cX12_bestOf 13 = .ok (.iconst 0, 1) := by decide +kernel
theorem dX12_bestOf_14 : decode cX12_bestOf 14 = .ok (.iaload, 1) := by decide +kernel
theorem dX12_bestOf_15 : decode cX12_bestOf 15 = .ok (.if_icmp .ge 49, 3) := by decide +kernel
theorem dX12_bestOf_18 : decode cX12_bestOf 18 = .ok (.aload_n 0, 1) := by decide +kernel
theorem dX12_bestOf_19 : decode cX12_bestOf 19 = .ok (.getfield 112, 3) := by decide +kernel
theorem dX12_bestOf_22 : decode cX12_bestOf 22 = .ok (.iload_n 1, 1) := by decide +kernel
theorem dX12_bestOf_23 : decode cX12_bestOf 23 = .ok (.laload, 1) := by decide +kernel
theorem dX12_bestOf_24 : decode cX12_bestOf 24 = .ok (.lconst 0, 1) := by decide +kernel
theorem dX12_bestOf_25 : decode cX12_bestOf 25 = .ok (.lcmp, 1) := by decide +kernel
theorem dX12_bestOf_26 : decode cX12_bestOf 26 = .ok (.ifCond .eq 38, 3) := by decide +kernel
theorem dX12_bestOf_29 : decode cX12_bestOf 29 = .ok (.aload_n 0, 1) := by decide +kernel
theorem dX12_bestOf_30 : decode cX12_bestOf 30 = .ok (.iload_n 3, 1) := by decide +kernel
theorem dX12_bestOf_31 : decode cX12_bestOf 31 = .ok (.iload_n 1, 1) := by decide +kernel
theorem dX12_bestOf_32 : decode cX12_bestOf 32 = .ok (.invokevirtual 417, 3) := by decide +kernel
theorem dX12_bestOf_35 : decode cX12_bestOf 35 = .ok (.ifCond .eq 23, 3) := by decide +kernel
theorem dX12_bestOf_38 : decode cX12_bestOf 38 = .ok (.iload_n 2, 1) := by decide +kernel
theorem dX12_bestOf_39 : decode cX12_bestOf 39 = .ok (.iconst (-1), 1) := by decide +kernel
theorem dX12_bestOf_40 : decode cX12_bestOf 40 = .ok (.if_icmp .eq 16, 3) := by decide +kernel
theorem dX12_bestOf_43 : decode cX12_bestOf 43 = .ok (.aload_n 0, 1) := by decide +kernel
theorem dX12_bestOf_44 : decode cX12_bestOf 44 = .ok (.iload_n 3, 1) := by decide +kernel
theorem dX12_bestOf_45 : decode cX12_bestOf 45 = .ok (.invokevirtual 473, 3) := by decide +kernel
theorem dX12_bestOf_48 : decode cX12_bestOf 48 = .ok (.aload_n 0, 1) := by decide +kernel
theorem dX12_bestOf_49 : decode cX12_bestOf 49 = .ok (.iload_n 2, 1) := by decide +kernel
theorem dX12_bestOf_50 : decode cX12_bestOf 50 = .ok (.invokevirtual 473, 3) := by decide +kernel
theorem dX12_bestOf_53 : decode cX12_bestOf 53 = .ok (.if_icmp .ge 5, 3) := by decide +kernel
theorem dX12_bestOf_56 : decode cX12_bestOf 56 = .ok (.iload_n 3, 1) := by decide +kernel
theorem dX12_bestOf_57 : decode cX12_bestOf 57 = .ok (.istore_n 2, 1) := by decide +kernel
theorem dX12_bestOf_58 : decode cX12_bestOf 58 = .ok (.iinc 3 1, 3) := by decide +kernel
theorem dX12_bestOf_61 : decode cX12_bestOf 61 = .ok (.goto (-53), 3) := by decide +kernel
theorem dX12_bestOf_64 : decode cX12_bestOf 64 = .ok (.aload_n 0, 1) := by decide +kernel
theorem dX12_bestOf_65 : decode cX12_bestOf 65 = .ok (.getfield 112, 3) := by decide +kernel
theorem dX12_bestOf_68 : decode cX12_bestOf 68 = .ok (.iload_n 1, 1) := by decide +kernel
theorem dX12_bestOf_69 : decode cX12_bestOf 69 = .ok (.laload, 1) := by decide +kernel
theorem dX12_bestOf_70 : decode cX12_bestOf 70 = .ok (.lconst 0, 1) := by decide +kernel
theorem dX12_bestOf_71 : decode cX12_bestOf 71 = .ok (.lcmp, 1) := by decide +kernel
theorem dX12_bestOf_72 : decode cX12_bestOf 72 = .ok (.ifCond .eq 10, 3) := by decide +kernel
theorem dX12_bestOf_75 : decode cX12_bestOf 75 = .ok (.iload_n 2, 1) := by decide +kernel
theorem dX12_bestOf_76 : decode cX12_bestOf 76 = .ok (.iconst (-1), 1) := by decide +kernel
theorem dX12_bestOf_77 : decode cX12_bestOf 77 = .ok (.if_icmp .ne 5, 3) := by decide +kernel
theorem dX12_bestOf_80 : decode cX12_bestOf 80 = .ok (.iconst (-1), 1) := by decide +kernel
theorem dX12_bestOf_81 : decode cX12_bestOf 81 = .ok (.ireturn, 1) := by decide +kernel
theorem dX12_bestOf_82 : decode cX12_bestOf 82 = .ok (.aload_n 0, 1) := by decide +kernel
theorem dX12_bestOf_83 : decode cX12_bestOf 83 = .ok (.getfield 106, 3) := by decide +kernel
theorem dX12_bestOf_86 : decode cX12_bestOf 86 = .ok (.iload_n 1, 1) := by decide +kernel
theorem dX12_bestOf_87 : decode cX12_bestOf 87 = .ok (.iaload, 1) := by decide +kernel
theorem dX12_bestOf_88 : decode cX12_bestOf 88 = .ok (.istore_n 3, 1) := by decide +kernel
theorem dX12_bestOf_89 : decode cX12_bestOf 89 = .ok (.iload_n 3, 1) := by decide +kernel
theorem dX12_bestOf_90 : decode cX12_bestOf 90 = .ok (.ifCond .lt 204, 3) := by decide +kernel
theorem dX12_bestOf_93 : decode cX12_bestOf 93 = .ok (.aload_n 0, 1) := by decide +kernel
theorem dX12_bestOf_94 : decode cX12_bestOf 94 = .ok (.getfield 133, 3) := by decide +kernel
theorem dX12_bestOf_97 : decode cX12_bestOf 97 = .ok (.iload_n 3, 1) := by decide +kernel
theorem dX12_bestOf_98 : decode cX12_bestOf 98 = .ok (.iload_n 3, 1) := by decide +kernel
theorem dX12_bestOf_99 : decode cX12_bestOf 99 = .ok (.aload_n 0, 1) := by decide +kernel
theorem dX12_bestOf_100 : decode cX12_bestOf 100 = .ok (.getfield 106, 3) := by decide +kernel
theorem dX12_bestOf_103 : decode cX12_bestOf 103 = .ok (.iload_n 1, 1) := by decide +kernel
theorem dX12_bestOf_104 : decode cX12_bestOf 104 = .ok (.iaload, 1) := by decide +kernel
theorem dX12_bestOf_105 : decode cX12_bestOf 105 = .ok (.if_icmp .ne 7, 3) := by decide +kernel
theorem dX12_bestOf_108 : decode cX12_bestOf 108 = .ok (.iconst 0, 1) := by decide +kernel
theorem dX12_bestOf_109 : decode cX12_bestOf 109 = .ok (.goto 6, 3) := by decide +kernel
theorem dX12_bestOf_112 : decode cX12_bestOf 112 = .ok (.ldc_w 435, 3) := by decide +kernel
theorem dX12_bestOf_115 : decode cX12_bestOf 115 = .ok (.iastore, 1) := by decide +kernel
theorem dX12_bestOf_116 : decode cX12_bestOf 116 = .ok (.aload_n 0, 1) := by decide +kernel
theorem dX12_bestOf_117 : decode cX12_bestOf 117 = .ok (.getfield 136, 3) := by decide +kernel
theorem dX12_bestOf_120 : decode cX12_bestOf 120 = .ok (.iload_n 3, 1) := by decide +kernel
theorem dX12_bestOf_121 : decode cX12_bestOf 121 = .ok (.iconst 0, 1) := by decide +kernel
theorem dX12_bestOf_122 : decode cX12_bestOf 122 = .ok (.iastore, 1) := by decide +kernel
theorem dX12_bestOf_123 : decode cX12_bestOf 123 = .ok (.iconst 0, 1) := by decide +kernel
theorem dX12_bestOf_124 : decode cX12_bestOf 124 = .ok (.istore 4, 2) := by decide +kernel
theorem dX12_bestOf_126 : decode cX12_bestOf 126 = .ok (.iload 4, 2) := by decide +kernel
theorem dX12_bestOf_128 : decode cX12_bestOf 128 = .ok (.aload_n 0, 1) := by decide +kernel
theorem dX12_bestOf_129 : decode cX12_bestOf 129 = .ok (.getfield 21, 3) := by decide +kernel
theorem dX12_bestOf_132 : decode cX12_bestOf 132 = .ok (.iconst 0, 1) := by decide +kernel
theorem dX12_bestOf_133 : decode cX12_bestOf 133 = .ok (.iaload, 1) := by decide +kernel
theorem dX12_bestOf_134 : decode cX12_bestOf 134 = .ok (.if_icmp .ge 154, 3) := by decide +kernel
theorem dX12_bestOf_137 : decode cX12_bestOf 137 = .ok (.iload_n 3, 1) := by decide +kernel
theorem dX12_bestOf_138 : decode cX12_bestOf 138 = .ok (.aload_n 0, 1) := by decide +kernel
theorem dX12_bestOf_139 : decode cX12_bestOf 139 = .ok (.getfield 106, 3) := by decide +kernel
theorem dX12_bestOf_142 : decode cX12_bestOf 142 = .ok (.iload_n 1, 1) := by decide +kernel
theorem dX12_bestOf_143 : decode cX12_bestOf 143 = .ok (.iaload, 1) := by decide +kernel
theorem dX12_bestOf_144 : decode cX12_bestOf 144 = .ok (.if_icmp .ge 144, 3) := by decide +kernel
theorem dX12_bestOf_147 : decode cX12_bestOf 147 = .ok (.aload_n 0, 1) := by decide +kernel
theorem dX12_bestOf_148 : decode cX12_bestOf 148 = .ok (.iload 4, 2) := by decide +kernel
theorem dX12_bestOf_150 : decode cX12_bestOf 150 = .ok (.iload_n 1, 1) := by decide +kernel
theorem dX12_bestOf_151 : decode cX12_bestOf 151 = .ok (.iload_n 3, 1) := by decide +kernel
theorem dX12_bestOf_152 : decode cX12_bestOf 152 = .ok (.invokevirtual 414, 3) := by decide +kernel
theorem dX12_bestOf_155 : decode cX12_bestOf 155 = .ok (.ifCond .eq 127, 3) := by decide +kernel
theorem dX12_bestOf_158 : decode cX12_bestOf 158 = .ok (.aload_n 0, 1) := by decide +kernel
theorem dX12_bestOf_159 : decode cX12_bestOf 159 = .ok (.getfield 133, 3) := by decide +kernel
theorem dX12_bestOf_162 : decode cX12_bestOf 162 = .ok (.iload_n 3, 1) := by decide +kernel
theorem dX12_bestOf_163 : decode cX12_bestOf 163 = .ok (.aload_n 0, 1) := by decide +kernel
theorem dX12_bestOf_164 : decode cX12_bestOf 164 = .ok (.getfield 118, 3) := by decide +kernel
theorem dX12_bestOf_167 : decode cX12_bestOf 167 = .ok (.iload 4, 2) := by decide +kernel
theorem dX12_bestOf_169 : decode cX12_bestOf 169 = .ok (.iaload, 1) := by decide +kernel
theorem dX12_bestOf_170 : decode cX12_bestOf 170 = .ok (.iadd, 1) := by decide +kernel
theorem dX12_bestOf_171 : decode cX12_bestOf 171 = .ok (.iaload, 1) := by decide +kernel
theorem dX12_bestOf_172 : decode cX12_bestOf 172 = .ok (.ldc_w 435, 3) := by decide +kernel
theorem dX12_bestOf_175 : decode cX12_bestOf 175 = .ok (.if_icmp .lt 6, 3) := by decide +kernel
theorem dX12_bestOf_178 : decode cX12_bestOf 178 = .ok (.goto 104, 3) := by decide +kernel
theorem dX12_bestOf_181 : decode cX12_bestOf 181 = .ok (.aload_n 0, 1) := by decide +kernel
theorem dX12_bestOf_182 : decode cX12_bestOf 182 = .ok (.iload 4, 2) := by decide +kernel
theorem dX12_bestOf_184 : decode cX12_bestOf 184 = .ok (.invokevirtual 473, 3) := by decide +kernel
theorem dX12_bestOf_187 : decode cX12_bestOf 187 = .ok (.aload_n 0, 1) := by decide +kernel
theorem dX12_bestOf_188 : decode cX12_bestOf 188 = .ok (.getfield 133, 3) := by decide +kernel
theorem dX12_bestOf_191 : decode cX12_bestOf 191 = .ok (.iload_n 3, 1) := by decide +kernel
theorem dX12_bestOf_192 : decode cX12_bestOf 192 = .ok (.aload_n 0, 1) := by decide +kernel
theorem dX12_bestOf_193 : decode cX12_bestOf 193 = .ok (.getfield 118, 3) := by decide +kernel
theorem dX12_bestOf_196 : decode cX12_bestOf 196 = .ok (.iload 4, 2) := by decide +kernel
theorem dX12_bestOf_198 : decode cX12_bestOf 198 = .ok (.iaload, 1) := by decide +kernel
theorem dX12_bestOf_199 : decode cX12_bestOf 199 = .ok (.iadd, 1) := by decide +kernel
theorem dX12_bestOf_200 : decode cX12_bestOf 200 = .ok (.iaload, 1) := by decide +kernel
theorem dX12_bestOf_201 : decode cX12_bestOf 201 = .ok (.iadd, 1) := by decide +kernel
theorem dX12_bestOf_202 : decode cX12_bestOf 202 = .ok (.istore 5, 2) := by decide +kernel
theorem dX12_bestOf_204 : decode cX12_bestOf 204 = .ok (.iconst 1, 1) := by decide +kernel
theorem dX12_bestOf_205 : decode cX12_bestOf 205 = .ok (.aload_n 0, 1) := by decide +kernel
theorem dX12_bestOf_206 : decode cX12_bestOf 206 = .ok (.getfield 136, 3) := by decide +kernel
theorem dX12_bestOf_209 : decode cX12_bestOf 209 = .ok (.iload_n 3, 1) := by decide +kernel
theorem dX12_bestOf_210 : decode cX12_bestOf 210 = .ok (.aload_n 0, 1) := by decide +kernel
theorem dX12_bestOf_211 : decode cX12_bestOf 211 = .ok (.getfield 118, 3) := by decide +kernel
theorem dX12_bestOf_214 : decode cX12_bestOf 214 = .ok (.iload 4, 2) := by decide +kernel
theorem dX12_bestOf_216 : decode cX12_bestOf 216 = .ok (.iaload, 1) := by decide +kernel
theorem dX12_bestOf_217 : decode cX12_bestOf 217 = .ok (.iadd, 1) := by decide +kernel
theorem dX12_bestOf_218 : decode cX12_bestOf 218 = .ok (.iaload, 1) := by decide +kernel
theorem dX12_bestOf_219 : decode cX12_bestOf 219 = .ok (.iadd, 1) := by decide +kernel
theorem dX12_bestOf_220 : decode cX12_bestOf 220 = .ok (.istore 6, 2) := by decide +kernel
theorem dX12_bestOf_222 : decode cX12_bestOf 222 = .ok (.iload 5, 2) := by decide +kernel
theorem dX12_bestOf_224 : decode cX12_bestOf 224 = .ok (.aload_n 0, 1) := by decide +kernel
theorem dX12_bestOf_225 : decode cX12_bestOf 225 = .ok (.getfield 133, 3) := by decide +kernel
theorem dX12_bestOf_228 : decode cX12_bestOf 228 = .ok (.iload_n 3, 1) := by decide +kernel
theorem dX12_bestOf_229 : decode cX12_bestOf 229 = .ok (.iaload, 1) := by decide +kernel
theorem dX12_bestOf_230 : decode cX12_bestOf 230 = .ok (.if_icmp .gt 52, 3) := by decide +kernel
theorem dX12_bestOf_233 : decode cX12_bestOf 233 = .ok (.iload 5, 2) := by decide +kernel
theorem dX12_bestOf_235 : decode cX12_bestOf 235 = .ok (.aload_n 0, 1) := by decide +kernel
theorem dX12_bestOf_236 : decode cX12_bestOf 236 = .ok (.getfield 133, 3) := by decide +kernel
theorem dX12_bestOf_239 : decode cX12_bestOf 239 = .ok (.iload_n 3, 1) := by decide +kernel
theorem dX12_bestOf_240 : decode cX12_bestOf 240 = .ok (.iaload, 1) := by decide +kernel
theorem dX12_bestOf_241 : decode cX12_bestOf 241 = .ok (.if_icmp .ne 17, 3) := by decide +kernel
theorem dX12_bestOf_244 : decode cX12_bestOf 244 = .ok (.iload 6, 2) := by decide +kernel
theorem dX12_bestOf_246 : decode cX12_bestOf 246 = .ok (.aload_n 0, 1) := by decide +kernel
theorem dX12_bestOf_247 : decode cX12_bestOf 247 = .ok (.getfield 136, 3) := by decide +kernel
theorem dX12_bestOf_250 : decode cX12_bestOf 250 = .ok (.iload_n 3, 1) := by decide +kernel
theorem dX12_bestOf_251 : decode cX12_bestOf 251 = .ok (.iaload, 1) := by decide +kernel
theorem dX12_bestOf_252 : decode cX12_bestOf 252 = .ok (.if_icmp .lt 6, 3) := by decide +kernel
theorem dX12_bestOf_255 : decode cX12_bestOf 255 = .ok (.goto 27, 3) := by decide +kernel
theorem dX12_bestOf_258 : decode cX12_bestOf 258 = .ok (.aload_n 0, 1) := by decide +kernel
theorem dX12_bestOf_259 : decode cX12_bestOf 259 = .ok (.getfield 133, 3) := by decide +kernel
theorem dX12_bestOf_262 : decode cX12_bestOf 262 = .ok (.iload_n 3, 1) := by decide +kernel
theorem dX12_bestOf_263 : decode cX12_bestOf 263 = .ok (.iload 5, 2) := by decide +kernel
theorem dX12_bestOf_265 : decode cX12_bestOf 265 = .ok (.iastore, 1) := by decide +kernel
theorem dX12_bestOf_266 : decode cX12_bestOf 266 = .ok (.aload_n 0, 1) := by decide +kernel
theorem dX12_bestOf_267 : decode cX12_bestOf 267 = .ok (.getfield 136, 3) := by decide +kernel
theorem dX12_bestOf_270 : decode cX12_bestOf 270 = .ok (.iload_n 3, 1) := by decide +kernel
theorem dX12_bestOf_271 : decode cX12_bestOf 271 = .ok (.iload 6, 2) := by decide +kernel
theorem dX12_bestOf_273 : decode cX12_bestOf 273 = .ok (.iastore, 1) := by decide +kernel
theorem dX12_bestOf_274 : decode cX12_bestOf 274 = .ok (.aload_n 0, 1) := by decide +kernel
theorem dX12_bestOf_275 : decode cX12_bestOf 275 = .ok (.getfield 139, 3) := by decide +kernel
theorem dX12_bestOf_278 : decode cX12_bestOf 278 = .ok (.iload_n 3, 1) := by decide +kernel
theorem dX12_bestOf_279 : decode cX12_bestOf 279 = .ok (.iload 4, 2) := by decide +kernel
theorem dX12_bestOf_281 : decode cX12_bestOf 281 = .ok (.iastore, 1) := by decide +kernel
theorem dX12_bestOf_282 : decode cX12_bestOf 282 = .ok (.iinc 4 1, 3) := by decide +kernel
theorem dX12_bestOf_285 : decode cX12_bestOf 285 = .ok (.goto (-159), 3) := by decide +kernel
theorem dX12_bestOf_288 : decode cX12_bestOf 288 = .ok (.iinc 3 (-1), 3) := by decide +kernel
theorem dX12_bestOf_291 : decode cX12_bestOf 291 = .ok (.goto (-202), 3) := by decide +kernel
theorem dX12_bestOf_294 : decode cX12_bestOf 294 = .ok (.iconst (-1), 1) := by decide +kernel
theorem dX12_bestOf_295 : decode cX12_bestOf 295 = .ok (.istore_n 3, 1) := by decide +kernel
theorem dX12_bestOf_296 : decode cX12_bestOf 296 = .ok (.iconst 0, 1) := by decide +kernel
theorem dX12_bestOf_297 : decode cX12_bestOf 297 = .ok (.istore 4, 2) := by decide +kernel
theorem dX12_bestOf_299 : decode cX12_bestOf 299 = .ok (.iload 4, 2) := by decide +kernel
theorem dX12_bestOf_301 : decode cX12_bestOf 301 = .ok (.aload_n 0, 1) := by decide +kernel
theorem dX12_bestOf_302 : decode cX12_bestOf 302 = .ok (.getfield 21, 3) := by decide +kernel
theorem dX12_bestOf_305 : decode cX12_bestOf 305 = .ok (.iconst 0, 1) := by decide +kernel
theorem dX12_bestOf_306 : decode cX12_bestOf 306 = .ok (.iaload, 1) := by decide +kernel
theorem dX12_bestOf_307 : decode cX12_bestOf 307 = .ok (.if_icmp .ge 41, 3) := by decide +kernel
theorem dX12_bestOf_310 : decode cX12_bestOf 310 = .ok (.aload_n 0, 1) := by decide +kernel
theorem dX12_bestOf_311 : decode cX12_bestOf 311 = .ok (.iload 4, 2) := by decide +kernel
theorem dX12_bestOf_313 : decode cX12_bestOf 313 = .ok (.iload_n 1, 1) := by decide +kernel
theorem dX12_bestOf_314 : decode cX12_bestOf 314 = .ok (.invokevirtual 420, 3) := by decide +kernel
theorem dX12_bestOf_317 : decode cX12_bestOf 317 = .ok (.ifCond .eq 25, 3) := by decide +kernel
theorem dX12_bestOf_320 : decode cX12_bestOf 320 = .ok (.iload_n 3, 1) := by decide +kernel
theorem dX12_bestOf_321 : decode cX12_bestOf 321 = .ok (.iconst (-1), 1) := by decide +kernel
theorem dX12_bestOf_322 : decode cX12_bestOf 322 = .ok (.if_icmp .eq 17, 3) := by decide +kernel
theorem dX12_bestOf_325 : decode cX12_bestOf 325 = .ok (.aload_n 0, 1) := by decide +kernel
theorem dX12_bestOf_326 : decode cX12_bestOf 326 = .ok (.iload 4, 2) := by decide +kernel
theorem dX12_bestOf_328 : decode cX12_bestOf 328 = .ok (.invokevirtual 473, 3) := by decide +kernel
theorem dX12_bestOf_331 : decode cX12_bestOf 331 = .ok (.aload_n 0, 1) := by decide +kernel
theorem dX12_bestOf_332 : decode cX12_bestOf 332 = .ok (.iload_n 3, 1) := by decide +kernel
theorem dX12_bestOf_333 : decode cX12_bestOf 333 = .ok (.invokevirtual 473, 3) := by decide +kernel
theorem dX12_bestOf_336 : decode cX12_bestOf 336 = .ok (.if_icmp .ge 6, 3) := by decide +kernel
theorem dX12_bestOf_339 : decode cX12_bestOf 339 = .ok (.iload 4, 2) := by decide +kernel
theorem dX12_bestOf_341 : decode cX12_bestOf 341 = .ok (.istore_n 3, 1) := by decide +kernel
theorem dX12_bestOf_342 : decode cX12_bestOf 342 = .ok (.iinc 4 1, 3) := by decide +kernel
theorem dX12_bestOf_345 : decode cX12_bestOf 345 = .ok (.goto (-46), 3) := by decide +kernel
theorem dX12_bestOf_348 : decode cX12_bestOf 348 = .ok (.iload_n 3, 1) := by decide +kernel
theorem dX12_bestOf_349 : decode cX12_bestOf 349 = .ok (.iconst (-1), 1) := by decide +kernel
theorem dX12_bestOf_350 : decode cX12_bestOf 350 = .ok (.if_icmp .ne 17, 3) := by decide +kernel
theorem dX12_bestOf_353 : decode cX12_bestOf 353 = .ok (.aload_n 0, 1) := by decide +kernel
theorem dX12_bestOf_354 : decode cX12_bestOf 354 = .ok (.getfield 133, 3) := by decide +kernel
theorem dX12_bestOf_357 : decode cX12_bestOf 357 = .ok (.iconst 0, 1) := by decide +kernel
theorem dX12_bestOf_358 : decode cX12_bestOf 358 = .ok (.iaload, 1) := by decide +kernel
theorem dX12_bestOf_359 : decode cX12_bestOf 359 = .ok (.ldc_w 435, 3) := by decide +kernel
theorem dX12_bestOf_362 : decode cX12_bestOf 362 = .ok (.if_icmp .lt 5, 3) := by decide +kernel
theorem dX12_bestOf_365 : decode cX12_bestOf 365 = .ok (.iconst (-1), 1) := by decide +kernel
theorem dX12_bestOf_366 : decode cX12_bestOf 366 = .ok (.ireturn, 1) := by decide +kernel
theorem dX12_bestOf_367 : decode cX12_bestOf 367 = .ok (.iload_n 3, 1) := by decide +kernel
theorem dX12_bestOf_368 : decode cX12_bestOf 368 = .ok (.iconst (-1), 1) := by decide +kernel
theorem dX12_bestOf_369 : decode cX12_bestOf 369 = .ok (.if_icmp .eq 55, 3) := by decide +kernel
theorem dX12_bestOf_372 : decode cX12_bestOf 372 = .ok (.aload_n 0, 1) := by decide +kernel
theorem dX12_bestOf_373 : decode cX12_bestOf 373 = .ok (.iload_n 3, 1) := by decide +kernel
theorem dX12_bestOf_374 : decode cX12_bestOf 374 = .ok (.invokevirtual 473, 3) := by decide +kernel
theorem dX12_bestOf_377 : decode cX12_bestOf 377 = .ok (.aload_n 0, 1) := by decide +kernel
theorem dX12_bestOf_378 : decode cX12_bestOf 378 = .ok (.getfield 133, 3) := by decide +kernel
theorem dX12_bestOf_381 : decode cX12_bestOf 381 = .ok (.iconst 0, 1) := by decide +kernel
theorem dX12_bestOf_382 : decode cX12_bestOf 382 = .ok (.iaload, 1) := by decide +kernel
theorem dX12_bestOf_383 : decode cX12_bestOf 383 = .ok (.if_icmp .lt 37, 3) := by decide +kernel
theorem dX12_bestOf_386 : decode cX12_bestOf 386 = .ok (.aload_n 0, 1) := by decide +kernel
theorem dX12_bestOf_387 : decode cX12_bestOf 387 = .ok (.iload_n 3, 1) := by decide +kernel
theorem dX12_bestOf_388 : decode cX12_bestOf 388 = .ok (.invokevirtual 473, 3) := by decide +kernel
theorem dX12_bestOf_391 : decode cX12_bestOf 391 = .ok (.aload_n 0, 1) := by decide +kernel
theorem dX12_bestOf_392 : decode cX12_bestOf 392 = .ok (.getfield 133, 3) := by decide +kernel
theorem dX12_bestOf_395 : decode cX12_bestOf 395 = .ok (.iconst 0, 1) := by decide +kernel
theorem dX12_bestOf_396 : decode cX12_bestOf 396 = .ok (.iaload, 1) := by decide +kernel
theorem dX12_bestOf_397 : decode cX12_bestOf 397 = .ok (.if_icmp .ne 27, 3) := by decide +kernel
theorem dX12_bestOf_400 : decode cX12_bestOf 400 = .ok (.aload_n 0, 1) := by decide +kernel
theorem dX12_bestOf_401 : decode cX12_bestOf 401 = .ok (.getfield 136, 3) := by decide +kernel
theorem dX12_bestOf_404 : decode cX12_bestOf 404 = .ok (.iconst 0, 1) := by decide +kernel
theorem dX12_bestOf_405 : decode cX12_bestOf 405 = .ok (.iaload, 1) := by decide +kernel
theorem dX12_bestOf_406 : decode cX12_bestOf 406 = .ok (.iconst 1, 1) := by decide +kernel
theorem dX12_bestOf_407 : decode cX12_bestOf 407 = .ok (.if_icmp .gt 13, 3) := by decide +kernel
theorem dX12_bestOf_410 : decode cX12_bestOf 410 = .ok (.iload_n 3, 1) := by decide +kernel
theorem dX12_bestOf_411 : decode cX12_bestOf 411 = .ok (.aload_n 0, 1) := by decide +kernel
theorem dX12_bestOf_412 : decode cX12_bestOf 412 = .ok (.getfield 139, 3) := by decide +kernel
theorem dX12_bestOf_415 : decode cX12_bestOf 415 = .ok (.iconst 0, 1) := by decide +kernel
theorem dX12_bestOf_416 : decode cX12_bestOf 416 = .ok (.iaload, 1) := by decide +kernel
theorem dX12_bestOf_417 : decode cX12_bestOf 417 = .ok (.if_icmp .ge 7, 3) := by decide +kernel
theorem dX12_bestOf_420 : decode cX12_bestOf 420 = .ok (.iconst 1, 1) := by decide +kernel
theorem dX12_bestOf_421 : decode cX12_bestOf 421 = .ok (.goto 4, 3) := by decide +kernel
theorem dX12_bestOf_424 : decode cX12_bestOf 424 = .ok (.iconst 0, 1) := by decide +kernel
theorem dX12_bestOf_425 : decode cX12_bestOf 425 = .ok (.istore 4, 2) := by decide +kernel
theorem dX12_bestOf_427 : decode cX12_bestOf 427 = .ok (.aload_n 0, 1) := by decide +kernel
theorem dX12_bestOf_428 : decode cX12_bestOf 428 = .ok (.iconst 0, 1) := by decide +kernel
theorem dX12_bestOf_429 : decode cX12_bestOf 429 = .ok (.putfield 476, 3) := by decide +kernel
theorem dX12_bestOf_432 : decode cX12_bestOf 432 = .ok (.iload 4, 2) := by decide +kernel
theorem dX12_bestOf_434 : decode cX12_bestOf 434 = .ok (.ifCond .eq 15, 3) := by decide +kernel
theorem dX12_bestOf_437 : decode cX12_bestOf 437 = .ok (.aload_n 0, 1) := by decide +kernel
theorem dX12_bestOf_438 : decode cX12_bestOf 438 = .ok (.getfield 142, 3) := by decide +kernel
theorem dX12_bestOf_441 : decode cX12_bestOf 441 = .ok (.iconst 0, 1) := by decide +kernel
theorem dX12_bestOf_442 : decode cX12_bestOf 442 = .ok (.iload_n 3, 1) := by decide +kernel
theorem dX12_bestOf_443 : decode cX12_bestOf 443 = .ok (.iastore, 1) := by decide +kernel
theorem dX12_bestOf_444 : decode cX12_bestOf 444 = .ok (.aload_n 0, 1) := by decide +kernel
theorem dX12_bestOf_445 : decode cX12_bestOf 445 = .ok (.iconst 1, 1) := by decide +kernel
theorem dX12_bestOf_446 : decode cX12_bestOf 446 = .ok (.putfield 476, 3) := by decide +kernel
theorem dX12_bestOf_449 : decode cX12_bestOf 449 = .ok (.iconst 0, 1) := by decide +kernel
theorem dX12_bestOf_450 : decode cX12_bestOf 450 = .ok (.istore 5, 2) := by decide +kernel
theorem dX12_bestOf_452 : decode cX12_bestOf 452 = .ok (.iload 5, 2) := by decide +kernel
theorem dX12_bestOf_454 : decode cX12_bestOf 454 = .ok (.aload_n 0, 1) := by decide +kernel
theorem dX12_bestOf_455 : decode cX12_bestOf 455 = .ok (.getfield 106, 3) := by decide +kernel
theorem dX12_bestOf_458 : decode cX12_bestOf 458 = .ok (.iload_n 1, 1) := by decide +kernel
theorem dX12_bestOf_459 : decode cX12_bestOf 459 = .ok (.iaload, 1) := by decide +kernel
theorem dX12_bestOf_460 : decode cX12_bestOf 460 = .ok (.if_icmp .ge 58, 3) := by decide +kernel
theorem dX12_bestOf_463 : decode cX12_bestOf 463 = .ok (.iload 4, 2) := by decide +kernel
theorem dX12_bestOf_465 : decode cX12_bestOf 465 = .ok (.ifCond .ne 53, 3) := by decide +kernel
theorem dX12_bestOf_468 : decode cX12_bestOf 468 = .ok (.aload_n 0, 1) := by decide +kernel
theorem dX12_bestOf_469 : decode cX12_bestOf 469 = .ok (.getfield 142, 3) := by decide +kernel
theorem dX12_bestOf_472 : decode cX12_bestOf 472 = .ok (.aload_n 0, 1) := by decide +kernel
theorem dX12_bestOf_473 : decode cX12_bestOf 473 = .ok (.getfield 476, 3) := by decide +kernel
theorem dX12_bestOf_476 : decode cX12_bestOf 476 = .ok (.aload_n 0, 1) := by decide +kernel
theorem dX12_bestOf_477 : decode cX12_bestOf 477 = .ok (.getfield 139, 3) := by decide +kernel
theorem dX12_bestOf_480 : decode cX12_bestOf 480 = .ok (.iload 5, 2) := by decide +kernel
theorem dX12_bestOf_482 : decode cX12_bestOf 482 = .ok (.iaload, 1) := by decide +kernel
theorem dX12_bestOf_483 : decode cX12_bestOf 483 = .ok (.iastore, 1) := by decide +kernel
theorem dX12_bestOf_484 : decode cX12_bestOf 484 = .ok (.aload_n 0, 1) := by decide +kernel
theorem dX12_bestOf_485 : decode cX12_bestOf 485 = .ok (.dup, 1) := by decide +kernel
theorem dX12_bestOf_486 : decode cX12_bestOf 486 = .ok (.getfield 476, 3) := by decide +kernel
theorem dX12_bestOf_489 : decode cX12_bestOf 489 = .ok (.iconst 1, 1) := by decide +kernel
theorem dX12_bestOf_490 : decode cX12_bestOf 490 = .ok (.iadd, 1) := by decide +kernel
theorem dX12_bestOf_491 : decode cX12_bestOf 491 = .ok (.putfield 476, 3) := by decide +kernel
theorem dX12_bestOf_494 : decode cX12_bestOf 494 = .ok (.iload 5, 2) := by decide +kernel
theorem dX12_bestOf_496 : decode cX12_bestOf 496 = .ok (.aload_n 0, 1) := by decide +kernel
theorem dX12_bestOf_497 : decode cX12_bestOf 497 = .ok (.getfield 118, 3) := by decide +kernel
theorem dX12_bestOf_500 : decode cX12_bestOf 500 = .ok (.aload_n 0, 1) := by decide +kernel
theorem dX12_bestOf_501 : decode cX12_bestOf 501 = .ok (.getfield 142, 3) := by decide +kernel
theorem dX12_bestOf_504 : decode cX12_bestOf 504 = .ok (.aload_n 0, 1) := by decide +kernel
theorem dX12_bestOf_505 : decode cX12_bestOf 505 = .ok (.getfield 476, 3) := by decide +kernel
theorem dX12_bestOf_508 : decode cX12_bestOf 508 = .ok (.iconst 1, 1) := by decide +kernel
theorem dX12_bestOf_509 : decode cX12_bestOf 509 = .ok (.isub, 1) := by decide +kernel
theorem dX12_bestOf_510 : decode cX12_bestOf 510 = .ok (.iaload, 1) := by decide +kernel
theorem dX12_bestOf_511 : decode cX12_bestOf 511 = .ok (.iaload, 1) := by decide +kernel
theorem dX12_bestOf_512 : decode cX12_bestOf 512 = .ok (.iadd, 1) := by decide +kernel
theorem dX12_bestOf_513 : decode cX12_bestOf 513 = .ok (.istore 5, 2) := by decide +kernel
theorem dX12_bestOf_515 : decode cX12_bestOf 515 = .ok (.goto (-63), 3) := by decide +kernel
theorem dX12_bestOf_518 : decode cX12_bestOf 518 = .ok (.iload 4, 2) := by decide +kernel
theorem dX12_bestOf_520 : decode cX12_bestOf 520 = .ok (.ifCond .eq 11, 3) := by decide +kernel
theorem dX12_bestOf_523 : decode cX12_bestOf 523 = .ok (.aload_n 0, 1) := by decide +kernel
theorem dX12_bestOf_524 : decode cX12_bestOf 524 = .ok (.iload_n 3, 1) := by decide +kernel
theorem dX12_bestOf_525 : decode cX12_bestOf 525 = .ok (.invokevirtual 473, 3) := by decide +kernel
theorem dX12_bestOf_528 : decode cX12_bestOf 528 = .ok (.goto 9, 3) := by decide +kernel
theorem dX12_bestOf_531 : decode cX12_bestOf 531 = .ok (.aload_n 0, 1) := by decide +kernel
theorem dX12_bestOf_532 : decode cX12_bestOf 532 = .ok (.getfield 133, 3) := by decide +kernel
theorem dX12_bestOf_535 : decode cX12_bestOf 535 = .ok (.iconst 0, 1) := by decide +kernel
theorem dX12_bestOf_536 : decode cX12_bestOf 536 = .ok (.iaload, 1) := by decide +kernel
theorem dX12_bestOf_537 : decode cX12_bestOf 537 = .ok (.istore 5, 2) := by decide +kernel
theorem dX12_bestOf_539 : decode cX12_bestOf 539 = .ok (.iload_n 2, 1) := by decide +kernel
theorem dX12_bestOf_540 : decode cX12_bestOf 540 = .ok (.iconst (-1), 1) := by decide +kernel
theorem dX12_bestOf_541 : decode cX12_bestOf 541 = .ok (.if_icmp .ne 6, 3) := by decide +kernel
theorem dX12_bestOf_544 : decode cX12_bestOf 544 = .ok (.iload 5, 2) := by decide +kernel
theorem dX12_bestOf_546 : decode cX12_bestOf 546 = .ok (.ireturn, 1) := by decide +kernel
theorem dX12_bestOf_547 : decode cX12_bestOf 547 = .ok (.aload_n 0, 1) := by decide +kernel
theorem dX12_bestOf_548 : decode cX12_bestOf 548 = .ok (.getfield 142, 3) := by decide +kernel
theorem dX12_bestOf_551 : decode cX12_bestOf 551 = .ok (.aload_n 0, 1) := by decide +kernel
theorem dX12_bestOf_552 : decode cX12_bestOf 552 = .ok (.getfield 476, 3) := by decide +kernel
theorem dX12_bestOf_555 : decode cX12_bestOf 555 = .ok (.iload_n 2, 1) := by decide +kernel
theorem dX12_bestOf_556 : decode cX12_bestOf 556 = .ok (.iastore, 1) := by decide +kernel
theorem dX12_bestOf_557 : decode cX12_bestOf 557 = .ok (.aload_n 0, 1) := by decide +kernel
theorem dX12_bestOf_558 : decode cX12_bestOf 558 = .ok (.dup, 1) := by decide +kernel
theorem dX12_bestOf_559 : decode cX12_bestOf 559 = .ok (.getfield 476, 3) := by decide +kernel
theorem dX12_bestOf_562 : decode cX12_bestOf 562 = .ok (.iconst 1, 1) := by decide +kernel
theorem dX12_bestOf_563 : decode cX12_bestOf 563 = .ok (.iadd, 1) := by decide +kernel
theorem dX12_bestOf_564 : decode cX12_bestOf 564 = .ok (.putfield 476, 3) := by decide +kernel
theorem dX12_bestOf_567 : decode cX12_bestOf 567 = .ok (.iload 5, 2) := by decide +kernel
theorem dX12_bestOf_569 : decode cX12_bestOf 569 = .ok (.aload_n 0, 1) := by decide +kernel
theorem dX12_bestOf_570 : decode cX12_bestOf 570 = .ok (.iload_n 2, 1) := by decide +kernel
theorem dX12_bestOf_571 : decode cX12_bestOf 571 = .ok (.invokevirtual 473, 3) := by decide +kernel
theorem dX12_bestOf_574 : decode cX12_bestOf 574 = .ok (.iadd, 1) := by decide +kernel
theorem dX12_bestOf_575 : decode cX12_bestOf 575 = .ok (.ireturn, 1) := by decide +kernel
abbrev rm_X12_bestOf : Room := { frames := 1, cells := 0, slots := 0, locals := 24 }
def f_X12_bestOf_258 (N : Nat) (k89 : Int32 → Int32 → Int32 → St → Option (Int32 × St)) (k126 : Int32 → Int32 → Int32 → Int32 → St → Option (Int32 × St)) (x1 : Int32) (x2 : Int32) (x3 : Int32) (x4 : Int32) (x5 : Int32) (x6 : Int32) (σ : St) : Option (Int32 × St) := grd (ib x3 9) (grd (ib x3 9) (grd (ib x3 9) (k126 x1 x2 x3 (x4 + 1) (si (si (si σ 40 x3.toNatClampNeg x5) 41 x3.toNatClampNeg x6) 42 x3.toNatClampNeg x4))))
def f_X12_bestOf_126 (N : Nat) (k89 : Int32 → Int32 → Int32 → St → Option (Int32 × St)) : Nat → Int32 → Int32 → Int32 → Int32 → St → Option (Int32 × St)
  | 0, _, _, _, _, _ => none
  | n + 1, x1, x2, x3, x4, σ => grd (ib 0 2) ((if (σ.1 3 0) ≤ x4 then k89 x1 x2 (x3 + (-1)) σ else grd (ib x1 40) ((if (σ.1 31 x1.toNatClampNeg) ≤ x3 then k89 x1 x2 (x3 + (-1)) σ else bo (f_X12_isAt N x4 x1 x3 σ) (fun r25_ => (if r25_ = 0 then f_X12_bestOf_126 N k89 n x1 x2 x3 (x4 + 1) σ else grd (ib x4 40) (grd (ib (x3 + (σ.1 35 x4.toNatClampNeg)) 9) ((if (σ.1 40 (x3 + (σ.1 35 x4.toNatClampNeg)).toNatClampNeg) < 1000000000 then bo (f_X12_paint x4 σ) (fun r30_ => grd (ib x4 40) (grd (ib (x3 + (σ.1 35 x4.toNatClampNeg)) 9) (grd (ib x4 40) (grd (ib (x3 + (σ.1 35 x4.toNatClampNeg)) 9) (grd (ib x3 9) ((if (σ.1 40 x3.toNatClampNeg) < (r30_ + (σ.1 40 (x3 + (σ.1 35 x4.toNatClampNeg)).toNatClampNeg)) then f_X12_bestOf_126 N k89 n x1 x2 x3 (x4 + 1) σ else grd (ib x3 9) ((if (r30_ + (σ.1 40 (x3 + (σ.1 35 x4.toNatClampNeg)).toNatClampNeg)) = (σ.1 40 x3.toNatClampNeg) then grd (ib x3 9) ((if (1 + (σ.1 41 (x3 + (σ.1 35 x4.toNatClampNeg)).toNatClampNeg)) < (σ.1 41 x3.toNatClampNeg) then f_X12_bestOf_258 N k89 (f_X12_bestOf_126 N k89 n) x1 x2 x3 x4 (r30_ + (σ.1 40 (x3 + (σ.1 35 x4.toNatClampNeg)).toNatClampNeg)) (1 + (σ.1 41 (x3 + (σ.1 35 x4.toNatClampNeg)).toNatClampNeg)) σ else f_X12_bestOf_126 N k89 n x1 x2 x3 (x4 + 1) σ)) else f_X12_bestOf_258 N k89 (f_X12_bestOf_126 N k89 n) x1 x2 x3 x4 (r30_ + (σ.1 40 (x3 + (σ.1 35 x4.toNatClampNeg)).toNatClampNeg)) (1 + (σ.1 41 (x3 + (σ.1 35 x4.toNatClampNeg)).toNatClampNeg)) σ))))))))) else f_X12_bestOf_126 N k89 n x1 x2 x3 (x4 + 1) σ)))))))))
def f_X12_bestOf_115 (N : Nat) (k89 : Int32 → Int32 → Int32 → St → Option (Int32 × St)) (x1 : Int32) (x2 : Int32) (x3 : Int32) (t1 : Int32) (t2 : Int32) (σ : St) : Option (Int32 × St) := grd (ib t1 9) (grd (ib x3 9) (f_X12_bestOf_126 N k89 N x1 x2 x3 0 (si (si σ 40 t1.toNatClampNeg t2) 41 x3.toNatClampNeg 0)))
def f_X12_bestOf_537 (N : Nat) (x2 : Int32) (t0 : Int32) (σ : St) : Option (Int32 × St) := (if x2 = ((-1)) then some (t0, σ) else grd (ib (σ.1 1068 0) 10) (bo (f_X12_paint x2 (si (si σ 43 (σ.1 1068 0).toNatClampNeg x2) 1068 0 ((σ.1 1068 0) + 1))) (fun r80_ => some (t0 + r80_, (si (si σ 43 (σ.1 1068 0).toNatClampNeg x2) 1068 0 ((σ.1 1068 0) + 1))))))
def f_X12_bestOf_518 (N : Nat) (x2 : Int32) (x3 : Int32) (x4 : Int32) (σ : St) : Option (Int32 × St) := (if x4 = 0 then grd (ib 0 9) (f_X12_bestOf_537 N x2 (σ.1 40 0) σ) else bo (f_X12_paint x3 σ) (fun r77_ => f_X12_bestOf_537 N x2 r77_ σ))
def f_X12_bestOf_452 (N : Nat) : Nat → Int32 → Int32 → Int32 → Int32 → Int32 → St → Option (Int32 × St)
  | 0, _, _, _, _, _, _ => none
  | n + 1, x1, x2, x3, x4, x5, σ => grd (ib x1 40) ((if (σ.1 31 x1.toNatClampNeg) ≤ x5 then f_X12_bestOf_518 N x2 x3 x4 σ else (if x4 = 0 then grd (ib x5 9) (grd (ib (σ.1 1068 0) 10) (grd (ib (((σ.1 1068 0) + 1) - 1) 10) (grd (ib ((si σ 43 (σ.1 1068 0).toNatClampNeg (σ.1 42 x5.toNatClampNeg)).1 43 (((σ.1 1068 0) + 1) - 1).toNatClampNeg) 40) (f_X12_bestOf_452 N n x1 x2 x3 x4 (x5 + (σ.1 35 ((si σ 43 (σ.1 1068 0).toNatClampNeg (σ.1 42 x5.toNatClampNeg)).1 43 (((σ.1 1068 0) + 1) - 1).toNatClampNeg).toNatClampNeg)) (si (si σ 43 (σ.1 1068 0).toNatClampNeg (σ.1 42 x5.toNatClampNeg)) 1068 0 ((σ.1 1068 0) + 1)))))) else f_X12_bestOf_518 N x2 x3 x4 σ)))
def f_X12_bestOf_425 (N : Nat) (x1 : Int32) (x2 : Int32) (x3 : Int32) (t0 : Int32) (σ : St) : Option (Int32 × St) := (if t0 = 0 then f_X12_bestOf_452 N N x1 x2 x3 t0 0 (si σ 1068 0 0) else grd (ib 0 10) (f_X12_bestOf_452 N N x1 x2 x3 t0 0 (si (si (si σ 1068 0 0) 43 0 x3) 1068 0 1)))
def f_X12_bestOf_367 (N : Nat) (x1 : Int32) (x2 : Int32) (x3 : Int32) (σ : St) : Option (Int32 × St) := (if x3 = ((-1)) then f_X12_bestOf_425 N x1 x2 x3 0 σ else bo (f_X12_paint x3 σ) (fun r56_ => grd (ib 0 9) ((if r56_ < (σ.1 40 0) then f_X12_bestOf_425 N x1 x2 x3 1 σ else bo (f_X12_paint x3 σ) (fun r59_ => grd (ib 0 9) ((if r59_ = (σ.1 40 0) then grd (ib 0 9) ((if 1 < (σ.1 41 0) then f_X12_bestOf_425 N x1 x2 x3 1 σ else grd (ib 0 9) ((if (σ.1 42 0) ≤ x3 then f_X12_bestOf_425 N x1 x2 x3 0 σ else f_X12_bestOf_425 N x1 x2 x3 1 σ)))) else f_X12_bestOf_425 N x1 x2 x3 0 σ)))))))
def f_X12_bestOf_299 (N : Nat) : Nat → Int32 → Int32 → Int32 → Int32 → St → Option (Int32 × St)
  | 0, _, _, _, _, _ => none
  | n + 1, x1, x2, x3, x4, σ => grd (ib 0 2) ((if (σ.1 3 0) ≤ x4 then (if x3 = ((-1)) then grd (ib 0 9) ((if (σ.1 40 0) < 1000000000 then f_X12_bestOf_367 N x1 x2 x3 σ else some ((-1), σ))) else f_X12_bestOf_367 N x1 x2 x3 σ) else bo (f_X12_isIdea x4 x1 σ) (fun r49_ => (if r49_ = 0 then f_X12_bestOf_299 N n x1 x2 x3 (x4 + 1) σ else (if x3 = ((-1)) then f_X12_bestOf_299 N n x1 x2 x4 (x4 + 1) σ else bo (f_X12_paint x4 σ) (fun r52_ => bo (f_X12_paint x3 σ) (fun r53_ => (if r53_ ≤ r52_ then f_X12_bestOf_299 N n x1 x2 x3 (x4 + 1) σ else f_X12_bestOf_299 N n x1 x2 x4 (x4 + 1) σ))))))))
def f_X12_bestOf_89 (N : Nat) : Nat → Int32 → Int32 → Int32 → St → Option (Int32 × St)
  | 0, _, _, _, _ => none
  | n + 1, x1, x2, x3, σ => (if x3 < 0 then f_X12_bestOf_299 N N x1 x2 ((-1)) 0 σ else grd (ib x1 40) ((if x3 = (σ.1 31 x1.toNatClampNeg) then f_X12_bestOf_115 N (f_X12_bestOf_89 N n) x1 x2 x3 x3 0 σ else f_X12_bestOf_115 N (f_X12_bestOf_89 N n) x1 x2 x3 x3 1000000000 σ)))
def f_X12_bestOf_82 (N : Nat) (x1 : Int32) (x2 : Int32) (σ : St) : Option (Int32 × St) := grd (ib x1 40) (f_X12_bestOf_89 N N x1 x2 (σ.1 31 x1.toNatClampNeg) σ)
def f_X12_bestOf_64 (N : Nat) (x1 : Int32) (x2 : Int32) (σ : St) : Option (Int32 × St) := grd (ib x1 40) ((if (lg_cmp (σ.2 33 x1.toNatClampNeg) 0) = 0 then f_X12_bestOf_82 N x1 x2 σ else (if x2 = ((-1)) then some ((-1), σ) else f_X12_bestOf_82 N x1 x2 σ)))
def f_X12_bestOf_8 (N : Nat) : Nat → Int32 → Int32 → Int32 → St → Option (Int32 × St)
  | 0, _, _, _, _ => none
  | n + 1, x1, x2, x3, σ => grd (ib 0 2) ((if (σ.1 3 0) ≤ x3 then f_X12_bestOf_64 N x1 x2 σ else grd (ib x1 40) ((if (lg_cmp (σ.2 33 x1.toNatClampNeg) 0) = 0 then f_X12_bestOf_64 N x1 x2 σ else bo (f_X12_isKind x3 x1 σ) (fun r6_ => (if r6_ = 0 then f_X12_bestOf_8 N n x1 x2 (x3 + 1) σ else (if x2 = ((-1)) then f_X12_bestOf_8 N n x1 x3 (x3 + 1) σ else bo (f_X12_paint x3 σ) (fun r9_ => bo (f_X12_paint x2 σ) (fun r10_ => (if r10_ ≤ r9_ then f_X12_bestOf_8 N n x1 x2 (x3 + 1) σ else f_X12_bestOf_8 N n x1 x3 (x3 + 1) σ))))))))))
def f_X12_bestOf (N : Nat) (x1 : Int32) (σ : St) : Option (Int32 × St) := bo (f_X12_asListed N σ) (fun σ1 => f_X12_bestOf_8 N N x1 ((-1)) 0 σ1)
section
variable {p : Program} {l : Launch} {e : Env} {s : State} {m : MethodId} {args : Array Value} {below : List Frame} {meth : Method} {c : Code} {g : XG}
set_option maxRecDepth 4000 in
theorem w_X12_bestOf_258 (N : Nat) (k89 : Int32 → Int32 → Int32 → St → Option (Int32 × St)) (k126 : Int32 → Int32 → Int32 → Int32 → St → Option (Int32 × St)) {r : Int32} {σ' : St} (C : xC KM g RX12 cX12_bestOf 7 (some .int) p s m args meth c) (hk89 : ∀ (x1 : Int32) (x2 : Int32) (x3 : Int32) (σ : St) (H : Heap) (locs : List Loc) (ls : Array Slot), xW KM g s σ H locs → lv_has ls 7 [(0, .ref (g.q 0)), (1, .int x1), (2, .int x2), (3, .int x3)] → k89 x1 x2 x3 σ = some (r, σ') → W p l e rm_X12_bestOf s m args below meth c H locs 0 0 (MQ below (xPost KM g (some (.int r)) σ') args s 0 0 (xA KM g.q)) (F0 m 89 ls [])) (hk126 : ∀ (x1 : Int32) (x2 : Int32) (x3 : Int32) (x4 : Int32) (σ : St) (H : Heap) (locs : List Loc) (ls : Array Slot), xW KM g s σ H locs → lv_has ls 7 [(0, .ref (g.q 0)), (1, .int x1), (2, .int x2), (3, .int x3), (4, .int x4)] → k126 x1 x2 x3 x4 σ = some (r, σ') → W p l e rm_X12_bestOf s m args below meth c H locs 0 0 (MQ below (xPost KM g (some (.int r)) σ') args s 0 0 (xA KM g.q)) (F0 m 126 ls [])) : ∀ (x1 : Int32) (x2 : Int32) (x3 : Int32) (x4 : Int32) (x5 : Int32) (x6 : Int32) (σ : St) (H : Heap) (locs : List Loc) (ls : Array Slot), xW KM g s σ H locs → lv_has ls 7 [(0, .ref (g.q 0)), (1, .int x1), (2, .int x2), (3, .int x3), (4, .int x4), (5, .int x5), (6, .int x6)] → f_X12_bestOf_258 N k89 k126 x1 x2 x3 x4 x5 x6 σ = some (r, σ') → W p l e rm_X12_bestOf s m args below meth c H locs 0 0 (MQ below (xPost KM g (some (.int r)) σ') args s 0 0 (xA KM g.q)) (F0 m 258 ls []) := by
  have hx := C.1
  have hb := C.2.1
  intro x1 x2 x3 x4 x5 x6 σ H locs ls hW hl h
  unfold f_X12_bestOf_258 at h
  refine lv_aload_n hx hb dX12_bestOf_258 rfl (lv_at hl 0 rfl) ?_
  refine xg_r C hW fg_12_133 KM_0 rfl dX12_bestOf_259 ?_
  refine lv_iload_n hx hb dX12_bestOf_262 rfl (lv_at hl 3 rfl) ?_
  refine lv_iload hx hb dX12_bestOf_263 (lv_at hl 5 rfl) ?_
  obtain ⟨g41, h⟩ := xgd h
  refine xs_i C hW KM_40 g41 dX12_bestOf_265 (fun H locs hW => ?_)
  refine lv_aload_n hx hb dX12_bestOf_266 rfl (lv_at hl 0 rfl) ?_
  refine xg_r C hW fg_12_136 KM_0 rfl dX12_bestOf_267 ?_
  refine lv_iload_n hx hb dX12_bestOf_270 rfl (lv_at hl 3 rfl) ?_
  refine lv_iload hx hb dX12_bestOf_271 (lv_at hl 6 rfl) ?_
  obtain ⟨g42, h⟩ := xgd h
  refine xs_i C hW KM_41 g42 dX12_bestOf_273 (fun H locs hW => ?_)
  refine lv_aload_n hx hb dX12_bestOf_274 rfl (lv_at hl 0 rfl) ?_
  refine xg_r C hW fg_12_139 KM_0 rfl dX12_bestOf_275 ?_
  refine lv_iload_n hx hb dX12_bestOf_278 rfl (lv_at hl 3 rfl) ?_
  refine lv_iload hx hb dX12_bestOf_279 (lv_at hl 4 rfl) ?_
  obtain ⟨g43, h⟩ := xgd h
  refine xs_i C hW KM_42 g43 dX12_bestOf_281 (fun H locs hW => ?_)
  refine lv_iinc (v := x4 + 1) (lv' := [(4, .int (x4 + 1)), (0, .ref (g.q 0)), (1, .int x1), (2, .int x2), (3, .int x3), (5, .int x5), (6, .int x6)]) hx hb dX12_bestOf_282 hl (k := 4) rfl rfl (Nat.le_of_ble_eq_true rfl) rfl (fun ls hl => ?_)
  refine lv_goto (tgt := 126) hx hb dX12_bestOf_285 (by decide) ?_
  exact hk126 x1 x2 x3 (x4 + 1) _ _ _ _ hW (lv_sub hl [1, 2, 3, 4, 0] rfl) h
set_option maxRecDepth 4000 in
theorem w_X12_bestOf_126 (N : Nat) (k89 : Int32 → Int32 → Int32 → St → Option (Int32 × St)) {r : Int32} {σ' : St} (C : xC KM g RX12 cX12_bestOf 7 (some .int) p s m args meth c) (hk89 : ∀ (x1 : Int32) (x2 : Int32) (x3 : Int32) (σ : St) (H : Heap) (locs : List Loc) (ls : Array Slot), xW KM g s σ H locs → lv_has ls 7 [(0, .ref (g.q 0)), (1, .int x1), (2, .int x2), (3, .int x3)] → k89 x1 x2 x3 σ = some (r, σ') → W p l e rm_X12_bestOf s m args below meth c H locs 0 0 (MQ below (xPost KM g (some (.int r)) σ') args s 0 0 (xA KM g.q)) (F0 m 89 ls [])) : ∀ (n : Nat), ∀ (x1 : Int32) (x2 : Int32) (x3 : Int32) (x4 : Int32) (σ : St) (H : Heap) (locs : List Loc) (ls : Array Slot), xW KM g s σ H locs → lv_has ls 7 [(0, .ref (g.q 0)), (1, .int x1), (2, .int x2), (3, .int x3), (4, .int x4)] → f_X12_bestOf_126 N k89 n x1 x2 x3 x4 σ = some (r, σ') → W p l e rm_X12_bestOf s m args below meth c H locs 0 0 (MQ below (xPost KM g (some (.int r)) σ') args s 0 0 (xA KM g.q)) (F0 m 126 ls []) := by
  have hx := C.1
  have hb := C.2.1
  intro n
  induction n with
  | zero => intro x1 x2 x3 x4 σ H locs ls hW hl h; rw [f_X12_bestOf_126] at h; cases h
  | succ n ih =>
    intro x1 x2 x3 x4 σ H locs ls hW hl h
    rw [f_X12_bestOf_126] at h
    refine lv_iload hx hb dX12_bestOf_126 (lv_at hl 4 rfl) ?_
    refine lv_aload_n hx hb dX12_bestOf_128 rfl (lv_at hl 0 rfl) ?_
    refine xg_r C hW fg_12_21 KM_0 rfl dX12_bestOf_129 ?_
    refine lv_iconst (v := 0) hx hb dX12_bestOf_132 rfl ?_
    obtain ⟨g21, h⟩ := xgd h
    refine xa_i C hW KM_3 g21 (x := σ.1 3 0) rfl dX12_bestOf_133 ?_
    refine lv_icmp_ge (tgt := 288) hx hb dX12_bestOf_134 (by decide) (fun c22 => ?_) (fun c22 => ?_)
    · have h := xit c22 h
      refine lv_iinc (v := x3 + (-1)) (lv' := [(3, .int (x3 + (-1))), (0, .ref (g.q 0)), (1, .int x1), (2, .int x2), (4, .int x4)]) hx hb dX12_bestOf_288 hl (k := 3) rfl rfl (Nat.le_of_ble_eq_true rfl) rfl (fun ls hl => ?_)
      refine lv_goto (tgt := 89) hx hb dX12_bestOf_291 (by decide) ?_
      exact hk89 x1 x2 (x3 + (-1)) _ _ _ _ hW (lv_sub hl [1, 2, 3, 0] rfl) h
    · have h := xif c22 h
      refine lv_iload_n hx hb dX12_bestOf_137 rfl (lv_at hl 3 rfl) ?_
      refine lv_aload_n hx hb dX12_bestOf_138 rfl (lv_at hl 0 rfl) ?_
      refine xg_r C hW fg_12_106 KM_0 rfl dX12_bestOf_139 ?_
      refine lv_iload_n hx hb dX12_bestOf_142 rfl (lv_at hl 1 rfl) ?_
      obtain ⟨g23, h⟩ := xgd h
      refine xa_i C hW KM_31 g23 (x := σ.1 31 x1.toNatClampNeg) rfl dX12_bestOf_143 ?_
      refine lv_icmp_ge (tgt := 288) hx hb dX12_bestOf_144 (by decide) (fun c24 => ?_) (fun c24 => ?_)
      · have h := xit c24 h
        refine lv_iinc (v := x3 + (-1)) (lv' := [(3, .int (x3 + (-1))), (0, .ref (g.q 0)), (1, .int x1), (2, .int x2), (4, .int x4)]) hx hb dX12_bestOf_288 hl (k := 3) rfl rfl (Nat.le_of_ble_eq_true rfl) rfl (fun ls hl => ?_)
        refine lv_goto (tgt := 89) hx hb dX12_bestOf_291 (by decide) ?_
        exact hk89 x1 x2 (x3 + (-1)) _ _ _ _ hW (lv_sub hl [1, 2, 3, 0] rfl) h
      · have h := xif c24 h
        refine lv_aload_n hx hb dX12_bestOf_147 rfl (lv_at hl 0 rfl) ?_
        refine lv_iload hx hb dX12_bestOf_148 (lv_at hl 4 rfl) ?_
        refine lv_iload_n hx hb dX12_bestOf_150 rfl (lv_at hl 1 rfl) ?_
        refine lv_iload_n hx hb dX12_bestOf_151 rfl (lv_at hl 3 rfl) ?_
        obtain ⟨r25_, e25, h⟩ := xbo h
        refine xc_V (As := [.int x4, .int x1, .int x3]) (rest := []) C hW (m_X12_isAt N x4 x1 x3 _ e25) mf_X12_isAt mv_X12_isAt ml_X12_414 ⟨rfl, rfl⟩ ⟨Nat.le_of_ble_eq_true rfl, Nat.le_of_ble_eq_true rfl⟩ KM_0 rfl hl.1 rfl rfl (Nat.le_of_ble_eq_true rfl) dX12_bestOf_152 (fun H locs hW => W.eq (g2 := F0 m 155 ls [.int r25_]) rfl ?_)
        refine lv_if_eq (tgt := 282) hx hb dX12_bestOf_155 (by decide) (fun c26 => ?_) (fun c26 => ?_)
        · have h := xit c26 h
          refine lv_iinc (v := x4 + 1) (lv' := [(4, .int (x4 + 1)), (0, .ref (g.q 0)), (1, .int x1), (2, .int x2), (3, .int x3)]) hx hb dX12_bestOf_282 hl (k := 4) rfl rfl (Nat.le_of_ble_eq_true rfl) rfl (fun ls hl => ?_)
          refine lv_goto (tgt := 126) hx hb dX12_bestOf_285 (by decide) ?_
          exact ih x1 x2 x3 (x4 + 1) _ _ _ _ hW (lv_sub hl [1, 2, 3, 4, 0] rfl) h
        · have h := xif c26 h
          refine lv_aload_n hx hb dX12_bestOf_158 rfl (lv_at hl 0 rfl) ?_
          refine xg_r C hW fg_12_133 KM_0 rfl dX12_bestOf_159 ?_
          refine lv_iload_n hx hb dX12_bestOf_162 rfl (lv_at hl 3 rfl) ?_
          refine lv_aload_n hx hb dX12_bestOf_163 rfl (lv_at hl 0 rfl) ?_
          refine xg_r C hW fg_12_118 KM_0 rfl dX12_bestOf_164 ?_
          refine lv_iload hx hb dX12_bestOf_167 (lv_at hl 4 rfl) ?_
          obtain ⟨g27, h⟩ := xgd h
          refine xa_i C hW KM_35 g27 (x := σ.1 35 x4.toNatClampNeg) rfl dX12_bestOf_169 ?_
          refine lv_iadd hx hb dX12_bestOf_170 ?_
          obtain ⟨g28, h⟩ := xgd h
          refine xa_i C hW KM_40 g28 (x := σ.1 40 (x3 + (σ.1 35 x4.toNatClampNeg)).toNatClampNeg) rfl dX12_bestOf_171 ?_
          refine lv_ldcw (v := 1000000000) hx hb C.ow (C.hts _ kc_X12_435) dX12_bestOf_172 ?_
          refine lv_icmp_lt (tgt := 181) hx hb dX12_bestOf_175 (by decide) (fun c29 => ?_) (fun c29 => ?_)
          · have h := xit c29 h
            refine lv_aload_n hx hb dX12_bestOf_181 rfl (lv_at hl 0 rfl) ?_
            refine lv_iload hx hb dX12_bestOf_182 (lv_at hl 4 rfl) ?_
            obtain ⟨r30_, e30, h⟩ := xbo h
            refine xc_V (As := [.int x4]) (rest := []) C hW (m_X12_paint x4 _ e30) mf_X12_paint mv_X12_paint ml_X12_473 ⟨rfl, rfl⟩ ⟨Nat.le_of_ble_eq_true rfl, Nat.le_of_ble_eq_true rfl⟩ KM_0 rfl hl.1 rfl rfl (Nat.le_of_ble_eq_true rfl) dX12_bestOf_184 (fun H locs hW => W.eq (g2 := F0 m 187 ls [.int r30_]) rfl ?_)
            refine lv_aload_n hx hb dX12_bestOf_187 rfl (lv_at hl 0 rfl) ?_
            refine xg_r C hW fg_12_133 KM_0 rfl dX12_bestOf_188 ?_
            refine lv_iload_n hx hb dX12_bestOf_191 rfl (lv_at hl 3 rfl) ?_
            refine lv_aload_n hx hb dX12_bestOf_192 rfl (lv_at hl 0 rfl) ?_
            refine xg_r C hW fg_12_118 KM_0 rfl dX12_bestOf_193 ?_
            refine lv_iload hx hb dX12_bestOf_196 (lv_at hl 4 rfl) ?_
            obtain ⟨g31, h⟩ := xgd h
            refine xa_i C hW KM_35 g31 (x := σ.1 35 x4.toNatClampNeg) rfl dX12_bestOf_198 ?_
            refine lv_iadd hx hb dX12_bestOf_199 ?_
            obtain ⟨g32, h⟩ := xgd h
            refine xa_i C hW KM_40 g32 (x := σ.1 40 (x3 + (σ.1 35 x4.toNatClampNeg)).toNatClampNeg) rfl dX12_bestOf_200 ?_
            refine lv_iadd hx hb dX12_bestOf_201 ?_
            refine lv_istore (lv' := [(5, .int (r30_ + (σ.1 40 (x3 + (σ.1 35 x4.toNatClampNeg)).toNatClampNeg))), (0, .ref (g.q 0)), (1, .int x1), (2, .int x2), (3, .int x3), (4, .int x4)]) hx hb dX12_bestOf_202 hl (Nat.le_of_ble_eq_true rfl) rfl (fun ls hl => ?_)
            refine lv_iconst (v := 1) hx hb dX12_bestOf_204 rfl ?_
            refine lv_aload_n hx hb dX12_bestOf_205 rfl (lv_at hl 1 rfl) ?_
            refine xg_r C hW fg_12_136 KM_0 rfl dX12_bestOf_206 ?_
            refine lv_iload_n hx hb dX12_bestOf_209 rfl (lv_at hl 4 rfl) ?_
            refine lv_aload_n hx hb dX12_bestOf_210 rfl (lv_at hl 1 rfl) ?_
            refine xg_r C hW fg_12_118 KM_0 rfl dX12_bestOf_211 ?_
            refine lv_iload hx hb dX12_bestOf_214 (lv_at hl 5 rfl) ?_
            obtain ⟨g33, h⟩ := xgd h
            refine xa_i C hW KM_35 g33 (x := σ.1 35 x4.toNatClampNeg) rfl dX12_bestOf_216 ?_
            refine lv_iadd hx hb dX12_bestOf_217 ?_
            obtain ⟨g34, h⟩ := xgd h
            refine xa_i C hW KM_41 g34 (x := σ.1 41 (x3 + (σ.1 35 x4.toNatClampNeg)).toNatClampNeg) rfl dX12_bestOf_218 ?_
            refine lv_iadd hx hb dX12_bestOf_219 ?_
            refine lv_istore (lv' := [(6, .int (1 + (σ.1 41 (x3 + (σ.1 35 x4.toNatClampNeg)).toNatClampNeg))), (5, .int (r30_ + (σ.1 40 (x3 + (σ.1 35 x4.toNatClampNeg)).toNatClampNeg))), (0, .ref (g.q 0)), (1, .int x1), (2, .int x2), (3, .int x3), (4, .int x4)]) hx hb dX12_bestOf_220 hl (Nat.le_of_ble_eq_true rfl) rfl (fun ls hl => ?_)
            refine lv_iload hx hb dX12_bestOf_222 (lv_at hl 1 rfl) ?_
            refine lv_aload_n hx hb dX12_bestOf_224 rfl (lv_at hl 2 rfl) ?_
            refine xg_r C hW fg_12_133 KM_0 rfl dX12_bestOf_225 ?_
            refine lv_iload_n hx hb dX12_bestOf_228 rfl (lv_at hl 5 rfl) ?_
            obtain ⟨g35, h⟩ := xgd h
            refine xa_i C hW KM_40 g35 (x := σ.1 40 x3.toNatClampNeg) rfl dX12_bestOf_229 ?_
            refine lv_icmp_gt (tgt := 282) hx hb dX12_bestOf_230 (by decide) (fun c36 => ?_) (fun c36 => ?_)
            · have h := xit c36 h
              refine lv_iinc (v := x4 + 1) (lv' := [(4, .int (x4 + 1)), (6, .int (1 + (σ.1 41 (x3 + (σ.1 35 x4.toNatClampNeg)).toNatClampNeg))), (5, .int (r30_ + (σ.1 40 (x3 + (σ.1 35 x4.toNatClampNeg)).toNatClampNeg))), (0, .ref (g.q 0)), (1, .int x1), (2, .int x2), (3, .int x3)]) hx hb dX12_bestOf_282 hl (k := 6) rfl rfl (Nat.le_of_ble_eq_true rfl) rfl (fun ls hl => ?_)
              refine lv_goto (tgt := 126) hx hb dX12_bestOf_285 (by decide) ?_
              exact ih x1 x2 x3 (x4 + 1) _ _ _ _ hW (lv_sub hl [3, 4, 5, 6, 0] rfl) h
            · have h := xif c36 h
              refine lv_iload hx hb dX12_bestOf_233 (lv_at hl 1 rfl) ?_
              refine lv_aload_n hx hb dX12_bestOf_235 rfl (lv_at hl 2 rfl) ?_
              refine xg_r C hW fg_12_133 KM_0 rfl dX12_bestOf_236 ?_
              refine lv_iload_n hx hb dX12_bestOf_239 rfl (lv_at hl 5 rfl) ?_
              obtain ⟨g37, h⟩ := xgd h
              refine xa_i C hW KM_40 g37 (x := σ.1 40 x3.toNatClampNeg) rfl dX12_bestOf_240 ?_
              refine lv_icmp_ne (tgt := 258) hx hb dX12_bestOf_241 (by decide) (fun c38 => ?_) (fun c38 => ?_)
              · have h := xif c38 h
                exact w_X12_bestOf_258 N k89 (f_X12_bestOf_126 N k89 n) C hk89 ih x1 x2 x3 x4 (r30_ + (σ.1 40 (x3 + (σ.1 35 x4.toNatClampNeg)).toNatClampNeg)) (1 + (σ.1 41 (x3 + (σ.1 35 x4.toNatClampNeg)).toNatClampNeg)) _ _ _ _ hW (lv_sub hl [2, 3, 4, 5, 6, 1, 0] rfl) h
              · have h := xit c38 h
                refine lv_iload hx hb dX12_bestOf_244 (lv_at hl 0 rfl) ?_
                refine lv_aload_n hx hb dX12_bestOf_246 rfl (lv_at hl 2 rfl) ?_
                refine xg_r C hW fg_12_136 KM_0 rfl dX12_bestOf_247 ?_
                refine lv_iload_n hx hb dX12_bestOf_250 rfl (lv_at hl 5 rfl) ?_
                obtain ⟨g39, h⟩ := xgd h
                refine xa_i C hW KM_41 g39 (x := σ.1 41 x3.toNatClampNeg) rfl dX12_bestOf_251 ?_
                refine lv_icmp_lt (tgt := 258) hx hb dX12_bestOf_252 (by decide) (fun c40 => ?_) (fun c40 => ?_)
                · have h := xit c40 h
                  exact w_X12_bestOf_258 N k89 (f_X12_bestOf_126 N k89 n) C hk89 ih x1 x2 x3 x4 (r30_ + (σ.1 40 (x3 + (σ.1 35 x4.toNatClampNeg)).toNatClampNeg)) (1 + (σ.1 41 (x3 + (σ.1 35 x4.toNatClampNeg)).toNatClampNeg)) _ _ _ _ hW (lv_sub hl [2, 3, 4, 5, 6, 1, 0] rfl) h
                · have h := xif c40 h
                  refine lv_goto (tgt := 282) hx hb dX12_bestOf_255 (by decide) ?_
                  refine lv_iinc (v := x4 + 1) (lv' := [(4, .int (x4 + 1)), (6, .int (1 + (σ.1 41 (x3 + (σ.1 35 x4.toNatClampNeg)).toNatClampNeg))), (5, .int (r30_ + (σ.1 40 (x3 + (σ.1 35 x4.toNatClampNeg)).toNatClampNeg))), (0, .ref (g.q 0)), (1, .int x1), (2, .int x2), (3, .int x3)]) hx hb dX12_bestOf_282 hl (k := 6) rfl rfl (Nat.le_of_ble_eq_true rfl) rfl (fun ls hl => ?_)
                  refine lv_goto (tgt := 126) hx hb dX12_bestOf_285 (by decide) ?_
                  exact ih x1 x2 x3 (x4 + 1) _ _ _ _ hW (lv_sub hl [3, 4, 5, 6, 0] rfl) h
          · have h := xif c29 h
            refine lv_goto (tgt := 282) hx hb dX12_bestOf_178 (by decide) ?_
            refine lv_iinc (v := x4 + 1) (lv' := [(4, .int (x4 + 1)), (0, .ref (g.q 0)), (1, .int x1), (2, .int x2), (3, .int x3)]) hx hb dX12_bestOf_282 hl (k := 4) rfl rfl (Nat.le_of_ble_eq_true rfl) rfl (fun ls hl => ?_)
            refine lv_goto (tgt := 126) hx hb dX12_bestOf_285 (by decide) ?_
            exact ih x1 x2 x3 (x4 + 1) _ _ _ _ hW (lv_sub hl [1, 2, 3, 4, 0] rfl) h
set_option maxRecDepth 4000 in
theorem w_X12_bestOf_115 (N : Nat) (k89 : Int32 → Int32 → Int32 → St → Option (Int32 × St)) {r : Int32} {σ' : St} (C : xC KM g RX12 cX12_bestOf 7 (some .int) p s m args meth c) (hk89 : ∀ (x1 : Int32) (x2 : Int32) (x3 : Int32) (σ : St) (H : Heap) (locs : List Loc) (ls : Array Slot), xW KM g s σ H locs → lv_has ls 7 [(0, .ref (g.q 0)), (1, .int x1), (2, .int x2), (3, .int x3)] → k89 x1 x2 x3 σ = some (r, σ') → W p l e rm_X12_bestOf s m args below meth c H locs 0 0 (MQ below (xPost KM g (some (.int r)) σ') args s 0 0 (xA KM g.q)) (F0 m 89 ls [])) : ∀ (x1 : Int32) (x2 : Int32) (x3 : Int32) (t1 : Int32) (t2 : Int32) (σ : St) (H : Heap) (locs : List Loc) (ls : Array Slot), xW KM g s σ H locs → lv_has ls 7 [(0, .ref (g.q 0)), (1, .int x1), (2, .int x2), (3, .int x3)] → f_X12_bestOf_115 N k89 x1 x2 x3 t1 t2 σ = some (r, σ') → W p l e rm_X12_bestOf s m args below meth c H locs 0 0 (MQ below (xPost KM g (some (.int r)) σ') args s 0 0 (xA KM g.q)) (F0 m 115 ls [.int t2, .int t1, .ref (g.q 40)]) := by
  have hx := C.1
  have hb := C.2.1
  intro x1 x2 x3 t1 t2 σ H locs ls hW hl h
  unfold f_X12_bestOf_115 at h
  obtain ⟨g19, h⟩ := xgd h
  refine xs_i C hW KM_40 g19 dX12_bestOf_115 (fun H locs hW => ?_)
  refine lv_aload_n hx hb dX12_bestOf_116 rfl (lv_at hl 0 rfl) ?_
  refine xg_r C hW fg_12_136 KM_0 rfl dX12_bestOf_117 ?_
  refine lv_iload_n hx hb dX12_bestOf_120 rfl (lv_at hl 3 rfl) ?_
  refine lv_iconst (v := 0) hx hb dX12_bestOf_121 rfl ?_
  obtain ⟨g20, h⟩ := xgd h
  refine xs_i C hW KM_41 g20 dX12_bestOf_122 (fun H locs hW => ?_)
  refine lv_iconst (v := 0) hx hb dX12_bestOf_123 rfl ?_
  refine lv_istore (lv' := [(4, .int 0), (0, .ref (g.q 0)), (1, .int x1), (2, .int x2), (3, .int x3)]) hx hb dX12_bestOf_124 hl (Nat.le_of_ble_eq_true rfl) rfl (fun ls hl => ?_)
  exact w_X12_bestOf_126 N k89 C hk89 N x1 x2 x3 0 _ _ _ _ hW (lv_sub hl [1, 2, 3, 4, 0] rfl) h
set_option maxRecDepth 4000 in
theorem w_X12_bestOf_537 (N : Nat) {r : Int32} {σ' : St} (C : xC KM g RX12 cX12_bestOf 7 (some .int) p s m args meth c) : ∀ (x2 : Int32) (t0 : Int32) (σ : St) (H : Heap) (locs : List Loc) (ls : Array Slot), xW KM g s σ H locs → lv_has ls 7 [(0, .ref (g.q 0)), (2, .int x2)] → f_X12_bestOf_537 N x2 t0 σ = some (r, σ') → W p l e rm_X12_bestOf s m args below meth c H locs 0 0 (MQ below (xPost KM g (some (.int r)) σ') args s 0 0 (xA KM g.q)) (F0 m 537 ls [.int t0]) := by
  have hx := C.1
  have hb := C.2.1
  intro x2 t0 σ H locs ls hW hl h
  unfold f_X12_bestOf_537 at h
  refine lv_istore (lv' := [(5, .int t0), (0, .ref (g.q 0)), (2, .int x2)]) hx hb dX12_bestOf_537 hl (Nat.le_of_ble_eq_true rfl) rfl (fun ls hl => ?_)
  refine lv_iload_n hx hb dX12_bestOf_539 rfl (lv_at hl 2 rfl) ?_
  refine lv_iconst (v := (-1)) hx hb dX12_bestOf_540 rfl ?_
  refine lv_icmp_ne (tgt := 547) hx hb dX12_bestOf_541 (by decide) (fun c78 => ?_) (fun c78 => ?_)
  · have h := xif c78 h
    refine lv_aload_n hx hb dX12_bestOf_547 rfl (lv_at hl 1 rfl) ?_
    refine xg_r C hW fg_12_142 KM_0 rfl dX12_bestOf_548 ?_
    refine lv_aload_n hx hb dX12_bestOf_551 rfl (lv_at hl 1 rfl) ?_
    refine xg_i C hW fg_12_476 KM_0 rfl (v := 1068) rfl (x := σ.1 1068 0) rfl dX12_bestOf_552 ?_
    refine lv_iload_n hx hb dX12_bestOf_555 rfl (lv_at hl 2 rfl) ?_
    obtain ⟨g79, h⟩ := xgd h
    refine xs_i C hW KM_43 g79 dX12_bestOf_556 (fun H locs hW => ?_)
    refine lv_aload_n hx hb dX12_bestOf_557 rfl (lv_at hl 1 rfl) ?_
    refine lv_dup hx hb dX12_bestOf_558 rfl ?_
    refine xg_i C hW fg_12_476 KM_0 rfl (v := 1068) rfl (x := σ.1 1068 0) rfl dX12_bestOf_559 ?_
    refine lv_iconst (v := 1) hx hb dX12_bestOf_562 rfl ?_
    refine lv_iadd hx hb dX12_bestOf_563 ?_
    refine xp_i C hW fp_12_476 KM_0 rfl (v := 1068) rfl rfl rfl dX12_bestOf_564 (fun H locs hW => ?_)
    refine lv_iload hx hb dX12_bestOf_567 (lv_at hl 0 rfl) ?_
    refine lv_aload_n hx hb dX12_bestOf_569 rfl (lv_at hl 1 rfl) ?_
    refine lv_iload_n hx hb dX12_bestOf_570 rfl (lv_at hl 2 rfl) ?_
    obtain ⟨r80_, e80, h⟩ := xbo h
    refine xc_V (As := [.int x2]) (rest := [.int t0]) C hW (m_X12_paint x2 _ e80) mf_X12_paint mv_X12_paint ml_X12_473 ⟨rfl, rfl⟩ ⟨Nat.le_of_ble_eq_true rfl, Nat.le_of_ble_eq_true rfl⟩ KM_0 rfl hl.1 rfl rfl (Nat.le_of_ble_eq_true rfl) dX12_bestOf_571 (fun H locs hW => W.eq (g2 := F0 m 574 ls [.int r80_, .int t0]) rfl ?_)
    refine lv_iadd hx hb dX12_bestOf_574 ?_
    cases h
    exact xr_i C hW dX12_bestOf_575
  · have h := xit c78 h
    refine lv_iload hx hb dX12_bestOf_544 (lv_at hl 0 rfl) ?_
    cases h
    exact xr_i C hW dX12_bestOf_546
set_option maxRecDepth 4000 in
theorem w_X12_bestOf_518 (N : Nat) {r : Int32} {σ' : St} (C : xC KM g RX12 cX12_bestOf 7 (some .int) p s m args meth c) : ∀ (x2 : Int32) (x3 : Int32) (x4 : Int32) (σ : St) (H : Heap) (locs : List Loc) (ls : Array Slot), xW KM g s σ H locs → lv_has ls 7 [(0, .ref (g.q 0)), (2, .int x2), (3, .int x3), (4, .int x4)] → f_X12_bestOf_518 N x2 x3 x4 σ = some (r, σ') → W p l e rm_X12_bestOf s m args below meth c H locs 0 0 (MQ below (xPost KM g (some (.int r)) σ') args s 0 0 (xA KM g.q)) (F0 m 518 ls []) := by
  have hx := C.1
  have hb := C.2.1
  intro x2 x3 x4 σ H locs ls hW hl h
  unfold f_X12_bestOf_518 at h
  refine lv_iload hx hb dX12_bestOf_518 (lv_at hl 3 rfl) ?_
  refine lv_if_eq (tgt := 531) hx hb dX12_bestOf_520 (by decide) (fun c75 => ?_) (fun c75 => ?_)
  · have h := xit c75 h
    refine lv_aload_n hx hb dX12_bestOf_531 rfl (lv_at hl 0 rfl) ?_
    refine xg_r C hW fg_12_133 KM_0 rfl dX12_bestOf_532 ?_
    refine lv_iconst (v := 0) hx hb dX12_bestOf_535 rfl ?_
    obtain ⟨g76, h⟩ := xgd h
    refine xa_i C hW KM_40 g76 (x := σ.1 40 0) rfl dX12_bestOf_536 ?_
    exact w_X12_bestOf_537 N C x2 (σ.1 40 0) _ _ _ _ hW (lv_sub hl [0, 1] rfl) h
  · have h := xif c75 h
    refine lv_aload_n hx hb dX12_bestOf_523 rfl (lv_at hl 0 rfl) ?_
    refine lv_iload_n hx hb dX12_bestOf_524 rfl (lv_at hl 2 rfl) ?_
    obtain ⟨r77_, e77, h⟩ := xbo h
    refine xc_V (As := [.int x3]) (rest := []) C hW (m_X12_paint x3 _ e77) mf_X12_paint mv_X12_paint ml_X12_473 ⟨rfl, rfl⟩ ⟨Nat.le_of_ble_eq_true rfl, Nat.le_of_ble_eq_true rfl⟩ KM_0 rfl hl.1 rfl rfl (Nat.le_of_ble_eq_true rfl) dX12_bestOf_525 (fun H locs hW => W.eq (g2 := F0 m 528 ls [.int r77_]) rfl ?_)
    refine lv_goto (tgt := 537) hx hb dX12_bestOf_528 (by decide) ?_
    exact w_X12_bestOf_537 N C x2 r77_ _ _ _ _ hW (lv_sub hl [0, 1] rfl) h
set_option maxRecDepth 4000 in
theorem w_X12_bestOf_452 (N : Nat) {r : Int32} {σ' : St} (C : xC KM g RX12 cX12_bestOf 7 (some .int) p s m args meth c) : ∀ (n : Nat), ∀ (x1 : Int32) (x2 : Int32) (x3 : Int32) (x4 : Int32) (x5 : Int32) (σ : St) (H : Heap) (locs : List Loc) (ls : Array Slot), xW KM g s σ H locs → lv_has ls 7 [(0, .ref (g.q 0)), (1, .int x1), (2, .int x2), (3, .int x3), (4, .int x4), (5, .int x5)] → f_X12_bestOf_452 N n x1 x2 x3 x4 x5 σ = some (r, σ') → W p l e rm_X12_bestOf s m args below meth c H locs 0 0 (MQ below (xPost KM g (some (.int r)) σ') args s 0 0 (xA KM g.q)) (F0 m 452 ls []) := by
  have hx := C.1
  have hb := C.2.1
  intro n
  induction n with
  | zero => intro x1 x2 x3 x4 x5 σ H locs ls hW hl h; rw [f_X12_bestOf_452] at h; cases h
  | succ n ih =>
    intro x1 x2 x3 x4 x5 σ H locs ls hW hl h
    rw [f_X12_bestOf_452] at h
    refine lv_iload hx hb dX12_bestOf_452 (lv_at hl 5 rfl) ?_
    refine lv_aload_n hx hb dX12_bestOf_454 rfl (lv_at hl 0 rfl) ?_
    refine xg_r C hW fg_12_106 KM_0 rfl dX12_bestOf_455 ?_
    refine lv_iload_n hx hb dX12_bestOf_458 rfl (lv_at hl 1 rfl) ?_
    obtain ⟨g68, h⟩ := xgd h
    refine xa_i C hW KM_31 g68 (x := σ.1 31 x1.toNatClampNeg) rfl dX12_bestOf_459 ?_
    refine lv_icmp_ge (tgt := 518) hx hb dX12_bestOf_460 (by decide) (fun c69 => ?_) (fun c69 => ?_)
    · have h := xit c69 h
      exact w_X12_bestOf_518 N C x2 x3 x4 _ _ _ _ hW (lv_sub hl [0, 2, 3, 4] rfl) h
    · have h := xif c69 h
      refine lv_iload hx hb dX12_bestOf_463 (lv_at hl 4 rfl) ?_
      refine lv_if_ne (tgt := 518) hx hb dX12_bestOf_465 (by decide) (fun c70 => ?_) (fun c70 => ?_)
      · have h := xif c70 h
        exact w_X12_bestOf_518 N C x2 x3 x4 _ _ _ _ hW (lv_sub hl [0, 2, 3, 4] rfl) h
      · have h := xit c70 h
        refine lv_aload_n hx hb dX12_bestOf_468 rfl (lv_at hl 0 rfl) ?_
        refine xg_r C hW fg_12_142 KM_0 rfl dX12_bestOf_469 ?_
        refine lv_aload_n hx hb dX12_bestOf_472 rfl (lv_at hl 0 rfl) ?_
        refine xg_i C hW fg_12_476 KM_0 rfl (v := 1068) rfl (x := σ.1 1068 0) rfl dX12_bestOf_473 ?_
        refine lv_aload_n hx hb dX12_bestOf_476 rfl (lv_at hl 0 rfl) ?_
        refine xg_r C hW fg_12_139 KM_0 rfl dX12_bestOf_477 ?_
        refine lv_iload hx hb dX12_bestOf_480 (lv_at hl 5 rfl) ?_
        obtain ⟨g71, h⟩ := xgd h
        refine xa_i C hW KM_42 g71 (x := σ.1 42 x5.toNatClampNeg) rfl dX12_bestOf_482 ?_
        obtain ⟨g72, h⟩ := xgd h
        refine xs_i C hW KM_43 g72 dX12_bestOf_483 (fun H locs hW => ?_)
        refine lv_aload_n hx hb dX12_bestOf_484 rfl (lv_at hl 0 rfl) ?_
        refine lv_dup hx hb dX12_bestOf_485 rfl ?_
        refine xg_i C hW fg_12_476 KM_0 rfl (v := 1068) rfl (x := σ.1 1068 0) rfl dX12_bestOf_486 ?_
        refine lv_iconst (v := 1) hx hb dX12_bestOf_489 rfl ?_
        refine lv_iadd hx hb dX12_bestOf_490 ?_
        refine xp_i C hW fp_12_476 KM_0 rfl (v := 1068) rfl rfl rfl dX12_bestOf_491 (fun H locs hW => ?_)
        refine lv_iload hx hb dX12_bestOf_494 (lv_at hl 5 rfl) ?_
        refine lv_aload_n hx hb dX12_bestOf_496 rfl (lv_at hl 0 rfl) ?_
        refine xg_r C hW fg_12_118 KM_0 rfl dX12_bestOf_497 ?_
        refine lv_aload_n hx hb dX12_bestOf_500 rfl (lv_at hl 0 rfl) ?_
        refine xg_r C hW fg_12_142 KM_0 rfl dX12_bestOf_501 ?_
        refine lv_aload_n hx hb dX12_bestOf_504 rfl (lv_at hl 0 rfl) ?_
        refine xg_i C hW fg_12_476 KM_0 rfl (v := 1068) rfl (x := (σ.1 1068 0) + 1) rfl dX12_bestOf_505 ?_
        refine lv_iconst (v := 1) hx hb dX12_bestOf_508 rfl ?_
        refine lv_isub hx hb dX12_bestOf_509 ?_
        obtain ⟨g73, h⟩ := xgd h
        refine xa_i C hW KM_43 g73 (x := (si σ 43 (σ.1 1068 0).toNatClampNeg (σ.1 42 x5.toNatClampNeg)).1 43 (((σ.1 1068 0) + 1) - 1).toNatClampNeg) rfl dX12_bestOf_510 ?_
        obtain ⟨g74, h⟩ := xgd h
        refine xa_i C hW KM_35 g74 (x := σ.1 35 ((si σ 43 (σ.1 1068 0).toNatClampNeg (σ.1 42 x5.toNatClampNeg)).1 43 (((σ.1 1068 0) + 1) - 1).toNatClampNeg).toNatClampNeg) rfl dX12_bestOf_511 ?_
        refine lv_iadd hx hb dX12_bestOf_512 ?_
        refine lv_istore (lv' := [(5, .int (x5 + (σ.1 35 ((si σ 43 (σ.1 1068 0).toNatClampNeg (σ.1 42 x5.toNatClampNeg)).1 43 (((σ.1 1068 0) + 1) - 1).toNatClampNeg).toNatClampNeg))), (0, .ref (g.q 0)), (1, .int x1), (2, .int x2), (3, .int x3), (4, .int x4)]) hx hb dX12_bestOf_513 hl (Nat.le_of_ble_eq_true rfl) rfl (fun ls hl => ?_)
        refine lv_goto (tgt := 452) hx hb dX12_bestOf_515 (by decide) ?_
        exact ih x1 x2 x3 x4 (x5 + (σ.1 35 ((si σ 43 (σ.1 1068 0).toNatClampNeg (σ.1 42 x5.toNatClampNeg)).1 43 (((σ.1 1068 0) + 1) - 1).toNatClampNeg).toNatClampNeg)) _ _ _ _ hW (lv_sub hl [1, 2, 3, 4, 5, 0] rfl) h
set_option maxRecDepth 4000 in
theorem w_X12_bestOf_425 (N : Nat) {r : Int32} {σ' : St} (C : xC KM g RX12 cX12_bestOf 7 (some .int) p s m args meth c) : ∀ (x1 : Int32) (x2 : Int32) (x3 : Int32) (t0 : Int32) (σ : St) (H : Heap) (locs : List Loc) (ls : Array Slot), xW KM g s σ H locs → lv_has ls 7 [(0, .ref (g.q 0)), (1, .int x1), (2, .int x2), (3, .int x3)] → f_X12_bestOf_425 N x1 x2 x3 t0 σ = some (r, σ') → W p l e rm_X12_bestOf s m args below meth c H locs 0 0 (MQ below (xPost KM g (some (.int r)) σ') args s 0 0 (xA KM g.q)) (F0 m 425 ls [.int t0]) := by
  have hx := C.1
  have hb := C.2.1
  intro x1 x2 x3 t0 σ H locs ls hW hl h
  unfold f_X12_bestOf_425 at h
  refine lv_istore (lv' := [(4, .int t0), (0, .ref (g.q 0)), (1, .int x1), (2, .int x2), (3, .int x3)]) hx hb dX12_bestOf_425 hl (Nat.le_of_ble_eq_true rfl) rfl (fun ls hl => ?_)
  refine lv_aload_n hx hb dX12_bestOf_427 rfl (lv_at hl 1 rfl) ?_
  refine lv_iconst (v := 0) hx hb dX12_bestOf_428 rfl ?_
  refine xp_i C hW fp_12_476 KM_0 rfl (v := 1068) rfl rfl rfl dX12_bestOf_429 (fun H locs hW => ?_)
  refine lv_iload hx hb dX12_bestOf_432 (lv_at hl 0 rfl) ?_
  refine lv_if_eq (tgt := 449) hx hb dX12_bestOf_434 (by decide) (fun c66 => ?_) (fun c66 => ?_)
  · have h := xit c66 h
    refine lv_iconst (v := 0) hx hb dX12_bestOf_449 rfl ?_
    refine lv_istore (lv' := [(5, .int 0), (4, .int t0), (0, .ref (g.q 0)), (1, .int x1), (2, .int x2), (3, .int x3)]) hx hb dX12_bestOf_450 hl (Nat.le_of_ble_eq_true rfl) rfl (fun ls hl => ?_)
    exact w_X12_bestOf_452 N C N x1 x2 x3 t0 0 _ _ _ _ hW (lv_sub hl [2, 3, 4, 5, 1, 0] rfl) h
  · have h := xif c66 h
    refine lv_aload_n hx hb dX12_bestOf_437 rfl (lv_at hl 1 rfl) ?_
    refine xg_r C hW fg_12_142 KM_0 rfl dX12_bestOf_438 ?_
    refine lv_iconst (v := 0) hx hb dX12_bestOf_441 rfl ?_
    refine lv_iload_n hx hb dX12_bestOf_442 rfl (lv_at hl 4 rfl) ?_
    obtain ⟨g67, h⟩ := xgd h
    refine xs_i C hW KM_43 g67 dX12_bestOf_443 (fun H locs hW => ?_)
    refine lv_aload_n hx hb dX12_bestOf_444 rfl (lv_at hl 1 rfl) ?_
    refine lv_iconst (v := 1) hx hb dX12_bestOf_445 rfl ?_
    refine xp_i C hW fp_12_476 KM_0 rfl (v := 1068) rfl rfl rfl dX12_bestOf_446 (fun H locs hW => ?_)
    refine lv_iconst (v := 0) hx hb dX12_bestOf_449 rfl ?_
    refine lv_istore (lv' := [(5, .int 0), (4, .int t0), (0, .ref (g.q 0)), (1, .int x1), (2, .int x2), (3, .int x3)]) hx hb dX12_bestOf_450 hl (Nat.le_of_ble_eq_true rfl) rfl (fun ls hl => ?_)
    exact w_X12_bestOf_452 N C N x1 x2 x3 t0 0 _ _ _ _ hW (lv_sub hl [2, 3, 4, 5, 1, 0] rfl) h
set_option maxRecDepth 4000 in
theorem w_X12_bestOf_367 (N : Nat) {r : Int32} {σ' : St} (C : xC KM g RX12 cX12_bestOf 7 (some .int) p s m args meth c) : ∀ (x1 : Int32) (x2 : Int32) (x3 : Int32) (σ : St) (H : Heap) (locs : List Loc) (ls : Array Slot), xW KM g s σ H locs → lv_has ls 7 [(0, .ref (g.q 0)), (1, .int x1), (2, .int x2), (3, .int x3)] → f_X12_bestOf_367 N x1 x2 x3 σ = some (r, σ') → W p l e rm_X12_bestOf s m args below meth c H locs 0 0 (MQ below (xPost KM g (some (.int r)) σ') args s 0 0 (xA KM g.q)) (F0 m 367 ls []) := by
  have hx := C.1
  have hb := C.2.1
  intro x1 x2 x3 σ H locs ls hW hl h
  unfold f_X12_bestOf_367 at h
  refine lv_iload_n hx hb dX12_bestOf_367 rfl (lv_at hl 3 rfl) ?_
  refine lv_iconst (v := (-1)) hx hb dX12_bestOf_368 rfl ?_
  refine lv_icmp_eq (tgt := 424) hx hb dX12_bestOf_369 (by decide) (fun c55 => ?_) (fun c55 => ?_)
  · have h := xit c55 h
    refine lv_iconst (v := 0) hx hb dX12_bestOf_424 rfl ?_
    exact w_X12_bestOf_425 N C x1 x2 x3 0 _ _ _ _ hW (lv_sub hl [0, 1, 2, 3] rfl) h
  · have h := xif c55 h
    refine lv_aload_n hx hb dX12_bestOf_372 rfl (lv_at hl 0 rfl) ?_
    refine lv_iload_n hx hb dX12_bestOf_373 rfl (lv_at hl 3 rfl) ?_
    obtain ⟨r56_, e56, h⟩ := xbo h
    refine xc_V (As := [.int x3]) (rest := []) C hW (m_X12_paint x3 _ e56) mf_X12_paint mv_X12_paint ml_X12_473 ⟨rfl, rfl⟩ ⟨Nat.le_of_ble_eq_true rfl, Nat.le_of_ble_eq_true rfl⟩ KM_0 rfl hl.1 rfl rfl (Nat.le_of_ble_eq_true rfl) dX12_bestOf_374 (fun H locs hW => W.eq (g2 := F0 m 377 ls [.int r56_]) rfl ?_)
    refine lv_aload_n hx hb dX12_bestOf_377 rfl (lv_at hl 0 rfl) ?_
    refine xg_r C hW fg_12_133 KM_0 rfl dX12_bestOf_378 ?_
    refine lv_iconst (v := 0) hx hb dX12_bestOf_381 rfl ?_
    obtain ⟨g57, h⟩ := xgd h
    refine xa_i C hW KM_40 g57 (x := σ.1 40 0) rfl dX12_bestOf_382 ?_
    refine lv_icmp_lt (tgt := 420) hx hb dX12_bestOf_383 (by decide) (fun c58 => ?_) (fun c58 => ?_)
    · have h := xit c58 h
      refine lv_iconst (v := 1) hx hb dX12_bestOf_420 rfl ?_
      refine lv_goto (tgt := 425) hx hb dX12_bestOf_421 (by decide) ?_
      exact w_X12_bestOf_425 N C x1 x2 x3 1 _ _ _ _ hW (lv_sub hl [0, 1, 2, 3] rfl) h
    · have h := xif c58 h
      refine lv_aload_n hx hb dX12_bestOf_386 rfl (lv_at hl 0 rfl) ?_
      refine lv_iload_n hx hb dX12_bestOf_387 rfl (lv_at hl 3 rfl) ?_
      obtain ⟨r59_, e59, h⟩ := xbo h
      refine xc_V (As := [.int x3]) (rest := []) C hW (m_X12_paint x3 _ e59) mf_X12_paint mv_X12_paint ml_X12_473 ⟨rfl, rfl⟩ ⟨Nat.le_of_ble_eq_true rfl, Nat.le_of_ble_eq_true rfl⟩ KM_0 rfl hl.1 rfl rfl (Nat.le_of_ble_eq_true rfl) dX12_bestOf_388 (fun H locs hW => W.eq (g2 := F0 m 391 ls [.int r59_]) rfl ?_)
      refine lv_aload_n hx hb dX12_bestOf_391 rfl (lv_at hl 0 rfl) ?_
      refine xg_r C hW fg_12_133 KM_0 rfl dX12_bestOf_392 ?_
      refine lv_iconst (v := 0) hx hb dX12_bestOf_395 rfl ?_
      obtain ⟨g60, h⟩ := xgd h
      refine xa_i C hW KM_40 g60 (x := σ.1 40 0) rfl dX12_bestOf_396 ?_
      refine lv_icmp_ne (tgt := 424) hx hb dX12_bestOf_397 (by decide) (fun c61 => ?_) (fun c61 => ?_)
      · have h := xif c61 h
        refine lv_iconst (v := 0) hx hb dX12_bestOf_424 rfl ?_
        exact w_X12_bestOf_425 N C x1 x2 x3 0 _ _ _ _ hW (lv_sub hl [0, 1, 2, 3] rfl) h
      · have h := xit c61 h
        refine lv_aload_n hx hb dX12_bestOf_400 rfl (lv_at hl 0 rfl) ?_
        refine xg_r C hW fg_12_136 KM_0 rfl dX12_bestOf_401 ?_
        refine lv_iconst (v := 0) hx hb dX12_bestOf_404 rfl ?_
        obtain ⟨g62, h⟩ := xgd h
        refine xa_i C hW KM_41 g62 (x := σ.1 41 0) rfl dX12_bestOf_405 ?_
        refine lv_iconst (v := 1) hx hb dX12_bestOf_406 rfl ?_
        refine lv_icmp_gt (tgt := 420) hx hb dX12_bestOf_407 (by decide) (fun c63 => ?_) (fun c63 => ?_)
        · have h := xit c63 h
          refine lv_iconst (v := 1) hx hb dX12_bestOf_420 rfl ?_
          refine lv_goto (tgt := 425) hx hb dX12_bestOf_421 (by decide) ?_
          exact w_X12_bestOf_425 N C x1 x2 x3 1 _ _ _ _ hW (lv_sub hl [0, 1, 2, 3] rfl) h
        · have h := xif c63 h
          refine lv_iload_n hx hb dX12_bestOf_410 rfl (lv_at hl 3 rfl) ?_
          refine lv_aload_n hx hb dX12_bestOf_411 rfl (lv_at hl 0 rfl) ?_
          refine xg_r C hW fg_12_139 KM_0 rfl dX12_bestOf_412 ?_
          refine lv_iconst (v := 0) hx hb dX12_bestOf_415 rfl ?_
          obtain ⟨g64, h⟩ := xgd h
          refine xa_i C hW KM_42 g64 (x := σ.1 42 0) rfl dX12_bestOf_416 ?_
          refine lv_icmp_ge (tgt := 424) hx hb dX12_bestOf_417 (by decide) (fun c65 => ?_) (fun c65 => ?_)
          · have h := xit c65 h
            refine lv_iconst (v := 0) hx hb dX12_bestOf_424 rfl ?_
            exact w_X12_bestOf_425 N C x1 x2 x3 0 _ _ _ _ hW (lv_sub hl [0, 1, 2, 3] rfl) h
          · have h := xif c65 h
            refine lv_iconst (v := 1) hx hb dX12_bestOf_420 rfl ?_
            refine lv_goto (tgt := 425) hx hb dX12_bestOf_421 (by decide) ?_
            exact w_X12_bestOf_425 N C x1 x2 x3 1 _ _ _ _ hW (lv_sub hl [0, 1, 2, 3] rfl) h
set_option maxRecDepth 4000 in
theorem w_X12_bestOf_299 (N : Nat) {r : Int32} {σ' : St} (C : xC KM g RX12 cX12_bestOf 7 (some .int) p s m args meth c) : ∀ (n : Nat), ∀ (x1 : Int32) (x2 : Int32) (x3 : Int32) (x4 : Int32) (σ : St) (H : Heap) (locs : List Loc) (ls : Array Slot), xW KM g s σ H locs → lv_has ls 7 [(0, .ref (g.q 0)), (1, .int x1), (2, .int x2), (3, .int x3), (4, .int x4)] → f_X12_bestOf_299 N n x1 x2 x3 x4 σ = some (r, σ') → W p l e rm_X12_bestOf s m args below meth c H locs 0 0 (MQ below (xPost KM g (some (.int r)) σ') args s 0 0 (xA KM g.q)) (F0 m 299 ls []) := by
  have hx := C.1
  have hb := C.2.1
  intro n
  induction n with
  | zero => intro x1 x2 x3 x4 σ H locs ls hW hl h; rw [f_X12_bestOf_299] at h; cases h
  | succ n ih =>
    intro x1 x2 x3 x4 σ H locs ls hW hl h
    rw [f_X12_bestOf_299] at h
    refine lv_iload hx hb dX12_bestOf_299 (lv_at hl 4 rfl) ?_
    refine lv_aload_n hx hb dX12_bestOf_301 rfl (lv_at hl 0 rfl) ?_
    refine xg_r C hW fg_12_21 KM_0 rfl dX12_bestOf_302 ?_
    refine lv_iconst (v := 0) hx hb dX12_bestOf_305 rfl ?_
    obtain ⟨g44, h⟩ := xgd h
    refine xa_i C hW KM_3 g44 (x := σ.1 3 0) rfl dX12_bestOf_306 ?_
    refine lv_icmp_ge (tgt := 348) hx hb dX12_bestOf_307 (by decide) (fun c45 => ?_) (fun c45 => ?_)
    · have h := xit c45 h
      refine lv_iload_n hx hb dX12_bestOf_348 rfl (lv_at hl 3 rfl) ?_
      refine lv_iconst (v := (-1)) hx hb dX12_bestOf_349 rfl ?_
      refine lv_icmp_ne (tgt := 367) hx hb dX12_bestOf_350 (by decide) (fun c46 => ?_) (fun c46 => ?_)
      · have h := xif c46 h
        exact w_X12_bestOf_367 N C x1 x2 x3 _ _ _ _ hW (lv_sub hl [0, 1, 2, 3] rfl) h
      · have h := xit c46 h
        refine lv_aload_n hx hb dX12_bestOf_353 rfl (lv_at hl 0 rfl) ?_
        refine xg_r C hW fg_12_133 KM_0 rfl dX12_bestOf_354 ?_
        refine lv_iconst (v := 0) hx hb dX12_bestOf_357 rfl ?_
        obtain ⟨g47, h⟩ := xgd h
        refine xa_i C hW KM_40 g47 (x := σ.1 40 0) rfl dX12_bestOf_358 ?_
        refine lv_ldcw (v := 1000000000) hx hb C.ow (C.hts _ kc_X12_435) dX12_bestOf_359 ?_
        refine lv_icmp_lt (tgt := 367) hx hb dX12_bestOf_362 (by decide) (fun c48 => ?_) (fun c48 => ?_)
        · have h := xit c48 h
          exact w_X12_bestOf_367 N C x1 x2 x3 _ _ _ _ hW (lv_sub hl [0, 1, 2, 3] rfl) h
        · have h := xif c48 h
          refine lv_iconst (v := (-1)) hx hb dX12_bestOf_365 rfl ?_
          cases h
          exact xr_i C hW dX12_bestOf_366
    · have h := xif c45 h
      refine lv_aload_n hx hb dX12_bestOf_310 rfl (lv_at hl 0 rfl) ?_
      refine lv_iload hx hb dX12_bestOf_311 (lv_at hl 4 rfl) ?_
      refine lv_iload_n hx hb dX12_bestOf_313 rfl (lv_at hl 1 rfl) ?_
      obtain ⟨r49_, e49, h⟩ := xbo h
      refine xc_V (As := [.int x4, .int x1]) (rest := []) C hW (m_X12_isIdea x4 x1 _ e49) mf_X12_isIdea mv_X12_isIdea ml_X12_420 ⟨rfl, rfl⟩ ⟨Nat.le_of_ble_eq_true rfl, Nat.le_of_ble_eq_true rfl⟩ KM_0 rfl hl.1 rfl rfl (Nat.le_of_ble_eq_true rfl) dX12_bestOf_314 (fun H locs hW => W.eq (g2 := F0 m 317 ls [.int r49_]) rfl ?_)
      refine lv_if_eq (tgt := 342) hx hb dX12_bestOf_317 (by decide) (fun c50 => ?_) (fun c50 => ?_)
      · have h := xit c50 h
        refine lv_iinc (v := x4 + 1) (lv' := [(4, .int (x4 + 1)), (0, .ref (g.q 0)), (1, .int x1), (2, .int x2), (3, .int x3)]) hx hb dX12_bestOf_342 hl (k := 4) rfl rfl (Nat.le_of_ble_eq_true rfl) rfl (fun ls hl => ?_)
        refine lv_goto (tgt := 299) hx hb dX12_bestOf_345 (by decide) ?_
        exact ih x1 x2 x3 (x4 + 1) _ _ _ _ hW (lv_sub hl [1, 2, 3, 4, 0] rfl) h
      · have h := xif c50 h
        refine lv_iload_n hx hb dX12_bestOf_320 rfl (lv_at hl 3 rfl) ?_
        refine lv_iconst (v := (-1)) hx hb dX12_bestOf_321 rfl ?_
        refine lv_icmp_eq (tgt := 339) hx hb dX12_bestOf_322 (by decide) (fun c51 => ?_) (fun c51 => ?_)
        · have h := xit c51 h
          refine lv_iload hx hb dX12_bestOf_339 (lv_at hl 4 rfl) ?_
          refine lv_istore_n (lv' := [(3, .int x4), (0, .ref (g.q 0)), (1, .int x1), (2, .int x2), (4, .int x4)]) hx hb dX12_bestOf_341 rfl hl (Nat.le_of_ble_eq_true rfl) rfl (fun ls hl => ?_)
          refine lv_iinc (v := x4 + 1) (lv' := [(4, .int (x4 + 1)), (3, .int x4), (0, .ref (g.q 0)), (1, .int x1), (2, .int x2)]) hx hb dX12_bestOf_342 hl (k := 4) rfl rfl (Nat.le_of_ble_eq_true rfl) rfl (fun ls hl => ?_)
          refine lv_goto (tgt := 299) hx hb dX12_bestOf_345 (by decide) ?_
          exact ih x1 x2 x4 (x4 + 1) _ _ _ _ hW (lv_sub hl [2, 3, 4, 1, 0] rfl) h
        · have h := xif c51 h
          refine lv_aload_n hx hb dX12_bestOf_325 rfl (lv_at hl 0 rfl) ?_
          refine lv_iload hx hb dX12_bestOf_326 (lv_at hl 4 rfl) ?_
          obtain ⟨r52_, e52, h⟩ := xbo h
          refine xc_V (As := [.int x4]) (rest := []) C hW (m_X12_paint x4 _ e52) mf_X12_paint mv_X12_paint ml_X12_473 ⟨rfl, rfl⟩ ⟨Nat.le_of_ble_eq_true rfl, Nat.le_of_ble_eq_true rfl⟩ KM_0 rfl hl.1 rfl rfl (Nat.le_of_ble_eq_true rfl) dX12_bestOf_328 (fun H locs hW => W.eq (g2 := F0 m 331 ls [.int r52_]) rfl ?_)
          refine lv_aload_n hx hb dX12_bestOf_331 rfl (lv_at hl 0 rfl) ?_
          refine lv_iload_n hx hb dX12_bestOf_332 rfl (lv_at hl 3 rfl) ?_
          obtain ⟨r53_, e53, h⟩ := xbo h
          refine xc_V (As := [.int x3]) (rest := [.int r52_]) C hW (m_X12_paint x3 _ e53) mf_X12_paint mv_X12_paint ml_X12_473 ⟨rfl, rfl⟩ ⟨Nat.le_of_ble_eq_true rfl, Nat.le_of_ble_eq_true rfl⟩ KM_0 rfl hl.1 rfl rfl (Nat.le_of_ble_eq_true rfl) dX12_bestOf_333 (fun H locs hW => W.eq (g2 := F0 m 336 ls [.int r53_, .int r52_]) rfl ?_)
          refine lv_icmp_ge (tgt := 342) hx hb dX12_bestOf_336 (by decide) (fun c54 => ?_) (fun c54 => ?_)
          · have h := xit c54 h
            refine lv_iinc (v := x4 + 1) (lv' := [(4, .int (x4 + 1)), (0, .ref (g.q 0)), (1, .int x1), (2, .int x2), (3, .int x3)]) hx hb dX12_bestOf_342 hl (k := 4) rfl rfl (Nat.le_of_ble_eq_true rfl) rfl (fun ls hl => ?_)
            refine lv_goto (tgt := 299) hx hb dX12_bestOf_345 (by decide) ?_
            exact ih x1 x2 x3 (x4 + 1) _ _ _ _ hW (lv_sub hl [1, 2, 3, 4, 0] rfl) h
          · have h := xif c54 h
            refine lv_iload hx hb dX12_bestOf_339 (lv_at hl 4 rfl) ?_
            refine lv_istore_n (lv' := [(3, .int x4), (0, .ref (g.q 0)), (1, .int x1), (2, .int x2), (4, .int x4)]) hx hb dX12_bestOf_341 rfl hl (Nat.le_of_ble_eq_true rfl) rfl (fun ls hl => ?_)
            refine lv_iinc (v := x4 + 1) (lv' := [(4, .int (x4 + 1)), (3, .int x4), (0, .ref (g.q 0)), (1, .int x1), (2, .int x2)]) hx hb dX12_bestOf_342 hl (k := 4) rfl rfl (Nat.le_of_ble_eq_true rfl) rfl (fun ls hl => ?_)
            refine lv_goto (tgt := 299) hx hb dX12_bestOf_345 (by decide) ?_
            exact ih x1 x2 x4 (x4 + 1) _ _ _ _ hW (lv_sub hl [2, 3, 4, 1, 0] rfl) h
set_option maxRecDepth 4000 in
theorem w_X12_bestOf_89 (N : Nat) {r : Int32} {σ' : St} (C : xC KM g RX12 cX12_bestOf 7 (some .int) p s m args meth c) : ∀ (n : Nat), ∀ (x1 : Int32) (x2 : Int32) (x3 : Int32) (σ : St) (H : Heap) (locs : List Loc) (ls : Array Slot), xW KM g s σ H locs → lv_has ls 7 [(0, .ref (g.q 0)), (1, .int x1), (2, .int x2), (3, .int x3)] → f_X12_bestOf_89 N n x1 x2 x3 σ = some (r, σ') → W p l e rm_X12_bestOf s m args below meth c H locs 0 0 (MQ below (xPost KM g (some (.int r)) σ') args s 0 0 (xA KM g.q)) (F0 m 89 ls []) := by
  have hx := C.1
  have hb := C.2.1
  intro n
  induction n with
  | zero => intro x1 x2 x3 σ H locs ls hW hl h; rw [f_X12_bestOf_89] at h; cases h
  | succ n ih =>
    intro x1 x2 x3 σ H locs ls hW hl h
    rw [f_X12_bestOf_89] at h
    refine lv_iload_n hx hb dX12_bestOf_89 rfl (lv_at hl 3 rfl) ?_
    refine lv_if_lt (tgt := 294) hx hb dX12_bestOf_90 (by decide) (fun c16 => ?_) (fun c16 => ?_)
    · have h := xit c16 h
      refine lv_iconst (v := (-1)) hx hb dX12_bestOf_294 rfl ?_
      refine lv_istore_n (lv' := [(3, .int ((-1))), (0, .ref (g.q 0)), (1, .int x1), (2, .int x2)]) hx hb dX12_bestOf_295 rfl hl (Nat.le_of_ble_eq_true rfl) rfl (fun ls hl => ?_)
      refine lv_iconst (v := 0) hx hb dX12_bestOf_296 rfl ?_
      refine lv_istore (lv' := [(4, .int 0), (3, .int ((-1))), (0, .ref (g.q 0)), (1, .int x1), (2, .int x2)]) hx hb dX12_bestOf_297 hl (Nat.le_of_ble_eq_true rfl) rfl (fun ls hl => ?_)
      exact w_X12_bestOf_299 N C N x1 x2 ((-1)) 0 _ _ _ _ hW (lv_sub hl [2, 3, 4, 1, 0] rfl) h
    · have h := xif c16 h
      refine lv_aload_n hx hb dX12_bestOf_93 rfl (lv_at hl 0 rfl) ?_
      refine xg_r C hW fg_12_133 KM_0 rfl dX12_bestOf_94 ?_
      refine lv_iload_n hx hb dX12_bestOf_97 rfl (lv_at hl 3 rfl) ?_
      refine lv_iload_n hx hb dX12_bestOf_98 rfl (lv_at hl 3 rfl) ?_
      refine lv_aload_n hx hb dX12_bestOf_99 rfl (lv_at hl 0 rfl) ?_
      refine xg_r C hW fg_12_106 KM_0 rfl dX12_bestOf_100 ?_
      refine lv_iload_n hx hb dX12_bestOf_103 rfl (lv_at hl 1 rfl) ?_
      obtain ⟨g17, h⟩ := xgd h
      refine xa_i C hW KM_31 g17 (x := σ.1 31 x1.toNatClampNeg) rfl dX12_bestOf_104 ?_
      refine lv_icmp_ne (tgt := 112) hx hb dX12_bestOf_105 (by decide) (fun c18 => ?_) (fun c18 => ?_)
      · have h := xif c18 h
        refine lv_ldcw (v := 1000000000) hx hb C.ow (C.hts _ kc_X12_435) dX12_bestOf_112 ?_
        exact w_X12_bestOf_115 N (f_X12_bestOf_89 N n) C ih x1 x2 x3 x3 1000000000 _ _ _ _ hW (lv_sub hl [0, 1, 2, 3] rfl) h
      · have h := xit c18 h
        refine lv_iconst (v := 0) hx hb dX12_bestOf_108 rfl ?_
        refine lv_goto (tgt := 115) hx hb dX12_bestOf_109 (by decide) ?_
        exact w_X12_bestOf_115 N (f_X12_bestOf_89 N n) C ih x1 x2 x3 x3 0 _ _ _ _ hW (lv_sub hl [0, 1, 2, 3] rfl) h
set_option maxRecDepth 4000 in
theorem w_X12_bestOf_82 (N : Nat) {r : Int32} {σ' : St} (C : xC KM g RX12 cX12_bestOf 7 (some .int) p s m args meth c) : ∀ (x1 : Int32) (x2 : Int32) (σ : St) (H : Heap) (locs : List Loc) (ls : Array Slot), xW KM g s σ H locs → lv_has ls 7 [(0, .ref (g.q 0)), (1, .int x1), (2, .int x2)] → f_X12_bestOf_82 N x1 x2 σ = some (r, σ') → W p l e rm_X12_bestOf s m args below meth c H locs 0 0 (MQ below (xPost KM g (some (.int r)) σ') args s 0 0 (xA KM g.q)) (F0 m 82 ls []) := by
  have hx := C.1
  have hb := C.2.1
  intro x1 x2 σ H locs ls hW hl h
  unfold f_X12_bestOf_82 at h
  refine lv_aload_n hx hb dX12_bestOf_82 rfl (lv_at hl 0 rfl) ?_
  refine xg_r C hW fg_12_106 KM_0 rfl dX12_bestOf_83 ?_
  refine lv_iload_n hx hb dX12_bestOf_86 rfl (lv_at hl 1 rfl) ?_
  obtain ⟨g15, h⟩ := xgd h
  refine xa_i C hW KM_31 g15 (x := σ.1 31 x1.toNatClampNeg) rfl dX12_bestOf_87 ?_
  refine lv_istore_n (lv' := [(3, .int (σ.1 31 x1.toNatClampNeg)), (0, .ref (g.q 0)), (1, .int x1), (2, .int x2)]) hx hb dX12_bestOf_88 rfl hl (Nat.le_of_ble_eq_true rfl) rfl (fun ls hl => ?_)
  exact w_X12_bestOf_89 N C N x1 x2 (σ.1 31 x1.toNatClampNeg) _ _ _ _ hW (lv_sub hl [1, 2, 3, 0] rfl) h
set_option maxRecDepth 4000 in
theorem w_X12_bestOf_64 (N : Nat) {r : Int32} {σ' : St} (C : xC KM g RX12 cX12_bestOf 7 (some .int) p s m args meth c) : ∀ (x1 : Int32) (x2 : Int32) (σ : St) (H : Heap) (locs : List Loc) (ls : Array Slot), xW KM g s σ H locs → lv_has ls 7 [(0, .ref (g.q 0)), (1, .int x1), (2, .int x2)] → f_X12_bestOf_64 N x1 x2 σ = some (r, σ') → W p l e rm_X12_bestOf s m args below meth c H locs 0 0 (MQ below (xPost KM g (some (.int r)) σ') args s 0 0 (xA KM g.q)) (F0 m 64 ls []) := by
  have hx := C.1
  have hb := C.2.1
  intro x1 x2 σ H locs ls hW hl h
  unfold f_X12_bestOf_64 at h
  refine lv_aload_n hx hb dX12_bestOf_64 rfl (lv_at hl 0 rfl) ?_
  refine xg_r C hW fg_12_112 KM_0 rfl dX12_bestOf_65 ?_
  refine lv_iload_n hx hb dX12_bestOf_68 rfl (lv_at hl 1 rfl) ?_
  obtain ⟨g12, h⟩ := xgd h
  refine xa_l C hW KM_33 g12 (x := σ.2 33 x1.toNatClampNeg) rfl dX12_bestOf_69 ?_
  refine lv_lconst (v := 0) hx hb dX12_bestOf_70 rfl ?_
  refine W.lcmp hx hb dX12_bestOf_71 ?_
  refine lv_if_eq (tgt := 82) hx hb dX12_bestOf_72 (by decide) (fun c13 => ?_) (fun c13 => ?_)
  · have h := xit c13 h
    exact w_X12_bestOf_82 N C x1 x2 _ _ _ _ hW (lv_sub hl [0, 1, 2] rfl) h
  · have h := xif c13 h
    refine lv_iload_n hx hb dX12_bestOf_75 rfl (lv_at hl 2 rfl) ?_
    refine lv_iconst (v := (-1)) hx hb dX12_bestOf_76 rfl ?_
    refine lv_icmp_ne (tgt := 82) hx hb dX12_bestOf_77 (by decide) (fun c14 => ?_) (fun c14 => ?_)
    · have h := xif c14 h
      exact w_X12_bestOf_82 N C x1 x2 _ _ _ _ hW (lv_sub hl [0, 1, 2] rfl) h
    · have h := xit c14 h
      refine lv_iconst (v := (-1)) hx hb dX12_bestOf_80 rfl ?_
      cases h
      exact xr_i C hW dX12_bestOf_81
set_option maxRecDepth 4000 in
theorem w_X12_bestOf_8 (N : Nat) {r : Int32} {σ' : St} (C : xC KM g RX12 cX12_bestOf 7 (some .int) p s m args meth c) : ∀ (n : Nat), ∀ (x1 : Int32) (x2 : Int32) (x3 : Int32) (σ : St) (H : Heap) (locs : List Loc) (ls : Array Slot), xW KM g s σ H locs → lv_has ls 7 [(0, .ref (g.q 0)), (1, .int x1), (2, .int x2), (3, .int x3)] → f_X12_bestOf_8 N n x1 x2 x3 σ = some (r, σ') → W p l e rm_X12_bestOf s m args below meth c H locs 0 0 (MQ below (xPost KM g (some (.int r)) σ') args s 0 0 (xA KM g.q)) (F0 m 8 ls []) := by
  have hx := C.1
  have hb := C.2.1
  intro n
  induction n with
  | zero => intro x1 x2 x3 σ H locs ls hW hl h; rw [f_X12_bestOf_8] at h; cases h
  | succ n ih =>
    intro x1 x2 x3 σ H locs ls hW hl h
    rw [f_X12_bestOf_8] at h
    refine lv_iload_n hx hb dX12_bestOf_8 rfl (lv_at hl 3 rfl) ?_
    refine lv_aload_n hx hb dX12_bestOf_9 rfl (lv_at hl 0 rfl) ?_
    refine xg_r C hW fg_12_21 KM_0 rfl dX12_bestOf_10 ?_
    refine lv_iconst (v := 0) hx hb dX12_bestOf_13 rfl ?_
    obtain ⟨g2, h⟩ := xgd h
    refine xa_i C hW KM_3 g2 (x := σ.1 3 0) rfl dX12_bestOf_14 ?_
    refine lv_icmp_ge (tgt := 64) hx hb dX12_bestOf_15 (by decide) (fun c3 => ?_) (fun c3 => ?_)
    · have h := xit c3 h
      exact w_X12_bestOf_64 N C x1 x2 _ _ _ _ hW (lv_sub hl [0, 1, 2] rfl) h
    · have h := xif c3 h
      refine lv_aload_n hx hb dX12_bestOf_18 rfl (lv_at hl 0 rfl) ?_
      refine xg_r C hW fg_12_112 KM_0 rfl dX12_bestOf_19 ?_
      refine lv_iload_n hx hb dX12_bestOf_22 rfl (lv_at hl 1 rfl) ?_
      obtain ⟨g4, h⟩ := xgd h
      refine xa_l C hW KM_33 g4 (x := σ.2 33 x1.toNatClampNeg) rfl dX12_bestOf_23 ?_
      refine lv_lconst (v := 0) hx hb dX12_bestOf_24 rfl ?_
      refine W.lcmp hx hb dX12_bestOf_25 ?_
      refine lv_if_eq (tgt := 64) hx hb dX12_bestOf_26 (by decide) (fun c5 => ?_) (fun c5 => ?_)
      · have h := xit c5 h
        exact w_X12_bestOf_64 N C x1 x2 _ _ _ _ hW (lv_sub hl [0, 1, 2] rfl) h
      · have h := xif c5 h
        refine lv_aload_n hx hb dX12_bestOf_29 rfl (lv_at hl 0 rfl) ?_
        refine lv_iload_n hx hb dX12_bestOf_30 rfl (lv_at hl 3 rfl) ?_
        refine lv_iload_n hx hb dX12_bestOf_31 rfl (lv_at hl 1 rfl) ?_
        obtain ⟨r6_, e6, h⟩ := xbo h
        refine xc_V (As := [.int x3, .int x1]) (rest := []) C hW (m_X12_isKind x3 x1 _ e6) mf_X12_isKind mv_X12_isKind ml_X12_417 ⟨rfl, rfl⟩ ⟨Nat.le_of_ble_eq_true rfl, Nat.le_of_ble_eq_true rfl⟩ KM_0 rfl hl.1 rfl rfl (Nat.le_of_ble_eq_true rfl) dX12_bestOf_32 (fun H locs hW => W.eq (g2 := F0 m 35 ls [.int r6_]) rfl ?_)
        refine lv_if_eq (tgt := 58) hx hb dX12_bestOf_35 (by decide) (fun c7 => ?_) (fun c7 => ?_)
        · have h := xit c7 h
          refine lv_iinc (v := x3 + 1) (lv' := [(3, .int (x3 + 1)), (0, .ref (g.q 0)), (1, .int x1), (2, .int x2)]) hx hb dX12_bestOf_58 hl (k := 3) rfl rfl (Nat.le_of_ble_eq_true rfl) rfl (fun ls hl => ?_)
          refine lv_goto (tgt := 8) hx hb dX12_bestOf_61 (by decide) ?_
          exact ih x1 x2 (x3 + 1) _ _ _ _ hW (lv_sub hl [1, 2, 3, 0] rfl) h
        · have h := xif c7 h
          refine lv_iload_n hx hb dX12_bestOf_38 rfl (lv_at hl 2 rfl) ?_
          refine lv_iconst (v := (-1)) hx hb dX12_bestOf_39 rfl ?_
          refine lv_icmp_eq (tgt := 56) hx hb dX12_bestOf_40 (by decide) (fun c8 => ?_) (fun c8 => ?_)
          · have h := xit c8 h
            refine lv_iload_n hx hb dX12_bestOf_56 rfl (lv_at hl 3 rfl) ?_
            refine lv_istore_n (lv' := [(2, .int x3), (0, .ref (g.q 0)), (1, .int x1), (3, .int x3)]) hx hb dX12_bestOf_57 rfl hl (Nat.le_of_ble_eq_true rfl) rfl (fun ls hl => ?_)
            refine lv_iinc (v := x3 + 1) (lv' := [(3, .int (x3 + 1)), (2, .int x3), (0, .ref (g.q 0)), (1, .int x1)]) hx hb dX12_bestOf_58 hl (k := 3) rfl rfl (Nat.le_of_ble_eq_true rfl) rfl (fun ls hl => ?_)
            refine lv_goto (tgt := 8) hx hb dX12_bestOf_61 (by decide) ?_
            exact ih x1 x3 (x3 + 1) _ _ _ _ hW (lv_sub hl [2, 3, 1, 0] rfl) h
          · have h := xif c8 h
            refine lv_aload_n hx hb dX12_bestOf_43 rfl (lv_at hl 0 rfl) ?_
            refine lv_iload_n hx hb dX12_bestOf_44 rfl (lv_at hl 3 rfl) ?_
            obtain ⟨r9_, e9, h⟩ := xbo h
            refine xc_V (As := [.int x3]) (rest := []) C hW (m_X12_paint x3 _ e9) mf_X12_paint mv_X12_paint ml_X12_473 ⟨rfl, rfl⟩ ⟨Nat.le_of_ble_eq_true rfl, Nat.le_of_ble_eq_true rfl⟩ KM_0 rfl hl.1 rfl rfl (Nat.le_of_ble_eq_true rfl) dX12_bestOf_45 (fun H locs hW => W.eq (g2 := F0 m 48 ls [.int r9_]) rfl ?_)
            refine lv_aload_n hx hb dX12_bestOf_48 rfl (lv_at hl 0 rfl) ?_
            refine lv_iload_n hx hb dX12_bestOf_49 rfl (lv_at hl 2 rfl) ?_
            obtain ⟨r10_, e10, h⟩ := xbo h
            refine xc_V (As := [.int x2]) (rest := [.int r9_]) C hW (m_X12_paint x2 _ e10) mf_X12_paint mv_X12_paint ml_X12_473 ⟨rfl, rfl⟩ ⟨Nat.le_of_ble_eq_true rfl, Nat.le_of_ble_eq_true rfl⟩ KM_0 rfl hl.1 rfl rfl (Nat.le_of_ble_eq_true rfl) dX12_bestOf_50 (fun H locs hW => W.eq (g2 := F0 m 53 ls [.int r10_, .int r9_]) rfl ?_)
            refine lv_icmp_ge (tgt := 58) hx hb dX12_bestOf_53 (by decide) (fun c11 => ?_) (fun c11 => ?_)
            · have h := xit c11 h
              refine lv_iinc (v := x3 + 1) (lv' := [(3, .int (x3 + 1)), (0, .ref (g.q 0)), (1, .int x1), (2, .int x2)]) hx hb dX12_bestOf_58 hl (k := 3) rfl rfl (Nat.le_of_ble_eq_true rfl) rfl (fun ls hl => ?_)
              refine lv_goto (tgt := 8) hx hb dX12_bestOf_61 (by decide) ?_
              exact ih x1 x2 (x3 + 1) _ _ _ _ hW (lv_sub hl [1, 2, 3, 0] rfl) h
            · have h := xif c11 h
              refine lv_iload_n hx hb dX12_bestOf_56 rfl (lv_at hl 3 rfl) ?_
              refine lv_istore_n (lv' := [(2, .int x3), (0, .ref (g.q 0)), (1, .int x1), (3, .int x3)]) hx hb dX12_bestOf_57 rfl hl (Nat.le_of_ble_eq_true rfl) rfl (fun ls hl => ?_)
              refine lv_iinc (v := x3 + 1) (lv' := [(3, .int (x3 + 1)), (2, .int x3), (0, .ref (g.q 0)), (1, .int x1)]) hx hb dX12_bestOf_58 hl (k := 3) rfl rfl (Nat.le_of_ble_eq_true rfl) rfl (fun ls hl => ?_)
              refine lv_goto (tgt := 8) hx hb dX12_bestOf_61 (by decide) ?_
              exact ih x1 x3 (x3 + 1) _ _ _ _ hW (lv_sub hl [2, 3, 1, 0] rfl) h
set_option maxRecDepth 4000 in
theorem m_X12_bestOf (N : Nat) (x1 : Int32) (σ : St) {r : Int32} {σ' : St} (h : f_X12_bestOf N x1 σ = some (r, σ')) : xM l KM g yX12_bestOf cX12_bestOf 7 (some .int) rm_X12_bestOf [.ref (g.q 0), .int x1] σ (some (.int r)) σ' := by
  refine xmet pn_X12 rfl (Nat.le_of_ble_eq_true rfl) (lv := [(0, .ref (g.q 0)), (1, .int x1)]) rfl (fun p e s m args below meth c ls C hW hl => ?_)
  have hx := C.1
  have hb := C.2.1
  unfold f_X12_bestOf at h
  refine lv_aload_n hx hb dX12_bestOf_0 rfl (lv_at hl 0 rfl) ?_
  obtain ⟨σ1, e1, h⟩ := xbo h
  refine xc_V (As := []) (rest := []) C hW (m_X12_asListed N _ e1) mf_X12_asListed mv_X12_asListed ml_X12_462 ⟨rfl, rfl⟩ ⟨Nat.le_of_ble_eq_true rfl, Nat.le_of_ble_eq_true rfl⟩ KM_0 rfl hl.1 rfl rfl (Nat.le_of_ble_eq_true rfl) dX12_bestOf_1 (fun H locs hW => W.eq (g2 := F0 m 4 ls []) rfl ?_)
  refine lv_iconst (v := (-1)) hx hb dX12_bestOf_4 rfl ?_
  refine lv_istore_n (lv' := [(2, .int ((-1))), (0, .ref (g.q 0)), (1, .int x1)]) hx hb dX12_bestOf_5 rfl hl (Nat.le_of_ble_eq_true rfl) rfl (fun ls hl => ?_)
  refine lv_iconst (v := 0) hx hb dX12_bestOf_6 rfl ?_
  refine lv_istore_n (lv' := [(3, .int 0), (2, .int ((-1))), (0, .ref (g.q 0)), (1, .int x1)]) hx hb dX12_bestOf_7 rfl hl (Nat.le_of_ble_eq_true rfl) rfl (fun ls hl => ?_)
  exact w_X12_bestOf_8 N C N x1 ((-1)) 0 _ _ _ _ hW (lv_sub hl [2, 3, 1, 0] rfl) h
end
theorem dX12_best_0 : decode cX12_best 0 = .ok (.aload_n 0, 1) := by decide +kernel
theorem dX12_best_1 : decode cX12_best 1 = .ok (.iload_n 1, 1) := by decide +kernel
theorem dX12_best_2 : decode cX12_best 2 = .ok (.invokevirtual 411, 3) := by decide +kernel
theorem dX12_best_5 : decode cX12_best 5 = .ok (.ifCond .eq 11, 3) := by decide +kernel
theorem dX12_best_8 : decode cX12_best 8 = .ok (.aload_n 0, 1) := by decide +kernel
theorem dX12_best_9 : decode cX12_best 9 = .ok (.iload_n 1, 1) := by decide +kernel
theorem dX12_best_10 : decode cX12_best 10 = .ok (.invokevirtual 479, 3) := by decide +kernel
theorem dX12_best_13 : decode cX12_best 13 = .ok (.goto 5, 3) := by decide +kernel
theorem dX12_best_16 : decode cX12_best 16 = .ok (.bipush (-2), 2) := by decide +kernel
theorem dX12_best_18 : decode cX12_best 18 = .ok (.ireturn, 1) := by decide +kernel
abbrev rm_X12_best : Room := { frames := 2, cells := 0, slots := 0, locals := 50 }
def f_X12_best (N : Nat) (x1 : Int32) (σ : St) : Option (Int32 × St) := bo (f_X12_isTerm x1 σ) (fun r1_ => (if r1_ = 0 then some ((-2), σ) else bd (f_X12_bestOf N x1 σ) (fun r3_ σ3 => some (r3_, σ3))))
section
variable {p : Program} {l : Launch} {e : Env} {s : State} {m : MethodId} {args : Array Value} {below : List Frame} {meth : Method} {c : Code} {g : XG}
set_option maxRecDepth 4000 in
theorem m_X12_best (N : Nat) (x1 : Int32) (σ : St) {r : Int32} {σ' : St} (h : f_X12_best N x1 σ = some (r, σ')) : xM l KM g yX12_best cX12_best 2 (some .int) rm_X12_best [.ref (g.q 0), .int x1] σ (some (.int r)) σ' := by
  refine xmet pn_X12 rfl (Nat.le_of_ble_eq_true rfl) (lv := [(0, .ref (g.q 0)), (1, .int x1)]) rfl (fun p e s m args below meth c ls C hW hl => ?_)
  have hx := C.1
  have hb := C.2.1
  unfold f_X12_best at h
  refine lv_aload_n hx hb dX12_best_0 rfl (lv_at hl 0 rfl) ?_
  refine lv_iload_n hx hb dX12_best_1 rfl (lv_at hl 1 rfl) ?_
  obtain ⟨r1_, e1, h⟩ := xbo h
  refine xc_V (As := [.int x1]) (rest := []) C hW (m_X12_isTerm x1 _ e1) mf_X12_isTerm mv_X12_isTerm ml_X12_411 ⟨rfl, rfl⟩ ⟨Nat.le_of_ble_eq_true rfl, Nat.le_of_ble_eq_true rfl⟩ KM_0 rfl hl.1 rfl rfl (Nat.le_of_ble_eq_true rfl) dX12_best_2 (fun H locs hW => W.eq (g2 := F0 m 5 ls [.int r1_]) rfl ?_)
  refine lv_if_eq (tgt := 16) hx hb dX12_best_5 (by decide) (fun c2 => ?_) (fun c2 => ?_)
  · have h := xit c2 h
    refine lv_bipush (v := (-2)) hx hb dX12_best_16 rfl ?_
    cases h
    exact xr_i C hW dX12_best_18
  · have h := xif c2 h
    refine lv_aload_n hx hb dX12_best_8 rfl (lv_at hl 0 rfl) ?_
    refine lv_iload_n hx hb dX12_best_9 rfl (lv_at hl 1 rfl) ?_
    obtain ⟨r3_, σ3, e3, h⟩ := xbd h
    refine xc_V (As := [.int x1]) (rest := []) C hW (m_X12_bestOf N x1 _ e3) mf_X12_bestOf mv_X12_bestOf ml_X12_479 ⟨rfl, rfl⟩ ⟨Nat.le_of_ble_eq_true rfl, Nat.le_of_ble_eq_true rfl⟩ KM_0 rfl hl.1 rfl rfl (Nat.le_of_ble_eq_true rfl) dX12_best_10 (fun H locs hW => W.eq (g2 := F0 m 13 ls [.int r3_]) rfl ?_)
    refine lv_goto (tgt := 18) hx hb dX12_best_13 (by decide) ?_
    cases h
    exact xr_i C hW dX12_best_18
end
theorem dX12_bestSign_0 : decode cX12_bestSign 0 = .ok (.aload_n 0, 1) := by decide +kernel
theorem dX12_bestSign_1 : decode cX12_bestSign 1 = .ok (.iload_n 1, 1) := by decide +kernel
theorem dX12_bestSign_2 : decode cX12_bestSign 2 = .ok (.invokevirtual 411, 3) := by decide +kernel
theorem dX12_bestSign_5 : decode cX12_bestSign 5 = .ok (.ifCond .eq 35, 3) := by decide +kernel
theorem dX12_bestSign_8 : decode cX12_bestSign 8 = .ok (.aload_n 0, 1) := by decide +kernel
theorem dX12_bestSign_9 : decode cX12_bestSign 9 = .ok (.iload_n 1, 1) := by decide +kernel
theorem dX12_bestSign_10 : decode cX12_bestSign 10 = .ok (.invokevirtual 479, 3) := by decide +kernel
theorem dX12_bestSign_13 : decode cX12_bestSign 13 = .ok (.iconst (-1), 1) := by decide +kernel
theorem dX12_bestSign_14 : decode cX12_bestSign 14 = .ok (.if_icmp .eq 26, 3) := by decide +kernel
theorem dX12_bestSign_17 : decode cX12_bestSign 17 = .ok (.iload_n 2, 1) := by decide +kernel
theorem dX12_bestSign_18 : decode cX12_bestSign 18 = .ok (.iconst 0, 1) := by decide +kernel
theorem dX12_bestSign_19 : decode cX12_bestSign 19 = .ok (.aload_n 0, 1) := by decide +kernel
theorem dX12_bestSign_20 : decode cX12_bestSign 20 = .ok (.getfield 476, 3) := by decide +kernel
theorem dX12_bestSign_23 : decode cX12_bestSign 23 = .ok (.iconst 1, 1) := by decide +kernel
theorem dX12_bestSign_24 : decode cX12_bestSign 24 = .ok (.isub, 1) := by decide +kernel
theorem dX12_bestSign_25 : decode cX12_bestSign 25 = .ok (.invokestatic 295, 3) := by decide +kernel
theorem dX12_bestSign_28 : decode cX12_bestSign 28 = .ok (.ifCond .eq 12, 3) := by decide +kernel
theorem dX12_bestSign_31 : decode cX12_bestSign 31 = .ok (.aload_n 0, 1) := by decide +kernel
theorem dX12_bestSign_32 : decode cX12_bestSign 32 = .ok (.getfield 142, 3) := by decide +kernel
theorem dX12_bestSign_35 : decode cX12_bestSign 35 = .ok (.iload_n 2, 1) := by decide +kernel
theorem dX12_bestSign_36 : decode cX12_bestSign 36 = .ok (.iaload, 1) := by decide +kernel
theorem dX12_bestSign_37 : decode cX12_bestSign 37 = .ok (.goto 4, 3) := by decide +kernel
theorem dX12_bestSign_40 : decode cX12_bestSign 40 = .ok (.iconst (-1), 1) := by decide +kernel
theorem dX12_bestSign_41 : decode cX12_bestSign 41 = .ok (.ireturn, 1) := by decide +kernel
abbrev rm_X12_bestSign : Room := { frames := 2, cells := 0, slots := 0, locals := 50 }
def f_X12_bestSign (N : Nat) (x1 : Int32) (x2 : Int32) (σ : St) : Option (Int32 × St) := bo (f_X12_isTerm x1 σ) (fun r1_ => (if r1_ = 0 then some ((-1), σ) else bd (f_X12_bestOf N x1 σ) (fun r3_ σ3 => (if r3_ = ((-1)) then some ((-1), σ3) else (if (f_X12_in x2 0 ((σ3.1 1068 0) - 1) σ3) = 0 then some ((-1), σ3) else grd (ib x2 10) (some (σ3.1 43 x2.toNatClampNeg, σ3)))))))
section
variable {p : Program} {l : Launch} {e : Env} {s : State} {m : MethodId} {args : Array Value} {below : List Frame} {meth : Method} {c : Code} {g : XG}
set_option maxRecDepth 4000 in
theorem m_X12_bestSign (N : Nat) (x1 : Int32) (x2 : Int32) (σ : St) {r : Int32} {σ' : St} (h : f_X12_bestSign N x1 x2 σ = some (r, σ')) : xM l KM g yX12_bestSign cX12_bestSign 3 (some .int) rm_X12_bestSign [.ref (g.q 0), .int x1, .int x2] σ (some (.int r)) σ' := by
  refine xmet pn_X12 rfl (Nat.le_of_ble_eq_true rfl) (lv := [(0, .ref (g.q 0)), (1, .int x1), (2, .int x2)]) rfl (fun p e s m args below meth c ls C hW hl => ?_)
  have hx := C.1
  have hb := C.2.1
  unfold f_X12_bestSign at h
  refine lv_aload_n hx hb dX12_bestSign_0 rfl (lv_at hl 0 rfl) ?_
  refine lv_iload_n hx hb dX12_bestSign_1 rfl (lv_at hl 1 rfl) ?_
  obtain ⟨r1_, e1, h⟩ := xbo h
  refine xc_V (As := [.int x1]) (rest := []) C hW (m_X12_isTerm x1 _ e1) mf_X12_isTerm mv_X12_isTerm ml_X12_411 ⟨rfl, rfl⟩ ⟨Nat.le_of_ble_eq_true rfl, Nat.le_of_ble_eq_true rfl⟩ KM_0 rfl hl.1 rfl rfl (Nat.le_of_ble_eq_true rfl) dX12_bestSign_2 (fun H locs hW => W.eq (g2 := F0 m 5 ls [.int r1_]) rfl ?_)
  refine lv_if_eq (tgt := 40) hx hb dX12_bestSign_5 (by decide) (fun c2 => ?_) (fun c2 => ?_)
  · have h := xit c2 h
    refine lv_iconst (v := (-1)) hx hb dX12_bestSign_40 rfl ?_
    cases h
    exact xr_i C hW dX12_bestSign_41
  · have h := xif c2 h
    refine lv_aload_n hx hb dX12_bestSign_8 rfl (lv_at hl 0 rfl) ?_
    refine lv_iload_n hx hb dX12_bestSign_9 rfl (lv_at hl 1 rfl) ?_
    obtain ⟨r3_, σ3, e3, h⟩ := xbd h
    refine xc_V (As := [.int x1]) (rest := []) C hW (m_X12_bestOf N x1 _ e3) mf_X12_bestOf mv_X12_bestOf ml_X12_479 ⟨rfl, rfl⟩ ⟨Nat.le_of_ble_eq_true rfl, Nat.le_of_ble_eq_true rfl⟩ KM_0 rfl hl.1 rfl rfl (Nat.le_of_ble_eq_true rfl) dX12_bestSign_10 (fun H locs hW => W.eq (g2 := F0 m 13 ls [.int r3_]) rfl ?_)
    refine lv_iconst (v := (-1)) hx hb dX12_bestSign_13 rfl ?_
    refine lv_icmp_eq (tgt := 40) hx hb dX12_bestSign_14 (by decide) (fun c4 => ?_) (fun c4 => ?_)
    · have h := xit c4 h
      refine lv_iconst (v := (-1)) hx hb dX12_bestSign_40 rfl ?_
      cases h
      exact xr_i C hW dX12_bestSign_41
    · have h := xif c4 h
      refine lv_iload_n hx hb dX12_bestSign_17 rfl (lv_at hl 2 rfl) ?_
      refine lv_iconst (v := 0) hx hb dX12_bestSign_18 rfl ?_
      refine lv_aload_n hx hb dX12_bestSign_19 rfl (lv_at hl 0 rfl) ?_
      refine xg_i C hW fg_12_476 KM_0 rfl (v := 1068) rfl (x := σ3.1 1068 0) rfl dX12_bestSign_20 ?_
      refine lv_iconst (v := 1) hx hb dX12_bestSign_23 rfl ?_
      refine lv_isub hx hb dX12_bestSign_24 ?_
      refine xc_S (As := [.int x2, .int 0, .int ((σ3.1 1068 0) - 1)]) (rest := []) C hW (m_X12_in x2 0 ((σ3.1 1068 0) - 1) _ rfl) mf_X12_in mt_X12_in ml_X12_295 ⟨rfl, rfl⟩ ⟨Nat.le_of_ble_eq_true rfl, Nat.le_of_ble_eq_true rfl⟩ hl.1 rfl rfl (Nat.le_of_ble_eq_true rfl) dX12_bestSign_25 (fun H locs hW => W.eq (g2 := F0 m 28 ls [.int (f_X12_in x2 0 ((σ3.1 1068 0) - 1) σ3)]) rfl ?_)
      refine lv_if_eq (tgt := 40) hx hb dX12_bestSign_28 (by decide) (fun c5 => ?_) (fun c5 => ?_)
      · have h := xit c5 h
        refine lv_iconst (v := (-1)) hx hb dX12_bestSign_40 rfl ?_
        cases h
        exact xr_i C hW dX12_bestSign_41
      · have h := xif c5 h
        refine lv_aload_n hx hb dX12_bestSign_31 rfl (lv_at hl 0 rfl) ?_
        refine xg_r C hW fg_12_142 KM_0 rfl dX12_bestSign_32 ?_
        refine lv_iload_n hx hb dX12_bestSign_35 rfl (lv_at hl 2 rfl) ?_
        obtain ⟨g6, h⟩ := xgd h
        refine xa_i C hW KM_43 g6 (x := σ3.1 43 x2.toNatClampNeg) rfl dX12_bestSign_36 ?_
        refine lv_goto (tgt := 41) hx hb dX12_bestSign_37 (by decide) ?_
        cases h
        exact xr_i C hW dX12_bestSign_41
end
