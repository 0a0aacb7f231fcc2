theorem dX12_scan_0 : decode cX12_scan 0 = .ok (.aload_n 0, 1) := by decide +kernel
theorem dX12_scan_1 : decode cX12_scan 1 = .ok (.getfield 236, 3) := by decide +kernel
theorem dX12_scan_4 : decode cX12_scan 4 = .ok (.istore_n 1, 1) := by decide +kernel
theorem dX12_scan_5 : decode cX12_scan 5 = .ok (.aload_n 0, 1) := by decide +kernel
theorem dX12_scan_6 : decode cX12_scan 6 = .ok (.iload_n 1, 1) := by decide +kernel
theorem dX12_scan_7 : decode cX12_scan 7 = .ok (.invokevirtual 254, 3) := by decide +kernel
theorem dX12_scan_10 : decode cX12_scan 10 = .ok (.bipush 32, 2) := by decide +kernel
theorem dX12_scan_12 : decode cX12_scan 12 = .ok (.if_icmp .eq 13, 3) := by decide +kernel
theorem dX12_scan_15 : decode cX12_scan 15 = .ok (.aload_n 0, 1) := by decide +kernel
theorem dX12_scan_16 : decode cX12_scan 16 = .ok (.iload_n 1, 1) := by decide +kernel
theorem dX12_scan_17 : decode cX12_scan 17 = .ok (.invokevirtual 254, 3) := by decide +kernel
theorem dX12_scan_20 : decode cX12_scan 20 = .ok (.bipush 10, 2) := by decide +kernel
theorem dX12_scan_22 : decode cX12_scan 22 = .ok (.if_icmp .ne 9, 3) := by decide +kernel
theorem dX12_scan_25 : decode cX12_scan 25 = .ok (.iinc 1 1, 3) := by decide +kernel
theorem dX12_scan_28 : decode cX12_scan 28 = .ok (.goto (-23), 3) := by decide +kernel
theorem dX12_scan_31 : decode cX12_scan 31 = .ok (.aload_n 0, 1) := by decide +kernel
theorem dX12_scan_32 : decode cX12_scan 32 = .ok (.iload_n 1, 1) := by decide +kernel
theorem dX12_scan_33 : decode cX12_scan 33 = .ok (.putfield 258, 3) := by decide +kernel
theorem dX12_scan_36 : decode cX12_scan 36 = .ok (.aload_n 0, 1) := by decide +kernel
theorem dX12_scan_37 : decode cX12_scan 37 = .ok (.iload_n 1, 1) := by decide +kernel
theorem dX12_scan_38 : decode cX12_scan 38 = .ok (.invokevirtual 254, 3) := by decide +kernel
theorem dX12_scan_41 : decode cX12_scan 41 = .ok (.istore_n 2, 1) := by decide +kernel
theorem dX12_scan_42 : decode cX12_scan 42 = .ok (.iload_n 1, 1) := by decide +kernel
theorem dX12_scan_43 : decode cX12_scan 43 = .ok (.iconst 1, 1) := by decide +kernel
theorem dX12_scan_44 : decode cX12_scan 44 = .ok (.iadd, 1) := by decide +kernel
theorem dX12_scan_45 : decode cX12_scan 45 = .ok (.istore_n 3, 1) := by decide +kernel
theorem dX12_scan_46 : decode cX12_scan 46 = .ok (.aload_n 0, 1) := by decide +kernel
theorem dX12_scan_47 : decode cX12_scan 47 = .ok (.iconst (-1), 1) := by decide +kernel
theorem dX12_scan_48 : decode cX12_scan 48 = .ok (.putfield 261, 3) := by decide +kernel
theorem dX12_scan_51 : decode cX12_scan 51 = .ok (.iload_n 2, 1) := by decide +kernel
theorem dX12_scan_52 : decode cX12_scan 52 = .ok (.iconst (-1), 1) := by decide +kernel
theorem dX12_scan_53 : decode cX12_scan 53 = .ok (.if_icmp .ne 14, 3) := by decide +kernel
theorem dX12_scan_56 : decode cX12_scan 56 = .ok (.aload_n 0, 1) := by decide +kernel
theorem dX12_scan_57 : decode cX12_scan 57 = .ok (.bipush 10, 2) := by decide +kernel
theorem dX12_scan_59 : decode cX12_scan 59 = .ok (.putfield 264, 3) := by decide +kernel
theorem dX12_scan_62 : decode cX12_scan 62 = .ok (.iload_n 1, 1) := by decide +kernel
theorem dX12_scan_63 : decode cX12_scan 63 = .ok (.istore_n 3, 1) := by decide +kernel
theorem dX12_scan_64 : decode cX12_scan 64 = .ok (.goto 271, 3) := by decide +kernel
theorem dX12_scan_67 : decode cX12_scan 67 = .ok (.iload_n 2, 1) := by decide +kernel
theorem dX12_scan_68 : decode cX12_scan 68 = .ok (.invokestatic 267, 3) := by decide +kernel
theorem dX12_scan_71 : decode cX12_scan 71 = .ok (.ifCond .eq 100, 3) := by decide +kernel
theorem dX12_scan_74 : decode cX12_scan 74 = .ok (.aload_n 0, 1) := by decide +kernel
theorem dX12_scan_75 : decode cX12_scan 75 = .ok (.lconst 0, 1) := by decide +kernel
theorem dX12_scan_76 : decode cX12_scan 76 = .ok (.putfield 271, 3) := by decide +kernel
theorem dX12_scan_79 : decode cX12_scan 79 = .ok (.iload_n 1, 1) := by decide +kernel
theorem dX12_scan_80 : decode cX12_scan 80 = .ok (.istore_n 3, 1) := by decide +kernel
theorem dX12_scan_81 : decode cX12_scan 81 = .ok (.aload_n 0, 1) := by decide +kernel
theorem dX12_scan_82 : decode cX12_scan 82 = .ok (.iload_n 3, 1) := by decide +kernel
theorem dX12_scan_83 : decode cX12_scan 83 = .ok (.invokevirtual 254, 3) := by decide +kernel
theorem dX12_scan_86 : decode cX12_scan 86 = .ok (.invokestatic 267, 3) := by decide +kernel
theorem dX12_scan_89 : decode cX12_scan 89 = .ok (.ifCond .eq 42, 3) := by decide +kernel
theorem dX12_scan_92 : decode cX12_scan 92 = .ok (.iload_n 3, 1) := by decide +kernel
theorem dX12_scan_93 : decode cX12_scan 93 = .ok (.iload_n 1, 1) := by decide +kernel
theorem dX12_scan_94 : decode cX12_scan 94 = .ok (.isub, 1) := by decide +kernel
theorem dX12_scan_95 : decode cX12_scan 95 = .ok (.bipush 12, 2) := by decide +kernel
theorem dX12_scan_97 : decode cX12_scan 97 = .ok (.if_icmp .ge 28, 3) := by decide +kernel
theorem dX12_scan_100 : decode cX12_scan 100 = .ok (.aload_n 0, 1) := by decide +kernel
theorem dX12_scan_101 : decode cX12_scan 101 = .ok (.ldc2_w 275, 3) := by decide +kernel
theorem dX12_scan_104 : decode cX12_scan 104 = .ok (.aload_n 0, 1) := by decide +kernel
theorem dX12_scan_105 : decode cX12_scan 105 = .ok (.getfield 271, 3) := by decide +kernel
theorem dX12_scan_108 : decode cX12_scan 108 = .ok (.lmul, 1) := by decide +kernel
theorem dX12_scan_109 : decode cX12_scan 109 = .ok (.aload_n 0, 1) := by decide +kernel
theorem dX12_scan_110 : decode cX12_scan 110 = .ok (.iload_n 3, 1) := by decide +kernel
theorem dX12_scan_111 : decode cX12_scan 111 = .ok (.invokevirtual 254, 3) := by decide +kernel
theorem dX12_scan_114 : decode cX12_scan 114 = .ok (.i2l, 1) := by decide +kernel
theorem dX12_scan_115 : decode cX12_scan 115 = .ok (.ladd, 1) := by decide +kernel
theorem dX12_scan_116 : decode cX12_scan 116 = .ok (.ldc2_w 277, 3) := by decide +kernel
theorem dX12_scan_119 : decode cX12_scan 119 = .ok (.lsub, 1) := by decide +kernel
theorem dX12_scan_120 : decode cX12_scan 120 = .ok (.lconst 1, 1) := by decide +kernel
theorem dX12_scan_121 : decode cX12_scan 121 = .ok (.ladd, 1) := by decide +kernel
theorem dX12_scan_122 : decode cX12_scan 122 = .ok (.putfield 271, 3) := by decide +kernel
theorem dX12_scan_125 : decode cX12_scan 125 = .ok (.iinc 3 1, 3) := by decide +kernel
theorem dX12_scan_128 : decode cX12_scan 128 = .ok (.goto (-47), 3) := by decide +kernel
theorem dX12_scan_131 : decode cX12_scan 131 = .ok (.aload_n 0, 1) := by decide +kernel
theorem dX12_scan_132 : decode cX12_scan 132 = .ok (.iload_n 3, 1) := by decide +kernel
theorem dX12_scan_133 : decode cX12_scan 133 = .ok (.iload_n 1, 1) := by decide +kernel
theorem dX12_scan_134 : decode cX12_scan 134 = .ok (.isub, 1) := by decide +kernel
theorem dX12_scan_135 : decode cX12_scan 135 = .ok (.bipush 12, 2) := by decide +kernel
theorem dX12_scan_137 : decode cX12_scan 137 = .ok (.if_icmp .le 7, 3) := by decide +kernel
theorem dX12_scan_140 : decode cX12_scan 140 = .ok (.iconst 0, 1) := by decide +kernel
theorem dX12_scan_141 : decode cX12_scan 141 = .ok (.goto 4, 3) := by decide +kernel
theorem dX12_scan_144 : decode cX12_scan 144 = .ok (.iconst 1, 1) := by decide +kernel
theorem dX12_scan_145 : decode cX12_scan 145 = .ok (.putfield 264, 3) := by decide +kernel
theorem dX12_scan_148 : decode cX12_scan 148 = .ok (.aload_n 0, 1) := by decide +kernel
theorem dX12_scan_149 : decode cX12_scan 149 = .ok (.getfield 264, 3) := by decide +kernel
theorem dX12_scan_152 : decode cX12_scan 152 = .ok (.iconst 1, 1) := by decide +kernel
theorem dX12_scan_153 : decode cX12_scan 153 = .ok (.if_icmp .ne 182, 3) := by decide +kernel
theorem dX12_scan_156 : decode cX12_scan 156 = .ok (.aload_n 0, 1) := by decide +kernel
theorem dX12_scan_157 : decode cX12_scan 157 = .ok (.aload_n 0, 1) := by decide +kernel
theorem dX12_scan_158 : decode cX12_scan 158 = .ok (.iload_n 1, 1) := by decide +kernel
theorem dX12_scan_159 : decode cX12_scan 159 = .ok (.iload_n 3, 1) := by decide +kernel
theorem dX12_scan_160 : decode cX12_scan 160 = .ok (.iload_n 1, 1) := by decide +kernel
theorem dX12_scan_161 : decode cX12_scan 161 = .ok (.isub, 1) := by decide +kernel
theorem dX12_scan_162 : decode cX12_scan 162 = .ok (.invokevirtual 279, 3) := by decide +kernel
theorem dX12_scan_165 : decode cX12_scan 165 = .ok (.putfield 261, 3) := by decide +kernel
theorem dX12_scan_168 : decode cX12_scan 168 = .ok (.goto 167, 3) := by decide +kernel
theorem dX12_scan_171 : decode cX12_scan 171 = .ok (.iload_n 2, 1) := by decide +kernel
theorem dX12_scan_172 : decode cX12_scan 172 = .ok (.invokestatic 283, 3) := by decide +kernel
theorem dX12_scan_175 : decode cX12_scan 175 = .ok (.ifCond .eq 81, 3) := by decide +kernel
theorem dX12_scan_178 : decode cX12_scan 178 = .ok (.aload_n 0, 1) := by decide +kernel
theorem dX12_scan_179 : decode cX12_scan 179 = .ok (.iload_n 2, 1) := by decide +kernel
theorem dX12_scan_180 : decode cX12_scan 180 = .ok (.bipush 48, 2) := by decide +kernel
theorem dX12_scan_182 : decode cX12_scan 182 = .ok (.isub, 1) := by decide +kernel
theorem dX12_scan_183 : decode cX12_scan 183 = .ok (.putfield 286, 3) := by decide +kernel
theorem dX12_scan_186 : decode cX12_scan 186 = .ok (.aload_n 0, 1) := by decide +kernel
theorem dX12_scan_187 : decode cX12_scan 187 = .ok (.iload_n 3, 1) := by decide +kernel
theorem dX12_scan_188 : decode cX12_scan 188 = .ok (.invokevirtual 254, 3) := by decide +kernel
theorem dX12_scan_191 : decode cX12_scan 191 = .ok (.invokestatic 283, 3) := by decide +kernel
theorem dX12_scan_194 : decode cX12_scan 194 = .ok (.ifCond .eq 43, 3) := by decide +kernel
theorem dX12_scan_197 : decode cX12_scan 197 = .ok (.aload_n 0, 1) := by decide +kernel
theorem dX12_scan_198 : decode cX12_scan 198 = .ok (.iload_n 3, 1) := by decide +kernel
theorem dX12_scan_199 : decode cX12_scan 199 = .ok (.iload_n 1, 1) := by decide +kernel
theorem dX12_scan_200 : decode cX12_scan 200 = .ok (.isub, 1) := by decide +kernel
theorem dX12_scan_201 : decode cX12_scan 201 = .ok (.iconst 4, 1) := by decide +kernel
theorem dX12_scan_202 : decode cX12_scan 202 = .ok (.if_icmp .ge 22, 3) := by decide +kernel
theorem dX12_scan_205 : decode cX12_scan 205 = .ok (.bipush 10, 2) := by decide +kernel
theorem dX12_scan_207 : decode cX12_scan 207 = .ok (.aload_n 0, 1) := by decide +kernel
theorem dX12_scan_208 : decode cX12_scan 208 = .ok (.getfield 286, 3) := by decide +kernel
theorem dX12_scan_211 : decode cX12_scan 211 = .ok (.imul, 1) := by decide +kernel
theorem dX12_scan_212 : decode cX12_scan 212 = .ok (.aload_n 0, 1) := by decide +kernel
theorem dX12_scan_213 : decode cX12_scan 213 = .ok (.iload_n 3, 1) := by decide +kernel
theorem dX12_scan_214 : decode cX12_scan 214 = .ok (.invokevirtual 254, 3) := by decide +kernel
theorem dX12_scan_217 : decode cX12_scan 217 = .ok (.iadd, 1) := by decide +kernel
theorem dX12_scan_218 : decode cX12_scan 218 = .ok (.bipush 48, 2) := by decide +kernel
theorem dX12_scan_220 : decode cX12_scan 220 = .ok (.isub, 1) := by decide +kernel
theorem dX12_scan_221 : decode cX12_scan 221 = .ok (.goto 7, 3) := by decide +kernel
theorem dX12_scan_224 : decode cX12_scan 224 = .ok (.aload_n 0, 1) := by decide +kernel
theorem dX12_scan_225 : decode cX12_scan 225 = .ok (.getfield 286, 3) := by decide +kernel
theorem dX12_scan_228 : decode cX12_scan 228 = .ok (.putfield 286, 3) := by decide +kernel
theorem dX12_scan_231 : decode cX12_scan 231 = .ok (.iinc 3 1, 3) := by decide +kernel
theorem dX12_scan_234 : decode cX12_scan 234 = .ok (.goto (-48), 3) := by decide +kernel
theorem dX12_scan_237 : decode cX12_scan 237 = .ok (.aload_n 0, 1) := by decide +kernel
theorem dX12_scan_238 : decode cX12_scan 238 = .ok (.iload_n 3, 1) := by decide +kernel
theorem dX12_scan_239 : decode cX12_scan 239 = .ok (.iload_n 1, 1) := by decide +kernel
theorem dX12_scan_240 : decode cX12_scan 240 = .ok (.isub, 1) := by decide +kernel
theorem dX12_scan_241 : decode cX12_scan 241 = .ok (.iconst 4, 1) := by decide +kernel
theorem dX12_scan_242 : decode cX12_scan 242 = .ok (.if_icmp .le 7, 3) := by decide +kernel
theorem dX12_scan_245 : decode cX12_scan 245 = .ok (.iconst 0, 1) := by decide +kernel
theorem dX12_scan_246 : decode cX12_scan 246 = .ok (.goto 4, 3) := by decide +kernel
theorem dX12_scan_249 : decode cX12_scan 249 = .ok (.iconst 2, 1) := by decide +kernel
theorem dX12_scan_250 : decode cX12_scan 250 = .ok (.putfield 264, 3) := by decide +kernel
theorem dX12_scan_253 : decode cX12_scan 253 = .ok (.goto 82, 3) := by decide +kernel
theorem dX12_scan_256 : decode cX12_scan 256 = .ok (.aload_n 0, 1) := by decide +kernel
theorem dX12_scan_257 : decode cX12_scan 257 = .ok (.iload_n 2, 1) := by decide +kernel
theorem dX12_scan_258 : decode cX12_scan 258 = .ok (.bipush 59, 2) := by decide +kernel
theorem dX12_scan_260 : decode cX12_scan 260 = .ok (.if_icmp .ne 7, 3) := by decide +kernel
theorem dX12_scan_263 : decode cX12_scan 263 = .ok (.iconst 3, 1) := by decide +kernel
theorem dX12_scan_264 : decode cX12_scan 264 = .ok (.goto 68, 3) := by decide +kernel
theorem dX12_scan_267 : decode cX12_scan 267 = .ok (.iload_n 2, 1) := by decide +kernel
theorem dX12_scan_268 : decode cX12_scan 268 = .ok (.bipush 58, 2) := by decide +kernel
theorem dX12_scan_270 : decode cX12_scan 270 = .ok (.if_icmp .ne 7, 3) := by decide +kernel
theorem dX12_scan_273 : decode cX12_scan 273 = .ok (.iconst 4, 1) := by decide +kernel
theorem dX12_scan_274 : decode cX12_scan 274 = .ok (.goto 58, 3) := by decide +kernel
theorem dX12_scan_277 : decode cX12_scan 277 = .ok (.iload_n 2, 1) := by decide +kernel
theorem dX12_scan_278 : decode cX12_scan 278 = .ok (.bipush 42, 2) := by decide +kernel
theorem dX12_scan_280 : decode cX12_scan 280 = .ok (.if_icmp .ne 7, 3) := by decide +kernel
theorem dX12_scan_283 : decode cX12_scan 283 = .ok (.iconst 5, 1) := by decide +kernel
theorem dX12_scan_284 : decode cX12_scan 284 = .ok (.goto 48, 3) := by decide +kernel
theorem dX12_scan_287 : decode cX12_scan 287 = .ok (.iload_n 2, 1) := by decide +kernel
theorem dX12_scan_288 : decode cX12_scan 288 = .ok (.bipush 38, 2) := by decide +kernel
theorem dX12_scan_290 : decode cX12_scan 290 = .ok (.if_icmp .ne 8, 3) := by decide +kernel
theorem dX12_scan_293 : decode cX12_scan 293 = .ok (.bipush 6, 2) := by decide +kernel
theorem dX12_scan_295 : decode cX12_scan 295 = .ok (.goto 37, 3) := by decide +kernel
theorem dX12_scan_298 : decode cX12_scan 298 = .ok (.iload_n 2, 1) := by decide +kernel
theorem dX12_scan_299 : decode cX12_scan 299 = .ok (.bipush 45, 2) := by decide +kernel
theorem dX12_scan_301 : decode cX12_scan 301 = .ok (.if_icmp .ne 8, 3) := by decide +kernel
theorem dX12_scan_304 : decode cX12_scan 304 = .ok (.bipush 7, 2) := by decide +kernel
theorem dX12_scan_306 : decode cX12_scan 306 = .ok (.goto 26, 3) := by decide +kernel
theorem dX12_scan_309 : decode cX12_scan 309 = .ok (.iload_n 2, 1) := by decide +kernel
theorem dX12_scan_310 : decode cX12_scan 310 = .ok (.bipush 40, 2) := by decide +kernel
theorem dX12_scan_312 : decode cX12_scan 312 = .ok (.if_icmp .ne 8, 3) := by decide +kernel
theorem dX12_scan_315 : decode cX12_scan 315 = .ok (.bipush 8, 2) := by decide +kernel
theorem dX12_scan_317 : decode cX12_scan 317 = .ok (.goto 15, 3) := by decide +kernel
theorem dX12_scan_320 : decode cX12_scan 320 = .ok (.iload_n 2, 1) := by decide +kernel
theorem dX12_scan_321 : decode cX12_scan 321 = .ok (.bipush 41, 2) := by decide +kernel
theorem dX12_scan_323 : decode cX12_scan 323 = .ok (.if_icmp .ne 8, 3) := by decide +kernel
theorem dX12_scan_326 : decode cX12_scan 326 = .ok (.bipush 9, 2) := by decide +kernel
theorem dX12_scan_328 : decode cX12_scan 328 = .ok (.goto 4, 3) := by decide +kernel
theorem dX12_scan_331 : decode cX12_scan 331 = .ok (.iconst 0, 1) := by decide +kernel
theorem dX12_scan_332 : decode cX12_scan 332 = .ok (.putfield 264, 3) := by decide +kernel
theorem dX12_scan_335 : decode cX12_scan 335 = .ok (.aload_n 0, 1) := by decide +kernel
theorem dX12_scan_336 : decode cX12_scan 336 = .ok (.iload_n 3, 1) := by decide +kernel
theorem dX12_scan_337 : decode cX12_scan 337 = .ok (.putfield 236, 3) := by decide +kernel
theorem dX12_scan_340 : decode cX12_scan 340 = .ok (.return_, 1) := by decide +kernel
abbrev rm_X12_scan : Room := { frames := 5, cells := 0, slots := 0, locals := 147 }
def f_X12_scan_335 (N : Nat) (x3 : Int32) (σ : St) : Option St := some ((si σ 1006 0 x3))
def f_X12_scan_145 (N : Nat) (x1 : Int32) (x3 : Int32) (t1 : Int32) (σ : St) : Option St := (if t1 = 1 then bo (f_X12_keyAt N x1 (x3 - x1) (si σ 1003 0 t1)) (fun r22_ => f_X12_scan_335 N x3 (si (si σ 1003 0 t1) 1004 0 r22_)) else f_X12_scan_335 N x3 (si σ 1003 0 t1))
def f_X12_scan_81 (N : Nat) : Nat → Int32 → Int32 → St → Option St
  | 0, _, _, _ => none
  | n + 1, x1, x3, σ => bo (f_X12_see x3 σ) (fun r16_ => (if (f_X12_isSmall r16_ σ) = 0 then (if (x3 - x1) ≤ 12 then f_X12_scan_145 N x1 x3 1 σ else f_X12_scan_145 N x1 x3 0 σ) else (if 12 ≤ (x3 - x1) then f_X12_scan_81 N n x1 (x3 + 1) σ else bo (f_X12_see x3 σ) (fun r20_ => f_X12_scan_81 N n x1 (x3 + 1) (sl σ 1010 0 ((((32 * (σ.2 1010 0)) + r20_.toInt64) - 97) + 1))))))
def f_X12_scan_228 (N : Nat) (k186 : Int32 → Int32 → St → Option St) (x1 : Int32) (x3 : Int32) (t1 : Int32) (σ : St) : Option St := k186 x1 (x3 + 1) (si σ 1007 0 t1)
def f_X12_scan_250 (N : Nat) (x3 : Int32) (t1 : Int32) (σ : St) : Option St := f_X12_scan_335 N x3 (si σ 1003 0 t1)
def f_X12_scan_186 (N : Nat) : Nat → Int32 → Int32 → St → Option St
  | 0, _, _, _ => none
  | n + 1, x1, x3, σ => bo (f_X12_see x3 σ) (fun r23_ => (if (f_X12_isDigit r23_ σ) = 0 then (if (x3 - x1) ≤ 4 then f_X12_scan_250 N x3 2 σ else f_X12_scan_250 N x3 0 σ) else (if 4 ≤ (x3 - x1) then f_X12_scan_228 N (f_X12_scan_186 N n) x1 x3 (σ.1 1007 0) σ else bo (f_X12_see x3 σ) (fun r27_ => f_X12_scan_228 N (f_X12_scan_186 N n) x1 x3 (((10 * (σ.1 1007 0)) + r27_) - 48) σ))))
def f_X12_scan_332 (N : Nat) (x3 : Int32) (t1 : Int32) (σ : St) : Option St := f_X12_scan_335 N x3 (si σ 1003 0 t1)
def f_X12_scan_5 (N : Nat) : Nat → Int32 → St → Option St
  | 0, _, _ => none
  | n + 1, x1, σ => bo (f_X12_see x1 σ) (fun r1_ => (if r1_ = 32 then f_X12_scan_5 N n (x1 + 1) σ else bo (f_X12_see x1 σ) (fun r3_ => (if r3_ = 10 then f_X12_scan_5 N n (x1 + 1) σ else bo (f_X12_see x1 (si σ 1005 0 x1)) (fun r5_ => (if r5_ = ((-1)) then f_X12_scan_335 N x1 (si (si (si σ 1005 0 x1) 1004 0 ((-1))) 1003 0 10) else (if (f_X12_isSmall r5_ (si (si σ 1005 0 x1) 1004 0 ((-1)))) = 0 then (if (f_X12_isDigit r5_ (si (si σ 1005 0 x1) 1004 0 ((-1)))) = 0 then (if r5_ = 59 then f_X12_scan_332 N (x1 + 1) 3 (si (si σ 1005 0 x1) 1004 0 ((-1))) else (if r5_ = 58 then f_X12_scan_332 N (x1 + 1) 4 (si (si σ 1005 0 x1) 1004 0 ((-1))) else (if r5_ = 42 then f_X12_scan_332 N (x1 + 1) 5 (si (si σ 1005 0 x1) 1004 0 ((-1))) else (if r5_ = 38 then f_X12_scan_332 N (x1 + 1) 6 (si (si σ 1005 0 x1) 1004 0 ((-1))) else (if r5_ = 45 then f_X12_scan_332 N (x1 + 1) 7 (si (si σ 1005 0 x1) 1004 0 ((-1))) else (if r5_ = 40 then f_X12_scan_332 N (x1 + 1) 8 (si (si σ 1005 0 x1) 1004 0 ((-1))) else (if r5_ = 41 then f_X12_scan_332 N (x1 + 1) 9 (si (si σ 1005 0 x1) 1004 0 ((-1))) else f_X12_scan_332 N (x1 + 1) 0 (si (si σ 1005 0 x1) 1004 0 ((-1)))))))))) else f_X12_scan_186 N N x1 (x1 + 1) (si (si (si σ 1005 0 x1) 1004 0 ((-1))) 1007 0 (r5_ - 48))) else f_X12_scan_81 N N x1 x1 (sl (si (si σ 1005 0 x1) 1004 0 ((-1))) 1010 0 0))))))))
def f_X12_scan (N : Nat) (σ : St) : Option St := f_X12_scan_5 N N (σ.1 1006 0) σ
section
variable {p : Program} {l : Launch} {e : Env} {s : State} {m : MethodId} {args : Array Value} {below : List Frame} {meth : Method} {c : Code} {g : XG}
set_option maxRecDepth 4000 in
theorem w_X12_scan_335 (N : Nat) {σ' : St} (C : xC KM g RX12 cX12_scan 4 none p s m args meth c) : ∀ (x3 : Int32) (σ : St) (H : Heap) (locs : List Loc) (ls : Array Slot), xW KM g s σ H locs → lv_has ls 4 [(0, .ref (g.q 0)), (3, .int x3)] → f_X12_scan_335 N x3 σ = some σ' → W p l e rm_X12_scan s m args below meth c H locs 0 0 (MQ below (xPost KM g none σ') args s 0 0 (xA KM g.q)) (F0 m 335 ls []) := by
  have hx := C.1
  have hb := C.2.1
  intro x3 σ H locs ls hW hl h
  unfold f_X12_scan_335 at h
  refine lv_aload_n hx hb dX12_scan_335 rfl (lv_at hl 0 rfl) ?_
  refine lv_iload_n hx hb dX12_scan_336 rfl (lv_at hl 1 rfl) ?_
  refine xp_i C hW fp_12_236 KM_0 rfl (v := 1006) rfl rfl rfl dX12_scan_337 (fun H locs hW => ?_)
  cases h
  exact xr_v C hW dX12_scan_340
set_option maxRecDepth 4000 in
theorem w_X12_scan_145 (N : Nat) {σ' : St} (C : xC KM g RX12 cX12_scan 4 none p s m args meth c) : ∀ (x1 : Int32) (x3 : Int32) (t1 : Int32) (σ : St) (H : Heap) (locs : List Loc) (ls : Array Slot), xW KM g s σ H locs → lv_has ls 4 [(0, .ref (g.q 0)), (1, .int x1), (3, .int x3)] → f_X12_scan_145 N x1 x3 t1 σ = some σ' → W p l e rm_X12_scan s m args below meth c H locs 0 0 (MQ below (xPost KM g none σ') args s 0 0 (xA KM g.q)) (F0 m 145 ls [.int t1, .ref (g.q 0)]) := by
  have hx := C.1
  have hb := C.2.1
  intro x1 x3 t1 σ H locs ls hW hl h
  unfold f_X12_scan_145 at h
  refine xp_i C hW fp_12_264 KM_0 rfl (v := 1003) rfl rfl rfl dX12_scan_145 (fun H locs hW => ?_)
  refine lv_aload_n hx hb dX12_scan_148 rfl (lv_at hl 0 rfl) ?_
  refine xg_i C hW fg_12_264 KM_0 rfl (v := 1003) rfl (x := t1) rfl dX12_scan_149 ?_
  refine lv_iconst (v := 1) hx hb dX12_scan_152 rfl ?_
  refine lv_icmp_ne (tgt := 335) hx hb dX12_scan_153 (by decide) (fun c21 => ?_) (fun c21 => ?_)
  · have h := xif c21 h
    exact w_X12_scan_335 N C x3 _ _ _ _ hW (lv_sub hl [0, 2] rfl) h
  · have h := xit c21 h
    refine lv_aload_n hx hb dX12_scan_156 rfl (lv_at hl 0 rfl) ?_
    refine lv_aload_n hx hb dX12_scan_157 rfl (lv_at hl 0 rfl) ?_
    refine lv_iload_n hx hb dX12_scan_158 rfl (lv_at hl 1 rfl) ?_
    refine lv_iload_n hx hb dX12_scan_159 rfl (lv_at hl 2 rfl) ?_
    refine lv_iload_n hx hb dX12_scan_160 rfl (lv_at hl 1 rfl) ?_
    refine lv_isub hx hb dX12_scan_161 ?_
    obtain ⟨r22_, e22, h⟩ := xbo h
    refine xc_V (As := [.int x1, .int (x3 - x1)]) (rest := [.ref (g.q 0)]) C hW (m_X12_keyAt N x1 (x3 - x1) _ e22) mf_X12_keyAt mv_X12_keyAt ml_X12_279 ⟨rfl, rfl⟩ ⟨Nat.le_of_ble_eq_true rfl, Nat.le_of_ble_eq_true rfl⟩ KM_0 rfl hl.1 rfl rfl (Nat.le_of_ble_eq_true rfl) dX12_scan_162 (fun H locs hW => W.eq (g2 := F0 m 165 ls [.int r22_, .ref (g.q 0)]) rfl ?_)
    refine xp_i C hW fp_12_261 KM_0 rfl (v := 1004) rfl rfl rfl dX12_scan_165 (fun H locs hW => ?_)
    refine lv_goto (tgt := 335) hx hb dX12_scan_168 (by decide) ?_
    exact w_X12_scan_335 N C x3 _ _ _ _ hW (lv_sub hl [0, 2] rfl) h
set_option maxRecDepth 4000 in
theorem w_X12_scan_81 (N : Nat) {σ' : St} (C : xC KM g RX12 cX12_scan 4 none p s m args meth c) : ∀ (n : Nat), ∀ (x1 : Int32) (x3 : Int32) (σ : St) (H : Heap) (locs : List Loc) (ls : Array Slot), xW KM g s σ H locs → lv_has ls 4 [(0, .ref (g.q 0)), (1, .int x1), (3, .int x3)] → f_X12_scan_81 N n x1 x3 σ = some σ' → W p l e rm_X12_scan s m args below meth c H locs 0 0 (MQ below (xPost KM g none σ') args s 0 0 (xA KM g.q)) (F0 m 81 ls []) := by
  have hx := C.1
  have hb := C.2.1
  intro n
  induction n with
  | zero => intro x1 x3 σ H locs ls hW hl h; rw [f_X12_scan_81] at h; cases h
  | succ n ih =>
    intro x1 x3 σ H locs ls hW hl h
    rw [f_X12_scan_81] at h
    refine lv_aload_n hx hb dX12_scan_81 rfl (lv_at hl 0 rfl) ?_
    refine lv_iload_n hx hb dX12_scan_82 rfl (lv_at hl 2 rfl) ?_
    obtain ⟨r16_, e16, h⟩ := xbo h
    refine xc_V (As := [.int x3]) (rest := []) C hW (m_X12_see x3 _ e16) mf_X12_see mv_X12_see ml_X12_254 ⟨rfl, rfl⟩ ⟨Nat.le_of_ble_eq_true rfl, Nat.le_of_ble_eq_true rfl⟩ KM_0 rfl hl.1 rfl rfl (Nat.le_of_ble_eq_true rfl) dX12_scan_83 (fun H locs hW => W.eq (g2 := F0 m 86 ls [.int r16_]) rfl ?_)
    refine xc_S (As := [.int r16_]) (rest := []) C hW (m_X12_isSmall r16_ _ rfl) mf_X12_isSmall mt_X12_isSmall ml_X12_267 ⟨rfl, rfl⟩ ⟨Nat.le_of_ble_eq_true rfl, Nat.le_of_ble_eq_true rfl⟩ hl.1 rfl rfl (Nat.le_of_ble_eq_true rfl) dX12_scan_86 (fun H locs hW => W.eq (g2 := F0 m 89 ls [.int (f_X12_isSmall r16_ σ)]) rfl ?_)
    refine lv_if_eq (tgt := 131) hx hb dX12_scan_89 (by decide) (fun c17 => ?_) (fun c17 => ?_)
    · have h := xit c17 h
      refine lv_aload_n hx hb dX12_scan_131 rfl (lv_at hl 0 rfl) ?_
      refine lv_iload_n hx hb dX12_scan_132 rfl (lv_at hl 2 rfl) ?_
      refine lv_iload_n hx hb dX12_scan_133 rfl (lv_at hl 1 rfl) ?_
      refine lv_isub hx hb dX12_scan_134 ?_
      refine lv_bipush (v := 12) hx hb dX12_scan_135 rfl ?_
      refine lv_icmp_le (tgt := 144) hx hb dX12_scan_137 (by decide) (fun c18 => ?_) (fun c18 => ?_)
      · have h := xit c18 h
        refine lv_iconst (v := 1) hx hb dX12_scan_144 rfl ?_
        exact w_X12_scan_145 N C x1 x3 1 _ _ _ _ hW (lv_sub hl [0, 1, 2] rfl) h
      · have h := xif c18 h
        refine lv_iconst (v := 0) hx hb dX12_scan_140 rfl ?_
        refine lv_goto (tgt := 145) hx hb dX12_scan_141 (by decide) ?_
        exact w_X12_scan_145 N C x1 x3 0 _ _ _ _ hW (lv_sub hl [0, 1, 2] rfl) h
    · have h := xif c17 h
      refine lv_iload_n hx hb dX12_scan_92 rfl (lv_at hl 2 rfl) ?_
      refine lv_iload_n hx hb dX12_scan_93 rfl (lv_at hl 1 rfl) ?_
      refine lv_isub hx hb dX12_scan_94 ?_
      refine lv_bipush (v := 12) hx hb dX12_scan_95 rfl ?_
      refine lv_icmp_ge (tgt := 125) hx hb dX12_scan_97 (by decide) (fun c19 => ?_) (fun c19 => ?_)
      · have h := xit c19 h
        refine lv_iinc (v := x3 + 1) (lv' := [(3, .int (x3 + 1)), (0, .ref (g.q 0)), (1, .int x1)]) hx hb dX12_scan_125 hl (k := 2) rfl rfl (Nat.le_of_ble_eq_true rfl) rfl (fun ls hl => ?_)
        refine lv_goto (tgt := 81) hx hb dX12_scan_128 (by decide) ?_
        exact ih x1 (x3 + 1) _ _ _ _ hW (lv_sub hl [1, 2, 0] rfl) h
      · have h := xif c19 h
        refine lv_aload_n hx hb dX12_scan_100 rfl (lv_at hl 0 rfl) ?_
        refine lv_ldc2 (v := 32) hx hb C.ow (C.hts _ kl_X12_275) dX12_scan_101 ?_
        refine lv_aload_n hx hb dX12_scan_104 rfl (lv_at hl 0 rfl) ?_
        refine xg_l C hW fg_12_271 KM_0 rfl (v := 1010) rfl (x := σ.2 1010 0) rfl dX12_scan_105 ?_
        refine lv_lmul hx hb dX12_scan_108 ?_
        refine lv_aload_n hx hb dX12_scan_109 rfl (lv_at hl 0 rfl) ?_
        refine lv_iload_n hx hb dX12_scan_110 rfl (lv_at hl 2 rfl) ?_
        obtain ⟨r20_, e20, h⟩ := xbo h
        refine xc_V (As := [.int x3]) (rest := [.long (32 * (σ.2 1010 0)), .ref (g.q 0)]) C hW (m_X12_see x3 _ e20) mf_X12_see mv_X12_see ml_X12_254 ⟨rfl, rfl⟩ ⟨Nat.le_of_ble_eq_true rfl, Nat.le_of_ble_eq_true rfl⟩ KM_0 rfl hl.1 rfl rfl (Nat.le_of_ble_eq_true rfl) dX12_scan_111 (fun H locs hW => W.eq (g2 := F0 m 114 ls [.int r20_, .long (32 * (σ.2 1010 0)), .ref (g.q 0)]) rfl ?_)
        refine lv_i2l (v := r20_.toInt64) hx hb dX12_scan_114 rfl ?_
        refine lv_ladd hx hb dX12_scan_115 ?_
        refine lv_ldc2 (v := 97) hx hb C.ow (C.hts _ kl_X12_277) dX12_scan_116 ?_
        refine lv_lsub hx hb dX12_scan_119 ?_
        refine lv_lconst (v := 1) hx hb dX12_scan_120 rfl ?_
        refine lv_ladd hx hb dX12_scan_121 ?_
        refine xp_l C hW fp_12_271 KM_0 rfl (v := 1010) rfl dX12_scan_122 (fun H locs hW => ?_)
        refine lv_iinc (v := x3 + 1) (lv' := [(3, .int (x3 + 1)), (0, .ref (g.q 0)), (1, .int x1)]) hx hb dX12_scan_125 hl (k := 2) rfl rfl (Nat.le_of_ble_eq_true rfl) rfl (fun ls hl => ?_)
        refine lv_goto (tgt := 81) hx hb dX12_scan_128 (by decide) ?_
        exact ih x1 (x3 + 1) _ _ _ _ hW (lv_sub hl [1, 2, 0] rfl) h
set_option maxRecDepth 4000 in
theorem w_X12_scan_228 (N : Nat) (k186 : Int32 → Int32 → St → Option St) {σ' : St} (C : xC KM g RX12 cX12_scan 4 none p s m args meth c) (hk186 : ∀ (x1 : Int32) (x3 : Int32) (σ : St) (H : Heap) (locs : List Loc) (ls : Array Slot), xW KM g s σ H locs → lv_has ls 4 [(0, .ref (g.q 0)), (1, .int x1), (3, .int x3)] → k186 x1 x3 σ = some σ' → W p l e rm_X12_scan s m args below meth c H locs 0 0 (MQ below (xPost KM g none σ') args s 0 0 (xA KM g.q)) (F0 m 186 ls [])) : ∀ (x1 : Int32) (x3 : Int32) (t1 : Int32) (σ : St) (H : Heap) (locs : List Loc) (ls : Array Slot), xW KM g s σ H locs → lv_has ls 4 [(0, .ref (g.q 0)), (1, .int x1), (3, .int x3)] → f_X12_scan_228 N k186 x1 x3 t1 σ = some σ' → W p l e rm_X12_scan s m args below meth c H locs 0 0 (MQ below (xPost KM g none σ') args s 0 0 (xA KM g.q)) (F0 m 228 ls [.int t1, .ref (g.q 0)]) := by
  have hx := C.1
  have hb := C.2.1
  intro x1 x3 t1 σ H locs ls hW hl h
  unfold f_X12_scan_228 at h
  refine xp_i C hW fp_12_286 KM_0 rfl (v := 1007) rfl rfl rfl dX12_scan_228 (fun H locs hW => ?_)
  refine lv_iinc (v := x3 + 1) (lv' := [(3, .int (x3 + 1)), (0, .ref (g.q 0)), (1, .int x1)]) hx hb dX12_scan_231 hl (k := 2) rfl rfl (Nat.le_of_ble_eq_true rfl) rfl (fun ls hl => ?_)
  refine lv_goto (tgt := 186) hx hb dX12_scan_234 (by decide) ?_
  exact hk186 x1 (x3 + 1) _ _ _ _ hW (lv_sub hl [1, 2, 0] rfl) h
set_option maxRecDepth 4000 in
theorem w_X12_scan_250 (N : Nat) {σ' : St} (C : xC KM g RX12 cX12_scan 4 none p s m args meth c) : ∀ (x3 : Int32) (t1 : Int32) (σ : St) (H : Heap) (locs : List Loc) (ls : Array Slot), xW KM g s σ H locs → lv_has ls 4 [(0, .ref (g.q 0)), (3, .int x3)] → f_X12_scan_250 N x3 t1 σ = some σ' → W p l e rm_X12_scan s m args below meth c H locs 0 0 (MQ below (xPost KM g none σ') args s 0 0 (xA KM g.q)) (F0 m 250 ls [.int t1, .ref (g.q 0)]) := by
  have hx := C.1
  have hb := C.2.1
  intro x3 t1 σ H locs ls hW hl h
  unfold f_X12_scan_250 at h
  refine xp_i C hW fp_12_264 KM_0 rfl (v := 1003) rfl rfl rfl dX12_scan_250 (fun H locs hW => ?_)
  refine lv_goto (tgt := 335) hx hb dX12_scan_253 (by decide) ?_
  exact w_X12_scan_335 N C x3 _ _ _ _ hW (lv_sub hl [0, 1] rfl) h
set_option maxRecDepth 4000 in
theorem w_X12_scan_186 (N : Nat) {σ' : St} (C : xC KM g RX12 cX12_scan 4 none p s m args meth c) : ∀ (n : Nat), ∀ (x1 : Int32) (x3 : Int32) (σ : St) (H : Heap) (locs : List Loc) (ls : Array Slot), xW KM g s σ H locs → lv_has ls 4 [(0, .ref (g.q 0)), (1, .int x1), (3, .int x3)] → f_X12_scan_186 N n x1 x3 σ = some σ' → W p l e rm_X12_scan s m args below meth c H locs 0 0 (MQ below (xPost KM g none σ') args s 0 0 (xA KM g.q)) (F0 m 186 ls []) := by
  have hx := C.1
  have hb := C.2.1
  intro n
  induction n with
  | zero => intro x1 x3 σ H locs ls hW hl h; rw [f_X12_scan_186] at h; cases h
  | succ n ih =>
    intro x1 x3 σ H locs ls hW hl h
    rw [f_X12_scan_186] at h
    refine lv_aload_n hx hb dX12_scan_186 rfl (lv_at hl 0 rfl) ?_
    refine lv_iload_n hx hb dX12_scan_187 rfl (lv_at hl 2 rfl) ?_
    obtain ⟨r23_, e23, h⟩ := xbo h
    refine xc_V (As := [.int x3]) (rest := []) C hW (m_X12_see x3 _ e23) mf_X12_see mv_X12_see ml_X12_254 ⟨rfl, rfl⟩ ⟨Nat.le_of_ble_eq_true rfl, Nat.le_of_ble_eq_true rfl⟩ KM_0 rfl hl.1 rfl rfl (Nat.le_of_ble_eq_true rfl) dX12_scan_188 (fun H locs hW => W.eq (g2 := F0 m 191 ls [.int r23_]) rfl ?_)
    refine xc_S (As := [.int r23_]) (rest := []) C hW (m_X12_isDigit r23_ _ rfl) mf_X12_isDigit mt_X12_isDigit ml_X12_283 ⟨rfl, rfl⟩ ⟨Nat.le_of_ble_eq_true rfl, Nat.le_of_ble_eq_true rfl⟩ hl.1 rfl rfl (Nat.le_of_ble_eq_true rfl) dX12_scan_191 (fun H locs hW => W.eq (g2 := F0 m 194 ls [.int (f_X12_isDigit r23_ σ)]) rfl ?_)
    refine lv_if_eq (tgt := 237) hx hb dX12_scan_194 (by decide) (fun c24 => ?_) (fun c24 => ?_)
    · have h := xit c24 h
      refine lv_aload_n hx hb dX12_scan_237 rfl (lv_at hl 0 rfl) ?_
      refine lv_iload_n hx hb dX12_scan_238 rfl (lv_at hl 2 rfl) ?_
      refine lv_iload_n hx hb dX12_scan_239 rfl (lv_at hl 1 rfl) ?_
      refine lv_isub hx hb dX12_scan_240 ?_
      refine lv_iconst (v := 4) hx hb dX12_scan_241 rfl ?_
      refine lv_icmp_le (tgt := 249) hx hb dX12_scan_242 (by decide) (fun c25 => ?_) (fun c25 => ?_)
      · have h := xit c25 h
        refine lv_iconst (v := 2) hx hb dX12_scan_249 rfl ?_
        exact w_X12_scan_250 N C x3 2 _ _ _ _ hW (lv_sub hl [0, 2] rfl) h
      · have h := xif c25 h
        refine lv_iconst (v := 0) hx hb dX12_scan_245 rfl ?_
        refine lv_goto (tgt := 250) hx hb dX12_scan_246 (by decide) ?_
        exact w_X12_scan_250 N C x3 0 _ _ _ _ hW (lv_sub hl [0, 2] rfl) h
    · have h := xif c24 h
      refine lv_aload_n hx hb dX12_scan_197 rfl (lv_at hl 0 rfl) ?_
      refine lv_iload_n hx hb dX12_scan_198 rfl (lv_at hl 2 rfl) ?_
      refine lv_iload_n hx hb dX12_scan_199 rfl (lv_at hl 1 rfl) ?_
      refine lv_isub hx hb dX12_scan_200 ?_
      refine lv_iconst (v := 4) hx hb dX12_scan_201 rfl ?_
      refine lv_icmp_ge (tgt := 224) hx hb dX12_scan_202 (by decide) (fun c26 => ?_) (fun c26 => ?_)
      · have h := xit c26 h
        refine lv_aload_n hx hb dX12_scan_224 rfl (lv_at hl 0 rfl) ?_
        refine xg_i C hW fg_12_286 KM_0 rfl (v := 1007) rfl (x := σ.1 1007 0) rfl dX12_scan_225 ?_
        exact w_X12_scan_228 N (f_X12_scan_186 N n) C ih x1 x3 (σ.1 1007 0) _ _ _ _ hW (lv_sub hl [0, 1, 2] rfl) h
      · have h := xif c26 h
        refine lv_bipush (v := 10) hx hb dX12_scan_205 rfl ?_
        refine lv_aload_n hx hb dX12_scan_207 rfl (lv_at hl 0 rfl) ?_
        refine xg_i C hW fg_12_286 KM_0 rfl (v := 1007) rfl (x := σ.1 1007 0) rfl dX12_scan_208 ?_
        refine lv_imul hx hb dX12_scan_211 ?_
        refine lv_aload_n hx hb dX12_scan_212 rfl (lv_at hl 0 rfl) ?_
        refine lv_iload_n hx hb dX12_scan_213 rfl (lv_at hl 2 rfl) ?_
        obtain ⟨r27_, e27, h⟩ := xbo h
        refine xc_V (As := [.int x3]) (rest := [.int (10 * (σ.1 1007 0)), .ref (g.q 0)]) C hW (m_X12_see x3 _ e27) mf_X12_see mv_X12_see ml_X12_254 ⟨rfl, rfl⟩ ⟨Nat.le_of_ble_eq_true rfl, Nat.le_of_ble_eq_true rfl⟩ KM_0 rfl hl.1 rfl rfl (Nat.le_of_ble_eq_true rfl) dX12_scan_214 (fun H locs hW => W.eq (g2 := F0 m 217 ls [.int r27_, .int (10 * (σ.1 1007 0)), .ref (g.q 0)]) rfl ?_)
        refine lv_iadd hx hb dX12_scan_217 ?_
        refine lv_bipush (v := 48) hx hb dX12_scan_218 rfl ?_
        refine lv_isub hx hb dX12_scan_220 ?_
        refine lv_goto (tgt := 228) hx hb dX12_scan_221 (by decide) ?_
        exact w_X12_scan_228 N (f_X12_scan_186 N n) C ih x1 x3 (((10 * (σ.1 1007 0)) + r27_) - 48) _ _ _ _ hW (lv_sub hl [0, 1, 2] rfl) h
set_option maxRecDepth 4000 in
theorem w_X12_scan_332 (N : Nat) {σ' : St} (C : xC KM g RX12 cX12_scan 4 none p s m args meth c) : ∀ (x3 : Int32) (t1 : Int32) (σ : St) (H : Heap) (locs : List Loc) (ls : Array Slot), xW KM g s σ H locs → lv_has ls 4 [(0, .ref (g.q 0)), (3, .int x3)] → f_X12_scan_332 N x3 t1 σ = some σ' → W p l e rm_X12_scan s m args below meth c H locs 0 0 (MQ below (xPost KM g none σ') args s 0 0 (xA KM g.q)) (F0 m 332 ls [.int t1, .ref (g.q 0)]) := by
  have hx := C.1
  have hb := C.2.1
  intro x3 t1 σ H locs ls hW hl h
  unfold f_X12_scan_332 at h
  refine xp_i C hW fp_12_264 KM_0 rfl (v := 1003) rfl rfl rfl dX12_scan_332 (fun H locs hW => ?_)
  exact w_X12_scan_335 N C x3 _ _ _ _ hW (lv_sub hl [0, 1] rfl) h
set_option maxRecDepth 4000 in
theorem w_X12_scan_5 (N : Nat) {σ' : St} (C : xC KM g RX12 cX12_scan 4 none p s m args meth c) : ∀ (n : Nat), ∀ (x1 : Int32) (σ : St) (H : Heap) (locs : List Loc) (ls : Array Slot), xW KM g s σ H locs → lv_has ls 4 [(0, .ref (g.q 0)), (1, .int x1)] → f_X12_scan_5 N n x1 σ = some σ' → W p l e rm_X12_scan s m args below meth c H locs 0 0 (MQ below (xPost KM g none σ') args s 0 0 (xA KM g.q)) (F0 m 5 ls []) := by
  have hx := C.1
  have hb := C.2.1
  intro n
  induction n with
  | zero => intro x1 σ H locs ls hW hl h; rw [f_X12_scan_5] at h; cases h
  | succ n ih =>
    intro x1 σ H locs ls hW hl h
    rw [f_X12_scan_5] at h
    refine lv_aload_n hx hb dX12_scan_5 rfl (lv_at hl 0 rfl) ?_
    refine lv_iload_n hx hb dX12_scan_6 rfl (lv_at hl 1 rfl) ?_
    obtain ⟨r1_, e1, h⟩ := xbo h
    refine xc_V (As := [.int x1]) (rest := []) C hW (m_X12_see x1 _ e1) mf_X12_see mv_X12_see ml_X12_254 ⟨rfl, rfl⟩ ⟨Nat.le_of_ble_eq_true rfl, Nat.le_of_ble_eq_true rfl⟩ KM_0 rfl hl.1 rfl rfl (Nat.le_of_ble_eq_true rfl) dX12_scan_7 (fun H locs hW => W.eq (g2 := F0 m 10 ls [.int r1_]) rfl ?_)
    refine lv_bipush (v := 32) hx hb dX12_scan_10 rfl ?_
    refine lv_icmp_eq (tgt := 25) hx hb dX12_scan_12 (by decide) (fun c2 => ?_) (fun c2 => ?_)
    · have h := xit c2 h
      refine lv_iinc (v := x1 + 1) (lv' := [(1, .int (x1 + 1)), (0, .ref (g.q 0))]) hx hb dX12_scan_25 hl (k := 1) rfl rfl (Nat.le_of_ble_eq_true rfl) rfl (fun ls hl => ?_)
      refine lv_goto (tgt := 5) hx hb dX12_scan_28 (by decide) ?_
      exact ih (x1 + 1) _ _ _ _ hW (lv_sub hl [1, 0] rfl) h
    · have h := xif c2 h
      refine lv_aload_n hx hb dX12_scan_15 rfl (lv_at hl 0 rfl) ?_
      refine lv_iload_n hx hb dX12_scan_16 rfl (lv_at hl 1 rfl) ?_
      obtain ⟨r3_, e3, h⟩ := xbo h
      refine xc_V (As := [.int x1]) (rest := []) C hW (m_X12_see x1 _ e3) mf_X12_see mv_X12_see ml_X12_254 ⟨rfl, rfl⟩ ⟨Nat.le_of_ble_eq_true rfl, Nat.le_of_ble_eq_true rfl⟩ KM_0 rfl hl.1 rfl rfl (Nat.le_of_ble_eq_true rfl) dX12_scan_17 (fun H locs hW => W.eq (g2 := F0 m 20 ls [.int r3_]) rfl ?_)
      refine lv_bipush (v := 10) hx hb dX12_scan_20 rfl ?_
      refine lv_icmp_ne (tgt := 31) hx hb dX12_scan_22 (by decide) (fun c4 => ?_) (fun c4 => ?_)
      · have h := xif c4 h
        refine lv_aload_n hx hb dX12_scan_31 rfl (lv_at hl 0 rfl) ?_
        refine lv_iload_n hx hb dX12_scan_32 rfl (lv_at hl 1 rfl) ?_
        refine xp_i C hW fp_12_258 KM_0 rfl (v := 1005) rfl rfl rfl dX12_scan_33 (fun H locs hW => ?_)
        refine lv_aload_n hx hb dX12_scan_36 rfl (lv_at hl 0 rfl) ?_
        refine lv_iload_n hx hb dX12_scan_37 rfl (lv_at hl 1 rfl) ?_
        obtain ⟨r5_, e5, h⟩ := xbo h
        refine xc_V (As := [.int x1]) (rest := []) C hW (m_X12_see x1 _ e5) mf_X12_see mv_X12_see ml_X12_254 ⟨rfl, rfl⟩ ⟨Nat.le_of_ble_eq_true rfl, Nat.le_of_ble_eq_true rfl⟩ KM_0 rfl hl.1 rfl rfl (Nat.le_of_ble_eq_true rfl) dX12_scan_38 (fun H locs hW => W.eq (g2 := F0 m 41 ls [.int r5_]) rfl ?_)
        refine lv_istore_n (lv' := [(2, .int r5_), (0, .ref (g.q 0)), (1, .int x1)]) hx hb dX12_scan_41 rfl hl (Nat.le_of_ble_eq_true rfl) rfl (fun ls hl => ?_)
        refine lv_iload_n hx hb dX12_scan_42 rfl (lv_at hl 2 rfl) ?_
        refine lv_iconst (v := 1) hx hb dX12_scan_43 rfl ?_
        refine lv_iadd hx hb dX12_scan_44 ?_
        refine lv_istore_n (lv' := [(3, .int (x1 + 1)), (2, .int r5_), (0, .ref (g.q 0)), (1, .int x1)]) hx hb dX12_scan_45 rfl hl (Nat.le_of_ble_eq_true rfl) rfl (fun ls hl => ?_)
        refine lv_aload_n hx hb dX12_scan_46 rfl (lv_at hl 2 rfl) ?_
        refine lv_iconst (v := (-1)) hx hb dX12_scan_47 rfl ?_
        refine xp_i C hW fp_12_261 KM_0 rfl (v := 1004) rfl rfl rfl dX12_scan_48 (fun H locs hW => ?_)
        refine lv_iload_n hx hb dX12_scan_51 rfl (lv_at hl 1 rfl) ?_
        refine lv_iconst (v := (-1)) hx hb dX12_scan_52 rfl ?_
        refine lv_icmp_ne (tgt := 67) hx hb dX12_scan_53 (by decide) (fun c6 => ?_) (fun c6 => ?_)
        · have h := xif c6 h
          refine lv_iload_n hx hb dX12_scan_67 rfl (lv_at hl 1 rfl) ?_
          refine xc_S (As := [.int r5_]) (rest := []) C hW (m_X12_isSmall r5_ _ rfl) mf_X12_isSmall mt_X12_isSmall ml_X12_267 ⟨rfl, rfl⟩ ⟨Nat.le_of_ble_eq_true rfl, Nat.le_of_ble_eq_true rfl⟩ hl.1 rfl rfl (Nat.le_of_ble_eq_true rfl) dX12_scan_68 (fun H locs hW => W.eq (g2 := F0 m 71 ls [.int (f_X12_isSmall r5_ (si (si σ 1005 0 x1) 1004 0 ((-1))))]) rfl ?_)
          refine lv_if_eq (tgt := 171) hx hb dX12_scan_71 (by decide) (fun c7 => ?_) (fun c7 => ?_)
          · have h := xit c7 h
            refine lv_iload_n hx hb dX12_scan_171 rfl (lv_at hl 1 rfl) ?_
            refine xc_S (As := [.int r5_]) (rest := []) C hW (m_X12_isDigit r5_ _ rfl) mf_X12_isDigit mt_X12_isDigit ml_X12_283 ⟨rfl, rfl⟩ ⟨Nat.le_of_ble_eq_true rfl, Nat.le_of_ble_eq_true rfl⟩ hl.1 rfl rfl (Nat.le_of_ble_eq_true rfl) dX12_scan_172 (fun H locs hW => W.eq (g2 := F0 m 175 ls [.int (f_X12_isDigit r5_ (si (si σ 1005 0 x1) 1004 0 ((-1))))]) rfl ?_)
            refine lv_if_eq (tgt := 256) hx hb dX12_scan_175 (by decide) (fun c8 => ?_) (fun c8 => ?_)
            · have h := xit c8 h
              refine lv_aload_n hx hb dX12_scan_256 rfl (lv_at hl 2 rfl) ?_
              refine lv_iload_n hx hb dX12_scan_257 rfl (lv_at hl 1 rfl) ?_
              refine lv_bipush (v := 59) hx hb dX12_scan_258 rfl ?_
              refine lv_icmp_ne (tgt := 267) hx hb dX12_scan_260 (by decide) (fun c9 => ?_) (fun c9 => ?_)
              · have h := xif c9 h
                refine lv_iload_n hx hb dX12_scan_267 rfl (lv_at hl 1 rfl) ?_
                refine lv_bipush (v := 58) hx hb dX12_scan_268 rfl ?_
                refine lv_icmp_ne (tgt := 277) hx hb dX12_scan_270 (by decide) (fun c10 => ?_) (fun c10 => ?_)
                · have h := xif c10 h
                  refine lv_iload_n hx hb dX12_scan_277 rfl (lv_at hl 1 rfl) ?_
                  refine lv_bipush (v := 42) hx hb dX12_scan_278 rfl ?_
                  refine lv_icmp_ne (tgt := 287) hx hb dX12_scan_280 (by decide) (fun c11 => ?_) (fun c11 => ?_)
                  · have h := xif c11 h
                    refine lv_iload_n hx hb dX12_scan_287 rfl (lv_at hl 1 rfl) ?_
                    refine lv_bipush (v := 38) hx hb dX12_scan_288 rfl ?_
                    refine lv_icmp_ne (tgt := 298) hx hb dX12_scan_290 (by decide) (fun c12 => ?_) (fun c12 => ?_)
                    · have h := xif c12 h
                      refine lv_iload_n hx hb dX12_scan_298 rfl (lv_at hl 1 rfl) ?_
                      refine lv_bipush (v := 45) hx hb dX12_scan_299 rfl ?_
                      refine lv_icmp_ne (tgt := 309) hx hb dX12_scan_301 (by decide) (fun c13 => ?_) (fun c13 => ?_)
                      · have h := xif c13 h
                        refine lv_iload_n hx hb dX12_scan_309 rfl (lv_at hl 1 rfl) ?_
                        refine lv_bipush (v := 40) hx hb dX12_scan_310 rfl ?_
                        refine lv_icmp_ne (tgt := 320) hx hb dX12_scan_312 (by decide) (fun c14 => ?_) (fun c14 => ?_)
                        · have h := xif c14 h
                          refine lv_iload_n hx hb dX12_scan_320 rfl (lv_at hl 1 rfl) ?_
                          refine lv_bipush (v := 41) hx hb dX12_scan_321 rfl ?_
                          refine lv_icmp_ne (tgt := 331) hx hb dX12_scan_323 (by decide) (fun c15 => ?_) (fun c15 => ?_)
                          · have h := xif c15 h
                            refine lv_iconst (v := 0) hx hb dX12_scan_331 rfl ?_
                            exact w_X12_scan_332 N C (x1 + 1) 0 _ _ _ _ hW (lv_sub hl [2, 0] rfl) h
                          · have h := xit c15 h
                            refine lv_bipush (v := 9) hx hb dX12_scan_326 rfl ?_
                            refine lv_goto (tgt := 332) hx hb dX12_scan_328 (by decide) ?_
                            exact w_X12_scan_332 N C (x1 + 1) 9 _ _ _ _ hW (lv_sub hl [2, 0] rfl) h
                        · have h := xit c14 h
                          refine lv_bipush (v := 8) hx hb dX12_scan_315 rfl ?_
                          refine lv_goto (tgt := 332) hx hb dX12_scan_317 (by decide) ?_
                          exact w_X12_scan_332 N C (x1 + 1) 8 _ _ _ _ hW (lv_sub hl [2, 0] rfl) h
                      · have h := xit c13 h
                        refine lv_bipush (v := 7) hx hb dX12_scan_304 rfl ?_
                        refine lv_goto (tgt := 332) hx hb dX12_scan_306 (by decide) ?_
                        exact w_X12_scan_332 N C (x1 + 1) 7 _ _ _ _ hW (lv_sub hl [2, 0] rfl) h
                    · have h := xit c12 h
                      refine lv_bipush (v := 6) hx hb dX12_scan_293 rfl ?_
                      refine lv_goto (tgt := 332) hx hb dX12_scan_295 (by decide) ?_
                      exact w_X12_scan_332 N C (x1 + 1) 6 _ _ _ _ hW (lv_sub hl [2, 0] rfl) h
                  · have h := xit c11 h
                    refine lv_iconst (v := 5) hx hb dX12_scan_283 rfl ?_
                    refine lv_goto (tgt := 332) hx hb dX12_scan_284 (by decide) ?_
                    exact w_X12_scan_332 N C (x1 + 1) 5 _ _ _ _ hW (lv_sub hl [2, 0] rfl) h
                · have h := xit c10 h
                  refine lv_iconst (v := 4) hx hb dX12_scan_273 rfl ?_
                  refine lv_goto (tgt := 332) hx hb dX12_scan_274 (by decide) ?_
                  exact w_X12_scan_332 N C (x1 + 1) 4 _ _ _ _ hW (lv_sub hl [2, 0] rfl) h
              · have h := xit c9 h
                refine lv_iconst (v := 3) hx hb dX12_scan_263 rfl ?_
                refine lv_goto (tgt := 332) hx hb dX12_scan_264 (by decide) ?_
                exact w_X12_scan_332 N C (x1 + 1) 3 _ _ _ _ hW (lv_sub hl [2, 0] rfl) h
            · have h := xif c8 h
              refine lv_aload_n hx hb dX12_scan_178 rfl (lv_at hl 2 rfl) ?_
              refine lv_iload_n hx hb dX12_scan_179 rfl (lv_at hl 1 rfl) ?_
              refine lv_bipush (v := 48) hx hb dX12_scan_180 rfl ?_
              refine lv_isub hx hb dX12_scan_182 ?_
              refine xp_i C hW fp_12_286 KM_0 rfl (v := 1007) rfl rfl rfl dX12_scan_183 (fun H locs hW => ?_)
              exact w_X12_scan_186 N C N x1 (x1 + 1) _ _ _ _ hW (lv_sub hl [2, 3, 0] rfl) h
          · have h := xif c7 h
            refine lv_aload_n hx hb dX12_scan_74 rfl (lv_at hl 2 rfl) ?_
            refine lv_lconst (v := 0) hx hb dX12_scan_75 rfl ?_
            refine xp_l C hW fp_12_271 KM_0 rfl (v := 1010) rfl dX12_scan_76 (fun H locs hW => ?_)
            refine lv_iload_n hx hb dX12_scan_79 rfl (lv_at hl 3 rfl) ?_
            refine lv_istore_n (lv' := [(3, .int x1), (2, .int r5_), (0, .ref (g.q 0)), (1, .int x1)]) hx hb dX12_scan_80 rfl hl (Nat.le_of_ble_eq_true rfl) rfl (fun ls hl => ?_)
            exact w_X12_scan_81 N C N x1 x1 _ _ _ _ hW (lv_sub hl [2, 3, 0] rfl) h
        · have h := xit c6 h
          refine lv_aload_n hx hb dX12_scan_56 rfl (lv_at hl 2 rfl) ?_
          refine lv_bipush (v := 10) hx hb dX12_scan_57 rfl ?_
          refine xp_i C hW fp_12_264 KM_0 rfl (v := 1003) rfl rfl rfl dX12_scan_59 (fun H locs hW => ?_)
          refine lv_iload_n hx hb dX12_scan_62 rfl (lv_at hl 3 rfl) ?_
          refine lv_istore_n (lv' := [(3, .int x1), (2, .int r5_), (0, .ref (g.q 0)), (1, .int x1)]) hx hb dX12_scan_63 rfl hl (Nat.le_of_ble_eq_true rfl) rfl (fun ls hl => ?_)
          refine lv_goto (tgt := 335) hx hb dX12_scan_64 (by decide) ?_
          exact w_X12_scan_335 N C x1 _ _ _ _ hW (lv_sub hl [2, 0] rfl) h
      · have h := xit c4 h
        refine lv_iinc (v := x1 + 1) (lv' := [(1, .int (x1 + 1)), (0, .ref (g.q 0))]) hx hb dX12_scan_25 hl (k := 1) rfl rfl (Nat.le_of_ble_eq_true rfl) rfl (fun ls hl => ?_)
        refine lv_goto (tgt := 5) hx hb dX12_scan_28 (by decide) ?_
        exact ih (x1 + 1) _ _ _ _ hW (lv_sub hl [1, 0] rfl) h
set_option maxRecDepth 4000 in
theorem m_X12_scan (N : Nat) (σ : St) {σ' : St} (h : f_X12_scan N σ = some σ') : xM l KM g yX12_scan cX12_scan 4 none rm_X12_scan [.ref (g.q 0)] σ none σ' := by
  refine xmet pn_X12 rfl (Nat.le_of_ble_eq_true rfl) (lv := [(0, .ref (g.q 0))]) rfl (fun p e s m args below meth c ls C hW hl => ?_)
  have hx := C.1
  have hb := C.2.1
  unfold f_X12_scan at h
  refine lv_aload_n hx hb dX12_scan_0 rfl (lv_at hl 0 rfl) ?_
  refine xg_i C hW fg_12_236 KM_0 rfl (v := 1006) rfl (x := σ.1 1006 0) rfl dX12_scan_1 ?_
  refine lv_istore_n (lv' := [(1, .int (σ.1 1006 0)), (0, .ref (g.q 0))]) hx hb dX12_scan_4 rfl hl (Nat.le_of_ble_eq_true rfl) rfl (fun ls hl => ?_)
  exact w_X12_scan_5 N C N (σ.1 1006 0) _ _ _ _ hW (lv_sub hl [1, 0] rfl) h
end
theorem dX12_take_0 : decode cX12_take 0 = .ok (.aload_n 0, 1) := by decide +kernel
theorem dX12_take_1 : decode cX12_take 1 = .ok (.aload_n 0, 1) := by decide +kernel
theorem dX12_take_2 : decode cX12_take 2 = .ok (.getfield 230, 3) := by decide +kernel
theorem dX12_take_5 : decode cX12_take 5 = .ok (.putfield 233, 3) := by decide +kernel
theorem dX12_take_8 : decode cX12_take 8 = .ok (.aload_n 0, 1) := by decide +kernel
theorem dX12_take_9 : decode cX12_take 9 = .ok (.iconst 0, 1) := by decide +kernel
theorem dX12_take_10 : decode cX12_take 10 = .ok (.putfield 230, 3) := by decide +kernel
theorem dX12_take_13 : decode cX12_take 13 = .ok (.aload_n 0, 1) := by decide +kernel
theorem dX12_take_14 : decode cX12_take 14 = .ok (.iconst 0, 1) := by decide +kernel
theorem dX12_take_15 : decode cX12_take 15 = .ok (.putfield 236, 3) := by decide +kernel
theorem dX12_take_18 : decode cX12_take 18 = .ok (.aload_n 0, 1) := by decide +kernel
theorem dX12_take_19 : decode cX12_take 19 = .ok (.invokevirtual 239, 3) := by decide +kernel
theorem dX12_take_22 : decode cX12_take 22 = .ok (.return_, 1) := by decide +kernel
abbrev rm_X12_take : Room := { frames := 6, cells := 0, slots := 0, locals := 170 }
def f_X12_take (N : Nat) (σ : St) : Option St := bo (f_X12_scan N (si (si (si σ 1002 0 (σ.1 1001 0)) 1001 0 0) 1006 0 0)) (fun σ1 => some σ1)
section
variable {p : Program} {l : Launch} {e : Env} {s : State} {m : MethodId} {args : Array Value} {below : List Frame} {meth : Method} {c : Code} {g : XG}
set_option maxRecDepth 4000 in
theorem m_X12_take (N : Nat) (σ : St) {σ' : St} (h : f_X12_take N σ = some σ') : xM l KM g yX12_take cX12_take 1 none rm_X12_take [.ref (g.q 0)] σ none σ' := by
  refine xmet pn_X12 rfl (Nat.le_of_ble_eq_true rfl) (lv := [(0, .ref (g.q 0))]) rfl (fun p e s m args below meth c ls C hW hl => ?_)
  have hx := C.1
  have hb := C.2.1
  unfold f_X12_take at h
  refine lv_aload_n hx hb dX12_take_0 rfl (lv_at hl 0 rfl) ?_
  refine lv_aload_n hx hb dX12_take_1 rfl (lv_at hl 0 rfl) ?_
  refine xg_i C hW fg_12_230 KM_0 rfl (v := 1001) rfl (x := σ.1 1001 0) rfl dX12_take_2 ?_
  refine xp_i C hW fp_12_233 KM_0 rfl (v := 1002) rfl rfl rfl dX12_take_5 (fun H locs hW => ?_)
  refine lv_aload_n hx hb dX12_take_8 rfl (lv_at hl 0 rfl) ?_
  refine lv_iconst (v := 0) hx hb dX12_take_9 rfl ?_
  refine xp_i C hW fp_12_230 KM_0 rfl (v := 1001) rfl rfl rfl dX12_take_10 (fun H locs hW => ?_)
  refine lv_aload_n hx hb dX12_take_13 rfl (lv_at hl 0 rfl) ?_
  refine lv_iconst (v := 0) hx hb dX12_take_14 rfl ?_
  refine xp_i C hW fp_12_236 KM_0 rfl (v := 1006) rfl rfl rfl dX12_take_15 (fun H locs hW => ?_)
  refine lv_aload_n hx hb dX12_take_18 rfl (lv_at hl 0 rfl) ?_
  obtain ⟨σ1, e1, h⟩ := xbo h
  refine xc_V (As := []) (rest := []) C hW (m_X12_scan N _ e1) mf_X12_scan mv_X12_scan ml_X12_239 ⟨rfl, rfl⟩ ⟨Nat.le_of_ble_eq_true rfl, Nat.le_of_ble_eq_true rfl⟩ KM_0 rfl hl.1 rfl rfl (Nat.le_of_ble_eq_true rfl) dX12_take_19 (fun H locs hW => W.eq (g2 := F0 m 22 ls []) rfl ?_)
  cases h
  exact xr_v C hW dX12_take_22
end
theorem dX12_isRow_0 : decode cX12_isRow 0 = .ok (.aload_n 0, 1) := by decide +kernel
theorem dX12_isRow_1 : decode cX12_isRow 1 = .ok (.getfield 264, 3) := by decide +kernel
theorem dX12_isRow_4 : decode cX12_isRow 4 = .ok (.iconst 1, 1) := by decide +kernel
theorem dX12_isRow_5 : decode cX12_isRow 5 = .ok (.if_icmp .eq 5, 3) := by decide +kernel
theorem dX12_isRow_8 : decode cX12_isRow 8 = .ok (.iconst 0, 1) := by decide +kernel
theorem dX12_isRow_9 : decode cX12_isRow 9 = .ok (.ireturn, 1) := by decide +kernel
theorem dX12_isRow_10 : decode cX12_isRow 10 = .ok (.aload_n 0, 1) := by decide +kernel
theorem dX12_isRow_11 : decode cX12_isRow 11 = .ok (.getfield 258, 3) := by decide +kernel
theorem dX12_isRow_14 : decode cX12_isRow 14 = .ok (.istore_n 1, 1) := by decide +kernel
theorem dX12_isRow_15 : decode cX12_isRow 15 = .ok (.iload_n 1, 1) := by decide +kernel
theorem dX12_isRow_16 : decode cX12_isRow 16 = .ok (.aload_n 0, 1) := by decide +kernel
theorem dX12_isRow_17 : decode cX12_isRow 17 = .ok (.getfield 236, 3) := by decide +kernel
theorem dX12_isRow_20 : decode cX12_isRow 20 = .ok (.if_icmp .ge 21, 3) := by decide +kernel
theorem dX12_isRow_23 : decode cX12_isRow 23 = .ok (.aload_n 0, 1) := by decide +kernel
theorem dX12_isRow_24 : decode cX12_isRow 24 = .ok (.iload_n 1, 1) := by decide +kernel
theorem dX12_isRow_25 : decode cX12_isRow 25 = .ok (.invokevirtual 254, 3) := by decide +kernel
theorem dX12_isRow_28 : decode cX12_isRow 28 = .ok (.bipush 112, 2) := by decide +kernel
theorem dX12_isRow_30 : decode cX12_isRow 30 = .ok (.if_icmp .le 5, 3) := by decide +kernel
theorem dX12_isRow_33 : decode cX12_isRow 33 = .ok (.iconst 0, 1) := by decide +kernel
theorem dX12_isRow_34 : decode cX12_isRow 34 = .ok (.ireturn, 1) := by decide +kernel
theorem dX12_isRow_35 : decode cX12_isRow 35 = .ok (.iinc 1 1, 3) := by decide +kernel
theorem dX12_isRow_38 : decode cX12_isRow 38 = .ok (.goto (-23), 3) := by decide +kernel
theorem dX12_isRow_41 : decode cX12_isRow 41 = .ok (.iconst 1, 1) := by decide +kernel
theorem dX12_isRow_42 : decode cX12_isRow 42 = .ok (.ireturn, 1) := by decide +kernel
abbrev rm_X12_isRow : Room := { frames := 1, cells := 0, slots := 0, locals := 21 }
def f_X12_isRow_15 (N : Nat) : Nat → Int32 → St → Option Int32
  | 0, _, _ => none
  | n + 1, x1, σ => (if (σ.1 1006 0) ≤ x1 then some 1 else bo (f_X12_see x1 σ) (fun r3_ => (if r3_ ≤ 112 then f_X12_isRow_15 N n (x1 + 1) σ else some 0)))
def f_X12_isRow (N : Nat) (σ : St) : Option Int32 := (if (σ.1 1003 0) = 1 then f_X12_isRow_15 N N (σ.1 1005 0) σ else some 0)
section
variable {p : Program} {l : Launch} {e : Env} {s : State} {m : MethodId} {args : Array Value} {below : List Frame} {meth : Method} {c : Code} {g : XG}
set_option maxRecDepth 4000 in
theorem w_X12_isRow_15 (N : Nat) (σ : St) {r : Int32} (C : xC KM g RX12 cX12_isRow 2 (some .boolean) p s m args meth c) : ∀ (n : Nat), ∀ (x1 : Int32) (H : Heap) (locs : List Loc) (ls : Array Slot), xW KM g s σ H locs → lv_has ls 2 [(0, .ref (g.q 0)), (1, .int x1)] → f_X12_isRow_15 N n x1 σ = some r → W p l e rm_X12_isRow s m args below meth c H locs 0 0 (MQ below (xPost KM g (some (.int r)) σ) args s 0 0 (xA KM g.q)) (F0 m 15 ls []) := by
  have hx := C.1
  have hb := C.2.1
  intro n
  induction n with
  | zero => intro x1 H locs ls hW hl h; rw [f_X12_isRow_15] at h; cases h
  | succ n ih =>
    intro x1 H locs ls hW hl h
    rw [f_X12_isRow_15] at h
    refine lv_iload_n hx hb dX12_isRow_15 rfl (lv_at hl 1 rfl) ?_
    refine lv_aload_n hx hb dX12_isRow_16 rfl (lv_at hl 0 rfl) ?_
    refine xg_i C hW fg_12_236 KM_0 rfl (v := 1006) rfl (x := σ.1 1006 0) rfl dX12_isRow_17 ?_
    refine lv_icmp_ge (tgt := 41) hx hb dX12_isRow_20 (by decide) (fun c2 => ?_) (fun c2 => ?_)
    · have h := xit c2 h
      refine lv_iconst (v := 1) hx hb dX12_isRow_41 rfl ?_
      cases h
      exact xr_z C hW (by decide) dX12_isRow_42
    · have h := xif c2 h
      refine lv_aload_n hx hb dX12_isRow_23 rfl (lv_at hl 0 rfl) ?_
      refine lv_iload_n hx hb dX12_isRow_24 rfl (lv_at hl 1 rfl) ?_
      obtain ⟨r3_, e3, h⟩ := xbo h
      refine xc_V (As := [.int x1]) (rest := []) C hW (m_X12_see x1 _ e3) mf_X12_see mv_X12_see ml_X12_254 ⟨rfl, rfl⟩ ⟨Nat.le_of_ble_eq_true rfl, Nat.le_of_ble_eq_true rfl⟩ KM_0 rfl hl.1 rfl rfl (Nat.le_of_ble_eq_true rfl) dX12_isRow_25 (fun H locs hW => W.eq (g2 := F0 m 28 ls [.int r3_]) rfl ?_)
      refine lv_bipush (v := 112) hx hb dX12_isRow_28 rfl ?_
      refine lv_icmp_le (tgt := 35) hx hb dX12_isRow_30 (by decide) (fun c4 => ?_) (fun c4 => ?_)
      · have h := xit c4 h
        refine lv_iinc (v := x1 + 1) (lv' := [(1, .int (x1 + 1)), (0, .ref (g.q 0))]) hx hb dX12_isRow_35 hl (k := 1) rfl rfl (Nat.le_of_ble_eq_true rfl) rfl (fun ls hl => ?_)
        refine lv_goto (tgt := 15) hx hb dX12_isRow_38 (by decide) ?_
        exact ih (x1 + 1) _ _ _ hW (lv_sub hl [1, 0] rfl) h
      · have h := xif c4 h
        refine lv_iconst (v := 0) hx hb dX12_isRow_33 rfl ?_
        cases h
        exact xr_z C hW (by decide) dX12_isRow_34
set_option maxRecDepth 4000 in
theorem m_X12_isRow (N : Nat) (σ : St) {r : Int32} (h : f_X12_isRow N σ = some r) : xM l KM g yX12_isRow cX12_isRow 2 (some .boolean) rm_X12_isRow [.ref (g.q 0)] σ (some (.int r)) σ := by
  refine xmet pn_X12 rfl (Nat.le_of_ble_eq_true rfl) (lv := [(0, .ref (g.q 0))]) rfl (fun p e s m args below meth c ls C hW hl => ?_)
  have hx := C.1
  have hb := C.2.1
  unfold f_X12_isRow at h
  refine lv_aload_n hx hb dX12_isRow_0 rfl (lv_at hl 0 rfl) ?_
  refine xg_i C hW fg_12_264 KM_0 rfl (v := 1003) rfl (x := σ.1 1003 0) rfl dX12_isRow_1 ?_
  refine lv_iconst (v := 1) hx hb dX12_isRow_4 rfl ?_
  refine lv_icmp_eq (tgt := 10) hx hb dX12_isRow_5 (by decide) (fun c1 => ?_) (fun c1 => ?_)
  · have h := xit c1 h
    refine lv_aload_n hx hb dX12_isRow_10 rfl (lv_at hl 0 rfl) ?_
    refine xg_i C hW fg_12_258 KM_0 rfl (v := 1005) rfl (x := σ.1 1005 0) rfl dX12_isRow_11 ?_
    refine lv_istore_n (lv' := [(1, .int (σ.1 1005 0)), (0, .ref (g.q 0))]) hx hb dX12_isRow_14 rfl hl (Nat.le_of_ble_eq_true rfl) rfl (fun ls hl => ?_)
    exact w_X12_isRow_15 N σ C N (σ.1 1005 0) _ _ _ hW (lv_sub hl [1, 0] rfl) h
  · have h := xif c1 h
    refine lv_iconst (v := 0) hx hb dX12_isRow_8 rfl ?_
    cases h
    exact xr_z C hW (by decide) dX12_isRow_9
end
theorem dX12_fails_0 : decode cX12_fails 0 = .ok (.aload_n 0, 1) := by decide +kernel
theorem dX12_fails_1 : decode cX12_fails 1 = .ok (.iload_n 1, 1) := by decide +kernel
theorem dX12_fails_2 : decode cX12_fails 2 = .ok (.putfield 289, 3) := by decide +kernel
theorem dX12_fails_5 : decode cX12_fails 5 = .ok (.aload_n 0, 1) := by decide +kernel
theorem dX12_fails_6 : decode cX12_fails 6 = .ok (.aload_n 0, 1) := by decide +kernel
theorem dX12_fails_7 : decode cX12_fails 7 = .ok (.getfield 258, 3) := by decide +kernel
theorem dX12_fails_10 : decode cX12_fails 10 = .ok (.putfield 13, 3) := by decide +kernel
theorem dX12_fails_13 : decode cX12_fails 13 = .ok (.iconst 0, 1) := by decide +kernel
theorem dX12_fails_14 : decode cX12_fails 14 = .ok (.ireturn, 1) := by decide +kernel
abbrev rm_X12_fails : Room := { frames := 0, cells := 0, slots := 0, locals := 0 }
def f_X12_fails (x1 : Int32) (σ : St) : Option (Int32 × St) := some (0, (si (si σ 1008 0 x1) 1009 0 (σ.1 1005 0)))
section
variable {p : Program} {l : Launch} {e : Env} {s : State} {m : MethodId} {args : Array Value} {below : List Frame} {meth : Method} {c : Code} {g : XG}
set_option maxRecDepth 4000 in
theorem m_X12_fails (x1 : Int32) (σ : St) {r : Int32} {σ' : St} (h : f_X12_fails x1 σ = some (r, σ')) : xM l KM g yX12_fails cX12_fails 2 (some .boolean) rm_X12_fails [.ref (g.q 0), .int x1] σ (some (.int r)) σ' := by
  refine xmet pn_X12 rfl (Nat.le_of_ble_eq_true rfl) (lv := [(0, .ref (g.q 0)), (1, .int x1)]) rfl (fun p e s m args below meth c ls C hW hl => ?_)
  have hx := C.1
  have hb := C.2.1
  unfold f_X12_fails at h
  refine lv_aload_n hx hb dX12_fails_0 rfl (lv_at hl 0 rfl) ?_
  refine lv_iload_n hx hb dX12_fails_1 rfl (lv_at hl 1 rfl) ?_
  refine xp_i C hW fp_12_289 KM_0 rfl (v := 1008) rfl rfl rfl dX12_fails_2 (fun H locs hW => ?_)
  refine lv_aload_n hx hb dX12_fails_5 rfl (lv_at hl 0 rfl) ?_
  refine lv_aload_n hx hb dX12_fails_6 rfl (lv_at hl 0 rfl) ?_
  refine xg_i C hW fg_12_258 KM_0 rfl (v := 1005) rfl (x := σ.1 1005 0) rfl dX12_fails_7 ?_
  refine xp_i C hW fp_12_13 KM_0 rfl (v := 1009) rfl rfl rfl dX12_fails_10 (fun H locs hW => ?_)
  refine lv_iconst (v := 0) hx hb dX12_fails_13 rfl ?_
  cases h
  exact xr_z C hW (by decide) dX12_fails_14
end
theorem dX12_readNumber_0 : decode cX12_readNumber 0 = .ok (.aload_n 0, 1) := by decide +kernel
theorem dX12_readNumber_1 : decode cX12_readNumber 1 = .ok (.getfield 264, 3) := by decide +kernel
theorem dX12_readNumber_4 : decode cX12_readNumber 4 = .ok (.iconst 2, 1) := by decide +kernel
theorem dX12_readNumber_5 : decode cX12_readNumber 5 = .ok (.if_icmp .eq 9, 3) := by decide +kernel
theorem dX12_readNumber_8 : decode cX12_readNumber 8 = .ok (.aload_n 0, 1) := by decide +kernel
theorem dX12_readNumber_9 : decode cX12_readNumber 9 = .ok (.iconst 1, 1) := by decide +kernel
theorem dX12_readNumber_10 : decode cX12_readNumber 10 = .ok (.invokevirtual 292, 3) := by decide +kernel
theorem dX12_readNumber_13 : decode cX12_readNumber 13 = .ok (.ireturn, 1) := by decide +kernel
theorem dX12_readNumber_14 : decode cX12_readNumber 14 = .ok (.aload_n 0, 1) := by decide +kernel
theorem dX12_readNumber_15 : decode cX12_readNumber 15 = .ok (.getfield 286, 3) := by decide +kernel
theorem dX12_readNumber_18 : decode cX12_readNumber 18 = .ok (.iload_n 1, 1) := by decide +kernel
theorem dX12_readNumber_19 : decode cX12_readNumber 19 = .ok (.iload_n 2, 1) := by decide +kernel
theorem dX12_readNumber_20 : decode cX12_readNumber 20 = .ok (.invokestatic 295, 3) := by decide +kernel
theorem dX12_readNumber_23 : decode cX12_readNumber 23 = .ok (.ifCond .ne 9, 3) := by decide +kernel
theorem dX12_readNumber_26 : decode cX12_readNumber 26 = .ok (.aload_n 0, 1) := by decide +kernel
theorem dX12_readNumber_27 : decode cX12_readNumber 27 = .ok (.iconst 2, 1) := by decide +kernel
theorem dX12_readNumber_28 : decode cX12_readNumber 28 = .ok (.invokevirtual 292, 3) := by decide +kernel
theorem dX12_readNumber_31 : decode cX12_readNumber 31 = .ok (.ireturn, 1) := by decide +kernel
theorem dX12_readNumber_32 : decode cX12_readNumber 32 = .ok (.aload_n 0, 1) := by decide +kernel
theorem dX12_readNumber_33 : decode cX12_readNumber 33 = .ok (.aload_n 0, 1) := by decide +kernel
theorem dX12_readNumber_34 : decode cX12_readNumber 34 = .ok (.getfield 286, 3) := by decide +kernel
theorem dX12_readNumber_37 : decode cX12_readNumber 37 = .ok (.putfield 299, 3) := by decide +kernel
theorem dX12_readNumber_40 : decode cX12_readNumber 40 = .ok (.aload_n 0, 1) := by decide +kernel
theorem dX12_readNumber_41 : decode cX12_readNumber 41 = .ok (.invokevirtual 239, 3) := by decide +kernel
theorem dX12_readNumber_44 : decode cX12_readNumber 44 = .ok (.iconst 1, 1) := by decide +kernel
theorem dX12_readNumber_45 : decode cX12_readNumber 45 = .ok (.ireturn, 1) := by decide +kernel
abbrev rm_X12_readNumber : Room := { frames := 6, cells := 0, slots := 0, locals := 170 }
def f_X12_readNumber (N : Nat) (x1 : Int32) (x2 : Int32) (σ : St) : Option (Int32 × St) := (if (σ.1 1003 0) = 2 then (if (f_X12_in (σ.1 1007 0) x1 x2 σ) = 0 then bd (f_X12_fails 2 σ) (fun r4_ σ4 => grd (zbb r4_) (some (r4_, σ4))) else bo (f_X12_scan N (si σ 1011 0 (σ.1 1007 0))) (fun σ3 => some (1, σ3))) else bd (f_X12_fails 1 σ) (fun r6_ σ6 => grd (zbb r6_) (some (r6_, σ6))))
section
variable {p : Program} {l : Launch} {e : Env} {s : State} {m : MethodId} {args : Array Value} {below : List Frame} {meth : Method} {c : Code} {g : XG}
set_option maxRecDepth 4000 in
theorem m_X12_readNumber (N : Nat) (x1 : Int32) (x2 : Int32) (σ : St) {r : Int32} {σ' : St} (h : f_X12_readNumber N x1 x2 σ = some (r, σ')) : xM l KM g yX12_readNumber cX12_readNumber 3 (some .boolean) rm_X12_readNumber [.ref (g.q 0), .int x1, .int x2] σ (some (.int r)) σ' := by
  refine xmet pn_X12 rfl (Nat.le_of_ble_eq_true rfl) (lv := [(0, .ref (g.q 0)), (1, .int x1), (2, .int x2)]) rfl (fun p e s m args below meth c ls C hW hl => ?_)
  have hx := C.1
  have hb := C.2.1
  unfold f_X12_readNumber at h
  refine lv_aload_n hx hb dX12_readNumber_0 rfl (lv_at hl 0 rfl) ?_
  refine xg_i C hW fg_12_264 KM_0 rfl (v := 1003) rfl (x := σ.1 1003 0) rfl dX12_readNumber_1 ?_
  refine lv_iconst (v := 2) hx hb dX12_readNumber_4 rfl ?_
  refine lv_icmp_eq (tgt := 14) hx hb dX12_readNumber_5 (by decide) (fun c1 => ?_) (fun c1 => ?_)
  · have h := xit c1 h
    refine lv_aload_n hx hb dX12_readNumber_14 rfl (lv_at hl 0 rfl) ?_
    refine xg_i C hW fg_12_286 KM_0 rfl (v := 1007) rfl (x := σ.1 1007 0) rfl dX12_readNumber_15 ?_
    refine lv_iload_n hx hb dX12_readNumber_18 rfl (lv_at hl 1 rfl) ?_
    refine lv_iload_n hx hb dX12_readNumber_19 rfl (lv_at hl 2 rfl) ?_
    refine xc_S (As := [.int (σ.1 1007 0), .int x1, .int x2]) (rest := []) C hW (m_X12_in (σ.1 1007 0) x1 x2 _ rfl) mf_X12_in mt_X12_in ml_X12_295 ⟨rfl, rfl⟩ ⟨Nat.le_of_ble_eq_true rfl, Nat.le_of_ble_eq_true rfl⟩ hl.1 rfl rfl (Nat.le_of_ble_eq_true rfl) dX12_readNumber_20 (fun H locs hW => W.eq (g2 := F0 m 23 ls [.int (f_X12_in (σ.1 1007 0) x1 x2 σ)]) rfl ?_)
    refine lv_if_ne (tgt := 32) hx hb dX12_readNumber_23 (by decide) (fun c2 => ?_) (fun c2 => ?_)
    · have h := xif c2 h
      refine lv_aload_n hx hb dX12_readNumber_32 rfl (lv_at hl 0 rfl) ?_
      refine lv_aload_n hx hb dX12_readNumber_33 rfl (lv_at hl 0 rfl) ?_
      refine xg_i C hW fg_12_286 KM_0 rfl (v := 1007) rfl (x := σ.1 1007 0) rfl dX12_readNumber_34 ?_
      refine xp_i C hW fp_12_299 KM_0 rfl (v := 1011) rfl rfl rfl dX12_readNumber_37 (fun H locs hW => ?_)
      refine lv_aload_n hx hb dX12_readNumber_40 rfl (lv_at hl 0 rfl) ?_
      obtain ⟨σ3, e3, h⟩ := xbo h
      refine xc_V (As := []) (rest := []) C hW (m_X12_scan N _ e3) mf_X12_scan mv_X12_scan ml_X12_239 ⟨rfl, rfl⟩ ⟨Nat.le_of_ble_eq_true rfl, Nat.le_of_ble_eq_true rfl⟩ KM_0 rfl hl.1 rfl rfl (Nat.le_of_ble_eq_true rfl) dX12_readNumber_41 (fun H locs hW => W.eq (g2 := F0 m 44 ls []) rfl ?_)
      refine lv_iconst (v := 1) hx hb dX12_readNumber_44 rfl ?_
      cases h
      exact xr_z C hW (by decide) dX12_readNumber_45
    · have h := xit c2 h
      refine lv_aload_n hx hb dX12_readNumber_26 rfl (lv_at hl 0 rfl) ?_
      refine lv_iconst (v := 2) hx hb dX12_readNumber_27 rfl ?_
      obtain ⟨r4_, σ4, e4, h⟩ := xbd h
      refine xc_V (As := [.int 2]) (rest := []) C hW (m_X12_fails 2 _ e4) mf_X12_fails mv_X12_fails ml_X12_292 ⟨rfl, rfl⟩ ⟨Nat.le_of_ble_eq_true rfl, Nat.le_of_ble_eq_true rfl⟩ KM_0 rfl hl.1 rfl rfl (Nat.le_of_ble_eq_true rfl) dX12_readNumber_28 (fun H locs hW => W.eq (g2 := F0 m 31 ls [.int r4_]) rfl ?_)
      obtain ⟨g5, h⟩ := xgd h
      cases h
      exact xr_z C hW g5 dX12_readNumber_31
  · have h := xif c1 h
    refine lv_aload_n hx hb dX12_readNumber_8 rfl (lv_at hl 0 rfl) ?_
    refine lv_iconst (v := 1) hx hb dX12_readNumber_9 rfl ?_
    obtain ⟨r6_, σ6, e6, h⟩ := xbd h
    refine xc_V (As := [.int 1]) (rest := []) C hW (m_X12_fails 1 _ e6) mf_X12_fails mv_X12_fails ml_X12_292 ⟨rfl, rfl⟩ ⟨Nat.le_of_ble_eq_true rfl, Nat.le_of_ble_eq_true rfl⟩ KM_0 rfl hl.1 rfl rfl (Nat.le_of_ble_eq_true rfl) dX12_readNumber_10 (fun H locs hW => W.eq (g2 := F0 m 13 ls [.int r6_]) rfl ?_)
    obtain ⟨g7, h⟩ := xgd h
    cases h
    exact xr_z C hW g7 dX12_readNumber_13
end
theorem dX12_fault_0 : decode cX12_fault 0 = .ok (.iload_n 1, 1) := by decide +kernel
theorem dX12_fault_1 : decode cX12_fault 1 = .ok (.ifCond .ne 10, 3) := by decide +kernel
theorem dX12_fault_4 : decode cX12_fault 4 = .ok (.aload_n 0, 1) := by decide +kernel
theorem dX12_fault_5 : decode cX12_fault 5 = .ok (.getfield 289, 3) := by decide +kernel
theorem dX12_fault_8 : decode cX12_fault 8 = .ok (.goto 16, 3) := by decide +kernel
theorem dX12_fault_11 : decode cX12_fault 11 = .ok (.iload_n 1, 1) := by decide +kernel
theorem dX12_fault_12 : decode cX12_fault 12 = .ok (.iconst 1, 1) := by decide +kernel
theorem dX12_fault_13 : decode cX12_fault 13 = .ok (.if_icmp .ne 10, 3) := by decide +kernel
theorem dX12_fault_16 : decode cX12_fault 16 = .ok (.aload_n 0, 1) := by decide +kernel
theorem dX12_fault_17 : decode cX12_fault 17 = .ok (.getfield 13, 3) := by decide +kernel
theorem dX12_fault_20 : decode cX12_fault 20 = .ok (.goto 4, 3) := by decide +kernel
theorem dX12_fault_23 : decode cX12_fault 23 = .ok (.iconst (-1), 1) := by decide +kernel
theorem dX12_fault_24 : decode cX12_fault 24 = .ok (.ireturn, 1) := by decide +kernel
abbrev rm_X12_fault : Room := { frames := 0, cells := 0, slots := 0, locals := 0 }
def f_X12_fault (x1 : Int32) (σ : St) : Int32 := (if x1 = 0 then σ.1 1008 0 else (if x1 = 1 then σ.1 1009 0 else (-1)))
section
variable {p : Program} {l : Launch} {e : Env} {s : State} {m : MethodId} {args : Array Value} {below : List Frame} {meth : Method} {c : Code} {g : XG}
set_option maxRecDepth 4000 in
theorem m_X12_fault (x1 : Int32) (σ : St) {r : Int32} (h : f_X12_fault x1 σ = r) : xM l KM g yX12_fault cX12_fault 2 (some .int) rm_X12_fault [.ref (g.q 0), .int x1] σ (some (.int r)) σ := by
  refine xmet pn_X12 rfl (Nat.le_of_ble_eq_true rfl) (lv := [(0, .ref (g.q 0)), (1, .int x1)]) rfl (fun p e s m args below meth c ls C hW hl => ?_)
  have hx := C.1
  have hb := C.2.1
  unfold f_X12_fault at h
  refine lv_iload_n hx hb dX12_fault_0 rfl (lv_at hl 1 rfl) ?_
  refine lv_if_ne (tgt := 11) hx hb dX12_fault_1 (by decide) (fun c1 => ?_) (fun c1 => ?_)
  · have h := xif c1 h
    refine lv_iload_n hx hb dX12_fault_11 rfl (lv_at hl 1 rfl) ?_
    refine lv_iconst (v := 1) hx hb dX12_fault_12 rfl ?_
    refine lv_icmp_ne (tgt := 23) hx hb dX12_fault_13 (by decide) (fun c2 => ?_) (fun c2 => ?_)
    · have h := xif c2 h
      refine lv_iconst (v := (-1)) hx hb dX12_fault_23 rfl ?_
      cases h
      exact xr_i C hW dX12_fault_24
    · have h := xit c2 h
      refine lv_aload_n hx hb dX12_fault_16 rfl (lv_at hl 0 rfl) ?_
      refine xg_i C hW fg_12_13 KM_0 rfl (v := 1009) rfl (x := σ.1 1009 0) rfl dX12_fault_17 ?_
      refine lv_goto (tgt := 24) hx hb dX12_fault_20 (by decide) ?_
      cases h
      exact xr_i C hW dX12_fault_24
  · have h := xit c1 h
    refine lv_aload_n hx hb dX12_fault_4 rfl (lv_at hl 0 rfl) ?_
    refine xg_i C hW fg_12_289 KM_0 rfl (v := 1008) rfl (x := σ.1 1008 0) rfl dX12_fault_5 ?_
    refine lv_goto (tgt := 24) hx hb dX12_fault_8 (by decide) ?_
    cases h
    exact xr_i C hW dX12_fault_24
end
theorem dX12_beginDraft_0 : decode cX12_beginDraft 0 = .ok (.aload_n 0, 1) := by decide +kernel
theorem dX12_beginDraft_1 : decode cX12_beginDraft 1 = .ok (.getfield 17, 3) := by decide +kernel
theorem dX12_beginDraft_4 : decode cX12_beginDraft 4 = .ok (.iconst 4, 1) := by decide +kernel
theorem dX12_beginDraft_5 : decode cX12_beginDraft 5 = .ok (.iconst 1, 1) := by decide +kernel
theorem dX12_beginDraft_6 : decode cX12_beginDraft 6 = .ok (.iastore, 1) := by decide +kernel
theorem dX12_beginDraft_7 : decode cX12_beginDraft 7 = .ok (.aload_n 0, 1) := by decide +kernel
theorem dX12_beginDraft_8 : decode cX12_beginDraft 8 = .ok (.getfield 17, 3) := by decide +kernel
theorem dX12_beginDraft_11 : decode cX12_beginDraft 11 = .ok (.iconst 5, 1) := by decide +kernel
theorem dX12_beginDraft_12 : decode cX12_beginDraft 12 = .ok (.bipush 24, 2) := by decide +kernel
theorem dX12_beginDraft_14 : decode cX12_beginDraft 14 = .ok (.iastore, 1) := by decide +kernel
theorem dX12_beginDraft_15 : decode cX12_beginDraft 15 = .ok (.aload_n 0, 1) := by decide +kernel
theorem dX12_beginDraft_16 : decode cX12_beginDraft 16 = .ok (.getfield 17, 3) := by decide +kernel
theorem dX12_beginDraft_19 : decode cX12_beginDraft 19 = .ok (.bipush 6, 2) := by decide +kernel
theorem dX12_beginDraft_21 : decode cX12_beginDraft 21 = .ok (.bipush 50, 2) := by decide +kernel
theorem dX12_beginDraft_23 : decode cX12_beginDraft 23 = .ok (.iastore, 1) := by decide +kernel
theorem dX12_beginDraft_24 : decode cX12_beginDraft 24 = .ok (.aload_n 0, 1) := by decide +kernel
theorem dX12_beginDraft_25 : decode cX12_beginDraft 25 = .ok (.getfield 17, 3) := by decide +kernel
theorem dX12_beginDraft_28 : decode cX12_beginDraft 28 = .ok (.bipush 7, 2) := by decide +kernel
theorem dX12_beginDraft_30 : decode cX12_beginDraft 30 = .ok (.iconst 1, 1) := by decide +kernel
theorem dX12_beginDraft_31 : decode cX12_beginDraft 31 = .ok (.iastore, 1) := by decide +kernel
theorem dX12_beginDraft_32 : decode cX12_beginDraft 32 = .ok (.aload_n 0, 1) := by decide +kernel
theorem dX12_beginDraft_33 : decode cX12_beginDraft 33 = .ok (.getfield 21, 3) := by decide +kernel
theorem dX12_beginDraft_36 : decode cX12_beginDraft 36 = .ok (.iconst 1, 1) := by decide +kernel
theorem dX12_beginDraft_37 : decode cX12_beginDraft 37 = .ok (.iconst 0, 1) := by decide +kernel
theorem dX12_beginDraft_38 : decode cX12_beginDraft 38 = .ok (.iastore, 1) := by decide +kernel
theorem dX12_beginDraft_39 : decode cX12_beginDraft 39 = .ok (.return_, 1) := by decide +kernel
abbrev rm_X12_beginDraft : Room := { frames := 0, cells := 0, slots := 0, locals := 0 }
def f_X12_beginDraft (σ : St) : Option St := grd (ib 4 8) (grd (ib 5 8) (grd (ib 6 8) (grd (ib 7 8) (grd (ib 1 2) (some ((si (si (si (si (si σ 2 4 1) 2 5 24) 2 6 50) 2 7 1) 3 1 0)))))))
section
variable {p : Program} {l : Launch} {e : Env} {s : State} {m : MethodId} {args : Array Value} {below : List Frame} {meth : Method} {c : Code} {g : XG}
set_option maxRecDepth 4000 in
theorem m_X12_beginDraft (σ : St) {σ' : St} (h : f_X12_beginDraft σ = some σ') : xM l KM g yX12_beginDraft cX12_beginDraft 1 none rm_X12_beginDraft [.ref (g.q 0)] σ none σ' := by
  refine xmet pn_X12 rfl (Nat.le_of_ble_eq_true rfl) (lv := [(0, .ref (g.q 0))]) rfl (fun p e s m args below meth c ls C hW hl => ?_)
  have hx := C.1
  have hb := C.2.1
  unfold f_X12_beginDraft at h
  refine lv_aload_n hx hb dX12_beginDraft_0 rfl (lv_at hl 0 rfl) ?_
  refine xg_r C hW fg_12_17 KM_0 rfl dX12_beginDraft_1 ?_
  refine lv_iconst (v := 4) hx hb dX12_beginDraft_4 rfl ?_
  refine lv_iconst (v := 1) hx hb dX12_beginDraft_5 rfl ?_
  obtain ⟨g1, h⟩ := xgd h
  refine xs_i C hW KM_2 g1 dX12_beginDraft_6 (fun H locs hW => ?_)
  refine lv_aload_n hx hb dX12_beginDraft_7 rfl (lv_at hl 0 rfl) ?_
  refine xg_r C hW fg_12_17 KM_0 rfl dX12_beginDraft_8 ?_
  refine lv_iconst (v := 5) hx hb dX12_beginDraft_11 rfl ?_
  refine lv_bipush (v := 24) hx hb dX12_beginDraft_12 rfl ?_
  obtain ⟨g2, h⟩ := xgd h
  refine xs_i C hW KM_2 g2 dX12_beginDraft_14 (fun H locs hW => ?_)
  refine lv_aload_n hx hb dX12_beginDraft_15 rfl (lv_at hl 0 rfl) ?_
  refine xg_r C hW fg_12_17 KM_0 rfl dX12_beginDraft_16 ?_
  refine lv_bipush (v := 6) hx hb dX12_beginDraft_19 rfl ?_
  refine lv_bipush (v := 50) hx hb dX12_beginDraft_21 rfl ?_
  obtain ⟨g3, h⟩ := xgd h
  refine xs_i C hW KM_2 g3 dX12_beginDraft_23 (fun H locs hW => ?_)
  refine lv_aload_n hx hb dX12_beginDraft_24 rfl (lv_at hl 0 rfl) ?_
  refine xg_r C hW fg_12_17 KM_0 rfl dX12_beginDraft_25 ?_
  refine lv_bipush (v := 7) hx hb dX12_beginDraft_28 rfl ?_
  refine lv_iconst (v := 1) hx hb dX12_beginDraft_30 rfl ?_
  obtain ⟨g4, h⟩ := xgd h
  refine xs_i C hW KM_2 g4 dX12_beginDraft_31 (fun H locs hW => ?_)
  refine lv_aload_n hx hb dX12_beginDraft_32 rfl (lv_at hl 0 rfl) ?_
  refine xg_r C hW fg_12_21 KM_0 rfl dX12_beginDraft_33 ?_
  refine lv_iconst (v := 1) hx hb dX12_beginDraft_36 rfl ?_
  refine lv_iconst (v := 0) hx hb dX12_beginDraft_37 rfl ?_
  obtain ⟨g5, h⟩ := xgd h
  refine xs_i C hW KM_3 g5 dX12_beginDraft_38 (fun H locs hW => ?_)
  cases h
  exact xr_v C hW dX12_beginDraft_39
end
