theorem dX12_spellingComes_0 : decode cX12_spellingComes 0 = .ok (.aload_n 0, 1) := by decide +kernel
theorem dX12_spellingComes_1 : decode cX12_spellingComes 1 = .ok (.aload_n 0, 1) := by decide +kernel
theorem dX12_spellingComes_2 : decode cX12_spellingComes 2 = .ok (.getfield 130, 3) := by decide +kernel
theorem dX12_spellingComes_5 : decode cX12_spellingComes 5 = .ok (.aload_n 0, 1) := by decide +kernel
theorem dX12_spellingComes_6 : decode cX12_spellingComes 6 = .ok (.getfield 445, 3) := by decide +kernel
theorem dX12_spellingComes_9 : decode cX12_spellingComes 9 = .ok (.invokevirtual 511, 3) := by decide +kernel
theorem dX12_spellingComes_12 : decode cX12_spellingComes 12 = .ok (.istore_n 2, 1) := by decide +kernel
theorem dX12_spellingComes_13 : decode cX12_spellingComes 13 = .ok (.iload_n 2, 1) := by decide +kernel
theorem dX12_spellingComes_14 : decode cX12_spellingComes 14 = .ok (.ldc_w 435, 3) := by decide +kernel
theorem dX12_spellingComes_17 : decode cX12_spellingComes 17 = .ok (.if_icmp .lt 4, 3) := by decide +kernel
theorem dX12_spellingComes_20 : decode cX12_spellingComes 20 = .ok (.return_, 1) := by decide +kernel
theorem dX12_spellingComes_21 : decode cX12_spellingComes 21 = .ok (.bipush 13, 2) := by decide +kernel
theorem dX12_spellingComes_23 : decode cX12_spellingComes 23 = .ok (.aload_n 0, 1) := by decide +kernel
theorem dX12_spellingComes_24 : decode cX12_spellingComes 24 = .ok (.getfield 518, 3) := by decide +kernel
theorem dX12_spellingComes_27 : decode cX12_spellingComes 27 = .ok (.imul, 1) := by decide +kernel
theorem dX12_spellingComes_28 : decode cX12_spellingComes 28 = .ok (.iload_n 2, 1) := by decide +kernel
theorem dX12_spellingComes_29 : decode cX12_spellingComes 29 = .ok (.iadd, 1) := by decide +kernel
theorem dX12_spellingComes_30 : decode cX12_spellingComes 30 = .ok (.istore_n 3, 1) := by decide +kernel
theorem dX12_spellingComes_31 : decode cX12_spellingComes 31 = .ok (.iconst 0, 1) := by decide +kernel
theorem dX12_spellingComes_32 : decode cX12_spellingComes 32 = .ok (.istore 4, 2) := by decide +kernel
theorem dX12_spellingComes_34 : decode cX12_spellingComes 34 = .ok (.iconst 0, 1) := by decide +kernel
theorem dX12_spellingComes_35 : decode cX12_spellingComes 35 = .ok (.istore 5, 2) := by decide +kernel
theorem dX12_spellingComes_37 : decode cX12_spellingComes 37 = .ok (.iload 5, 2) := by decide +kernel
theorem dX12_spellingComes_39 : decode cX12_spellingComes 39 = .ok (.aload_n 0, 1) := by decide +kernel
theorem dX12_spellingComes_40 : decode cX12_spellingComes 40 = .ok (.getfield 445, 3) := by decide +kernel
theorem dX12_spellingComes_43 : decode cX12_spellingComes 43 = .ok (.if_icmp .ge 25, 3) := by decide +kernel
theorem dX12_spellingComes_46 : decode cX12_spellingComes 46 = .ok (.iload 4, 2) := by decide +kernel
theorem dX12_spellingComes_48 : decode cX12_spellingComes 48 = .ok (.aload_n 0, 1) := by decide +kernel
theorem dX12_spellingComes_49 : decode cX12_spellingComes 49 = .ok (.aload_n 0, 1) := by decide +kernel
theorem dX12_spellingComes_50 : decode cX12_spellingComes 50 = .ok (.getfield 130, 3) := by decide +kernel
theorem dX12_spellingComes_53 : decode cX12_spellingComes 53 = .ok (.iload 5, 2) := by decide +kernel
theorem dX12_spellingComes_55 : decode cX12_spellingComes 55 = .ok (.iaload, 1) := by decide +kernel
theorem dX12_spellingComes_56 : decode cX12_spellingComes 56 = .ok (.invokevirtual 473, 3) := by decide +kernel
theorem dX12_spellingComes_59 : decode cX12_spellingComes 59 = .ok (.iadd, 1) := by decide +kernel
theorem dX12_spellingComes_60 : decode cX12_spellingComes 60 = .ok (.istore 4, 2) := by decide +kernel
theorem dX12_spellingComes_62 : decode cX12_spellingComes 62 = .ok (.iinc 5 1, 3) := by decide +kernel
theorem dX12_spellingComes_65 : decode cX12_spellingComes 65 = .ok (.goto (-28), 3) := by decide +kernel
theorem dX12_spellingComes_68 : decode cX12_spellingComes 68 = .ok (.aload_n 0, 1) := by decide +kernel
theorem dX12_spellingComes_69 : decode cX12_spellingComes 69 = .ok (.getfield 188, 3) := by decide +kernel
theorem dX12_spellingComes_72 : decode cX12_spellingComes 72 = .ok (.iload_n 3, 1) := by decide +kernel
theorem dX12_spellingComes_73 : decode cX12_spellingComes 73 = .ok (.iaload, 1) := by decide +kernel
theorem dX12_spellingComes_74 : decode cX12_spellingComes 74 = .ok (.ifCond .eq 38, 3) := by decide +kernel
theorem dX12_spellingComes_77 : decode cX12_spellingComes 77 = .ok (.iload 4, 2) := by decide +kernel
theorem dX12_spellingComes_79 : decode cX12_spellingComes 79 = .ok (.aload_n 0, 1) := by decide +kernel
theorem dX12_spellingComes_80 : decode cX12_spellingComes 80 = .ok (.getfield 188, 3) := by decide +kernel
theorem dX12_spellingComes_83 : decode cX12_spellingComes 83 = .ok (.iload_n 3, 1) := by decide +kernel
theorem dX12_spellingComes_84 : decode cX12_spellingComes 84 = .ok (.iaload, 1) := by decide +kernel
theorem dX12_spellingComes_85 : decode cX12_spellingComes 85 = .ok (.if_icmp .lt 27, 3) := by decide +kernel
theorem dX12_spellingComes_88 : decode cX12_spellingComes 88 = .ok (.iload 4, 2) := by decide +kernel
theorem dX12_spellingComes_90 : decode cX12_spellingComes 90 = .ok (.aload_n 0, 1) := by decide +kernel
theorem dX12_spellingComes_91 : decode cX12_spellingComes 91 = .ok (.getfield 188, 3) := by decide +kernel
theorem dX12_spellingComes_94 : decode cX12_spellingComes 94 = .ok (.iload_n 3, 1) := by decide +kernel
theorem dX12_spellingComes_95 : decode cX12_spellingComes 95 = .ok (.iaload, 1) := by decide +kernel
theorem dX12_spellingComes_96 : decode cX12_spellingComes 96 = .ok (.if_icmp .ne 20, 3) := by decide +kernel
theorem dX12_spellingComes_99 : decode cX12_spellingComes 99 = .ok (.aload_n 0, 1) := by decide +kernel
theorem dX12_spellingComes_100 : decode cX12_spellingComes 100 = .ok (.getfield 445, 3) := by decide +kernel
theorem dX12_spellingComes_103 : decode cX12_spellingComes 103 = .ok (.aload_n 0, 1) := by decide +kernel
theorem dX12_spellingComes_104 : decode cX12_spellingComes 104 = .ok (.getfield 191, 3) := by decide +kernel
theorem dX12_spellingComes_107 : decode cX12_spellingComes 107 = .ok (.iload_n 3, 1) := by decide +kernel
theorem dX12_spellingComes_108 : decode cX12_spellingComes 108 = .ok (.iaload, 1) := by decide +kernel
theorem dX12_spellingComes_109 : decode cX12_spellingComes 109 = .ok (.if_icmp .ge 7, 3) := by decide +kernel
theorem dX12_spellingComes_112 : decode cX12_spellingComes 112 = .ok (.iconst 1, 1) := by decide +kernel
theorem dX12_spellingComes_113 : decode cX12_spellingComes 113 = .ok (.goto 4, 3) := by decide +kernel
theorem dX12_spellingComes_116 : decode cX12_spellingComes 116 = .ok (.iconst 0, 1) := by decide +kernel
theorem dX12_spellingComes_117 : decode cX12_spellingComes 117 = .ok (.istore 5, 2) := by decide +kernel
theorem dX12_spellingComes_119 : decode cX12_spellingComes 119 = .ok (.iload 5, 2) := by decide +kernel
theorem dX12_spellingComes_121 : decode cX12_spellingComes 121 = .ok (.ifCond .ne 105, 3) := by decide +kernel
theorem dX12_spellingComes_124 : decode cX12_spellingComes 124 = .ok (.iload 4, 2) := by decide +kernel
theorem dX12_spellingComes_126 : decode cX12_spellingComes 126 = .ok (.aload_n 0, 1) := by decide +kernel
theorem dX12_spellingComes_127 : decode cX12_spellingComes 127 = .ok (.getfield 188, 3) := by decide +kernel
theorem dX12_spellingComes_130 : decode cX12_spellingComes 130 = .ok (.iload_n 3, 1) := by decide +kernel
theorem dX12_spellingComes_131 : decode cX12_spellingComes 131 = .ok (.iaload, 1) := by decide +kernel
theorem dX12_spellingComes_132 : decode cX12_spellingComes 132 = .ok (.if_icmp .ne 94, 3) := by decide +kernel
theorem dX12_spellingComes_135 : decode cX12_spellingComes 135 = .ok (.aload_n 0, 1) := by decide +kernel
theorem dX12_spellingComes_136 : decode cX12_spellingComes 136 = .ok (.getfield 445, 3) := by decide +kernel
theorem dX12_spellingComes_139 : decode cX12_spellingComes 139 = .ok (.aload_n 0, 1) := by decide +kernel
theorem dX12_spellingComes_140 : decode cX12_spellingComes 140 = .ok (.getfield 191, 3) := by decide +kernel
theorem dX12_spellingComes_143 : decode cX12_spellingComes 143 = .ok (.iload_n 3, 1) := by decide +kernel
theorem dX12_spellingComes_144 : decode cX12_spellingComes 144 = .ok (.iaload, 1) := by decide +kernel
theorem dX12_spellingComes_145 : decode cX12_spellingComes 145 = .ok (.if_icmp .ne 81, 3) := by decide +kernel
theorem dX12_spellingComes_148 : decode cX12_spellingComes 148 = .ok (.iconst 0, 1) := by decide +kernel
theorem dX12_spellingComes_149 : decode cX12_spellingComes 149 = .ok (.istore 6, 2) := by decide +kernel
theorem dX12_spellingComes_151 : decode cX12_spellingComes 151 = .ok (.iload 6, 2) := by decide +kernel
theorem dX12_spellingComes_153 : decode cX12_spellingComes 153 = .ok (.aload_n 0, 1) := by decide +kernel
theorem dX12_spellingComes_154 : decode cX12_spellingComes 154 = .ok (.getfield 445, 3) := by decide +kernel
theorem dX12_spellingComes_157 : decode cX12_spellingComes 157 = .ok (.if_icmp .ge 31, 3) := by decide +kernel
theorem dX12_spellingComes_160 : decode cX12_spellingComes 160 = .ok (.aload_n 0, 1) := by decide +kernel
theorem dX12_spellingComes_161 : decode cX12_spellingComes 161 = .ok (.getfield 130, 3) := by decide +kernel
theorem dX12_spellingComes_164 : decode cX12_spellingComes 164 = .ok (.iload 6, 2) := by decide +kernel
theorem dX12_spellingComes_166 : decode cX12_spellingComes 166 = .ok (.iaload, 1) := by decide +kernel
theorem dX12_spellingComes_167 : decode cX12_spellingComes 167 = .ok (.aload_n 0, 1) := by decide +kernel
theorem dX12_spellingComes_168 : decode cX12_spellingComes 168 = .ok (.getfield 194, 3) := by decide +kernel
theorem dX12_spellingComes_171 : decode cX12_spellingComes 171 = .ok (.bipush 12, 2) := by decide +kernel
theorem dX12_spellingComes_173 : decode cX12_spellingComes 173 = .ok (.iload_n 3, 1) := by decide +kernel
theorem dX12_spellingComes_174 : decode cX12_spellingComes 174 = .ok (.imul, 1) := by decide +kernel
theorem dX12_spellingComes_175 : decode cX12_spellingComes 175 = .ok (.iload 6, 2) := by decide +kernel
theorem dX12_spellingComes_177 : decode cX12_spellingComes 177 = .ok (.iadd, 1) := by decide +kernel
theorem dX12_spellingComes_178 : decode cX12_spellingComes 178 = .ok (.iaload, 1) := by decide +kernel
theorem dX12_spellingComes_179 : decode cX12_spellingComes 179 = .ok (.if_icmp .ne 9, 3) := by decide +kernel
theorem dX12_spellingComes_182 : decode cX12_spellingComes 182 = .ok (.iinc 6 1, 3) := by decide +kernel
theorem dX12_spellingComes_185 : decode cX12_spellingComes 185 = .ok (.goto (-34), 3) := by decide +kernel
theorem dX12_spellingComes_188 : decode cX12_spellingComes 188 = .ok (.iload 6, 2) := by decide +kernel
theorem dX12_spellingComes_190 : decode cX12_spellingComes 190 = .ok (.aload_n 0, 1) := by decide +kernel
theorem dX12_spellingComes_191 : decode cX12_spellingComes 191 = .ok (.getfield 445, 3) := by decide +kernel
theorem dX12_spellingComes_194 : decode cX12_spellingComes 194 = .ok (.if_icmp .ge 29, 3) := by decide +kernel
theorem dX12_spellingComes_197 : decode cX12_spellingComes 197 = .ok (.aload_n 0, 1) := by decide +kernel
theorem dX12_spellingComes_198 : decode cX12_spellingComes 198 = .ok (.getfield 130, 3) := by decide +kernel
theorem dX12_spellingComes_201 : decode cX12_spellingComes 201 = .ok (.iload 6, 2) := by decide +kernel
theorem dX12_spellingComes_203 : decode cX12_spellingComes 203 = .ok (.iaload, 1) := by decide +kernel
theorem dX12_spellingComes_204 : decode cX12_spellingComes 204 = .ok (.aload_n 0, 1) := by decide +kernel
theorem dX12_spellingComes_205 : decode cX12_spellingComes 205 = .ok (.getfield 194, 3) := by decide +kernel
theorem dX12_spellingComes_208 : decode cX12_spellingComes 208 = .ok (.bipush 12, 2) := by decide +kernel
theorem dX12_spellingComes_210 : decode cX12_spellingComes 210 = .ok (.iload_n 3, 1) := by decide +kernel
theorem dX12_spellingComes_211 : decode cX12_spellingComes 211 = .ok (.imul, 1) := by decide +kernel
theorem dX12_spellingComes_212 : decode cX12_spellingComes 212 = .ok (.iload 6, 2) := by decide +kernel
theorem dX12_spellingComes_214 : decode cX12_spellingComes 214 = .ok (.iadd, 1) := by decide +kernel
theorem dX12_spellingComes_215 : decode cX12_spellingComes 215 = .ok (.iaload, 1) := by decide +kernel
theorem dX12_spellingComes_216 : decode cX12_spellingComes 216 = .ok (.if_icmp .ge 7, 3) := by decide +kernel
theorem dX12_spellingComes_219 : decode cX12_spellingComes 219 = .ok (.iconst 1, 1) := by decide +kernel
theorem dX12_spellingComes_220 : decode cX12_spellingComes 220 = .ok (.goto 4, 3) := by decide +kernel
theorem dX12_spellingComes_223 : decode cX12_spellingComes 223 = .ok (.iconst 0, 1) := by decide +kernel
theorem dX12_spellingComes_224 : decode cX12_spellingComes 224 = .ok (.istore 5, 2) := by decide +kernel
theorem dX12_spellingComes_226 : decode cX12_spellingComes 226 = .ok (.iload 5, 2) := by decide +kernel
theorem dX12_spellingComes_228 : decode cX12_spellingComes 228 = .ok (.ifCond .ne 4, 3) := by decide +kernel
theorem dX12_spellingComes_231 : decode cX12_spellingComes 231 = .ok (.return_, 1) := by decide +kernel
theorem dX12_spellingComes_232 : decode cX12_spellingComes 232 = .ok (.aload_n 0, 1) := by decide +kernel
theorem dX12_spellingComes_233 : decode cX12_spellingComes 233 = .ok (.getfield 188, 3) := by decide +kernel
theorem dX12_spellingComes_236 : decode cX12_spellingComes 236 = .ok (.iload_n 3, 1) := by decide +kernel
theorem dX12_spellingComes_237 : decode cX12_spellingComes 237 = .ok (.iload 4, 2) := by decide +kernel
theorem dX12_spellingComes_239 : decode cX12_spellingComes 239 = .ok (.iastore, 1) := by decide +kernel
theorem dX12_spellingComes_240 : decode cX12_spellingComes 240 = .ok (.aload_n 0, 1) := by decide +kernel
theorem dX12_spellingComes_241 : decode cX12_spellingComes 241 = .ok (.getfield 191, 3) := by decide +kernel
theorem dX12_spellingComes_244 : decode cX12_spellingComes 244 = .ok (.iload_n 3, 1) := by decide +kernel
theorem dX12_spellingComes_245 : decode cX12_spellingComes 245 = .ok (.aload_n 0, 1) := by decide +kernel
theorem dX12_spellingComes_246 : decode cX12_spellingComes 246 = .ok (.getfield 445, 3) := by decide +kernel
theorem dX12_spellingComes_249 : decode cX12_spellingComes 249 = .ok (.iastore, 1) := by decide +kernel
theorem dX12_spellingComes_250 : decode cX12_spellingComes 250 = .ok (.iconst 0, 1) := by decide +kernel
theorem dX12_spellingComes_251 : decode cX12_spellingComes 251 = .ok (.istore 6, 2) := by decide +kernel
theorem dX12_spellingComes_253 : decode cX12_spellingComes 253 = .ok (.iload 6, 2) := by decide +kernel
theorem dX12_spellingComes_255 : decode cX12_spellingComes 255 = .ok (.aload_n 0, 1) := by decide +kernel
theorem dX12_spellingComes_256 : decode cX12_spellingComes 256 = .ok (.getfield 445, 3) := by decide +kernel
theorem dX12_spellingComes_259 : decode cX12_spellingComes 259 = .ok (.if_icmp .ge 28, 3) := by decide +kernel
theorem dX12_spellingComes_262 : decode cX12_spellingComes 262 = .ok (.aload_n 0, 1) := by decide +kernel
theorem dX12_spellingComes_263 : decode cX12_spellingComes 263 = .ok (.getfield 194, 3) := by decide +kernel
theorem dX12_spellingComes_266 : decode cX12_spellingComes 266 = .ok (.bipush 12, 2) := by decide +kernel
theorem dX12_spellingComes_268 : decode cX12_spellingComes 268 = .ok (.iload_n 3, 1) := by decide +kernel
theorem dX12_spellingComes_269 : decode cX12_spellingComes 269 = .ok (.imul, 1) := by decide +kernel
theorem dX12_spellingComes_270 : decode cX12_spellingComes 270 = .ok (.iload 6, 2) := by decide +kernel
theorem dX12_spellingComes_272 : decode cX12_spellingComes 272 = .ok (.iadd, 1) := by decide +kernel
theorem dX12_spellingComes_273 : decode cX12_spellingComes 273 = .ok (.aload_n 0, 1) := by decide +kernel
theorem dX12_spellingComes_274 : decode cX12_spellingComes 274 = .ok (.getfield 130, 3) := by decide +kernel
theorem dX12_spellingComes_277 : decode cX12_spellingComes 277 = .ok (.iload 6, 2) := by decide +kernel
theorem dX12_spellingComes_279 : decode cX12_spellingComes 279 = .ok (.iaload, 1) := by decide +kernel
theorem dX12_spellingComes_280 : decode cX12_spellingComes 280 = .ok (.iastore, 1) := by decide +kernel
theorem dX12_spellingComes_281 : decode cX12_spellingComes 281 = .ok (.iinc 6 1, 3) := by decide +kernel
theorem dX12_spellingComes_284 : decode cX12_spellingComes 284 = .ok (.goto (-31), 3) := by decide +kernel
theorem dX12_spellingComes_287 : decode cX12_spellingComes 287 = .ok (.return_, 1) := by decide +kernel
abbrev rm_X12_spellingComes : Room := { frames := 6, cells := 0, slots := 0, locals := 180 }
def f_X12_spellingComes_253 (N : Nat) : Nat → Int32 → Int32 → St → Option St
  | 0, _, _, _ => none
  | n + 1, x3, x6, σ => (if (σ.1 1060 0) ≤ x6 then some σ else grd (ib x6 12) (grd (ib ((12 * x3) + x6) 1872) (f_X12_spellingComes_253 N n x3 (x6 + 1) (si σ 60 ((12 * x3) + x6).toNatClampNeg (σ.1 39 x6.toNatClampNeg)))))
def f_X12_spellingComes_226 (N : Nat) (x3 : Int32) (x4 : Int32) (x5 : Int32) (σ : St) : Option St := (if x5 = 0 then some σ else grd (ib x3 156) (grd (ib x3 156) (f_X12_spellingComes_253 N N x3 0 (si (si σ 58 x3.toNatClampNeg x4) 59 x3.toNatClampNeg (σ.1 1060 0)))))
def f_X12_spellingComes_188 (N : Nat) (x3 : Int32) (x4 : Int32) (x6 : Int32) (σ : St) : Option St := (if (σ.1 1060 0) ≤ x6 then f_X12_spellingComes_226 N x3 x4 0 σ else grd (ib x6 12) (grd (ib ((12 * x3) + x6) 1872) ((if (σ.1 60 ((12 * x3) + x6).toNatClampNeg) ≤ (σ.1 39 x6.toNatClampNeg) then f_X12_spellingComes_226 N x3 x4 0 σ else f_X12_spellingComes_226 N x3 x4 1 σ))))
def f_X12_spellingComes_151 (N : Nat) : Nat → Int32 → Int32 → Int32 → St → Option St
  | 0, _, _, _, _ => none
  | n + 1, x3, x4, x6, σ => (if (σ.1 1060 0) ≤ x6 then f_X12_spellingComes_188 N x3 x4 x6 σ else grd (ib x6 12) (grd (ib ((12 * x3) + x6) 1872) ((if (σ.1 39 x6.toNatClampNeg) = (σ.1 60 ((12 * x3) + x6).toNatClampNeg) then f_X12_spellingComes_151 N n x3 x4 (x6 + 1) σ else f_X12_spellingComes_188 N x3 x4 x6 σ))))
def f_X12_spellingComes_117 (N : Nat) (x3 : Int32) (x4 : Int32) (t0 : Int32) (σ : St) : Option St := (if t0 = 0 then grd (ib x3 156) ((if x4 = (σ.1 58 x3.toNatClampNeg) then grd (ib x3 156) ((if (σ.1 1060 0) = (σ.1 59 x3.toNatClampNeg) then f_X12_spellingComes_151 N N x3 x4 0 σ else f_X12_spellingComes_226 N x3 x4 t0 σ)) else f_X12_spellingComes_226 N x3 x4 t0 σ)) else f_X12_spellingComes_226 N x3 x4 t0 σ)
def f_X12_spellingComes_37 (N : Nat) : Nat → Int32 → Int32 → Int32 → St → Option St
  | 0, _, _, _, _ => none
  | n + 1, x3, x4, x5, σ => (if (σ.1 1060 0) ≤ x5 then grd (ib x3 156) ((if (σ.1 58 x3.toNatClampNeg) = 0 then f_X12_spellingComes_117 N x3 x4 1 σ else grd (ib x3 156) ((if x4 < (σ.1 58 x3.toNatClampNeg) then f_X12_spellingComes_117 N x3 x4 1 σ else grd (ib x3 156) ((if x4 = (σ.1 58 x3.toNatClampNeg) then grd (ib x3 156) ((if (σ.1 59 x3.toNatClampNeg) ≤ (σ.1 1060 0) then f_X12_spellingComes_117 N x3 x4 0 σ else f_X12_spellingComes_117 N x3 x4 1 σ)) else f_X12_spellingComes_117 N x3 x4 0 σ)))))) else grd (ib x5 12) (bo (f_X12_paint (σ.1 39 x5.toNatClampNeg) σ) (fun r13_ => f_X12_spellingComes_37 N n x3 (x4 + r13_) (x5 + 1) σ)))
def f_X12_spellingComes (N : Nat) (x1 : Int32) (σ : St) : Option St := bd (f_X12_groups 39 12 N (σ.1 1060 0) σ) (fun r1_ σ1 => (if r1_ < 1000000000 then f_X12_spellingComes_37 N N ((13 * (σ1.1 1091 0)) + r1_) 0 0 σ1 else some σ1))
section
variable {p : Program} {l : Launch} {e : Env} {s : State} {m : MethodId} {args : Array Value} {below : List Frame} {meth : Method} {c : Code} {g : XG}
set_option maxRecDepth 4000 in
theorem w_X12_spellingComes_253 (N : Nat) {σ' : St} (C : xC KM g RX12 cX12_spellingComes 7 none p s m args meth c) : ∀ (n : Nat), ∀ (x3 : Int32) (x6 : Int32) (σ : St) (H : Heap) (locs : List Loc) (ls : Array Slot), xW KM g s σ H locs → lv_has ls 7 [(0, .ref (g.q 0)), (3, .int x3), (6, .int x6)] → f_X12_spellingComes_253 N n x3 x6 σ = some σ' → W p l e rm_X12_spellingComes s m args below meth c H locs 0 0 (MQ below (xPost KM g none σ') args s 0 0 (xA KM g.q)) (F0 m 253 ls []) := by
  have hx := C.1
  have hb := C.2.1
  intro n
  induction n with
  | zero => intro x3 x6 σ H locs ls hW hl h; rw [f_X12_spellingComes_253] at h; cases h
  | succ n ih =>
    intro x3 x6 σ H locs ls hW hl h
    rw [f_X12_spellingComes_253] at h
    refine lv_iload hx hb dX12_spellingComes_253 (lv_at hl 2 rfl) ?_
    refine lv_aload_n hx hb dX12_spellingComes_255 rfl (lv_at hl 0 rfl) ?_
    refine xg_i C hW fg_12_445 KM_0 rfl (v := 1060) rfl (x := σ.1 1060 0) rfl dX12_spellingComes_256 ?_
    refine lv_icmp_ge (tgt := 287) hx hb dX12_spellingComes_259 (by decide) (fun c30 => ?_) (fun c30 => ?_)
    · have h := xit c30 h
      cases h
      exact xr_v C hW dX12_spellingComes_287
    · have h := xif c30 h
      refine lv_aload_n hx hb dX12_spellingComes_262 rfl (lv_at hl 0 rfl) ?_
      refine xg_r C hW fg_12_194 KM_0 rfl dX12_spellingComes_263 ?_
      refine lv_bipush (v := 12) hx hb dX12_spellingComes_266 rfl ?_
      refine lv_iload_n hx hb dX12_spellingComes_268 rfl (lv_at hl 1 rfl) ?_
      refine lv_imul hx hb dX12_spellingComes_269 ?_
      refine lv_iload hx hb dX12_spellingComes_270 (lv_at hl 2 rfl) ?_
      refine lv_iadd hx hb dX12_spellingComes_272 ?_
      refine lv_aload_n hx hb dX12_spellingComes_273 rfl (lv_at hl 0 rfl) ?_
      refine xg_r C hW fg_12_130 KM_0 rfl dX12_spellingComes_274 ?_
      refine lv_iload hx hb dX12_spellingComes_277 (lv_at hl 2 rfl) ?_
      obtain ⟨g31, h⟩ := xgd h
      refine xa_i C hW KM_39 g31 (x := σ.1 39 x6.toNatClampNeg) rfl dX12_spellingComes_279 ?_
      obtain ⟨g32, h⟩ := xgd h
      refine xs_i C hW KM_60 g32 dX12_spellingComes_280 (fun H locs hW => ?_)
      refine lv_iinc (v := x6 + 1) (lv' := [(6, .int (x6 + 1)), (0, .ref (g.q 0)), (3, .int x3)]) hx hb dX12_spellingComes_281 hl (k := 2) rfl rfl (Nat.le_of_ble_eq_true rfl) rfl (fun ls hl => ?_)
      refine lv_goto (tgt := 253) hx hb dX12_spellingComes_284 (by decide) ?_
      exact ih x3 (x6 + 1) _ _ _ _ hW (lv_sub hl [1, 2, 0] rfl) h
set_option maxRecDepth 4000 in
theorem w_X12_spellingComes_226 (N : Nat) {σ' : St} (C : xC KM g RX12 cX12_spellingComes 7 none p s m args meth c) : ∀ (x3 : Int32) (x4 : Int32) (x5 : Int32) (σ : St) (H : Heap) (locs : List Loc) (ls : Array Slot), xW KM g s σ H locs → lv_has ls 7 [(0, .ref (g.q 0)), (3, .int x3), (4, .int x4), (5, .int x5)] → f_X12_spellingComes_226 N x3 x4 x5 σ = some σ' → W p l e rm_X12_spellingComes s m args below meth c H locs 0 0 (MQ below (xPost KM g none σ') args s 0 0 (xA KM g.q)) (F0 m 226 ls []) := by
  have hx := C.1
  have hb := C.2.1
  intro x3 x4 x5 σ H locs ls hW hl h
  unfold f_X12_spellingComes_226 at h
  refine lv_iload hx hb dX12_spellingComes_226 (lv_at hl 3 rfl) ?_
  refine lv_if_ne (tgt := 232) hx hb dX12_spellingComes_228 (by decide) (fun c27 => ?_) (fun c27 => ?_)
  · have h := xif c27 h
    refine lv_aload_n hx hb dX12_spellingComes_232 rfl (lv_at hl 0 rfl) ?_
    refine xg_r C hW fg_12_188 KM_0 rfl dX12_spellingComes_233 ?_
    refine lv_iload_n hx hb dX12_spellingComes_236 rfl (lv_at hl 1 rfl) ?_
    refine lv_iload hx hb dX12_spellingComes_237 (lv_at hl 2 rfl) ?_
    obtain ⟨g28, h⟩ := xgd h
    refine xs_i C hW KM_58 g28 dX12_spellingComes_239 (fun H locs hW => ?_)
    refine lv_aload_n hx hb dX12_spellingComes_240 rfl (lv_at hl 0 rfl) ?_
    refine xg_r C hW fg_12_191 KM_0 rfl dX12_spellingComes_241 ?_
    refine lv_iload_n hx hb dX12_spellingComes_244 rfl (lv_at hl 1 rfl) ?_
    refine lv_aload_n hx hb dX12_spellingComes_245 rfl (lv_at hl 0 rfl) ?_
    refine xg_i C hW fg_12_445 KM_0 rfl (v := 1060) rfl (x := σ.1 1060 0) rfl dX12_spellingComes_246 ?_
    obtain ⟨g29, h⟩ := xgd h
    refine xs_i C hW KM_59 g29 dX12_spellingComes_249 (fun H locs hW => ?_)
    refine lv_iconst (v := 0) hx hb dX12_spellingComes_250 rfl ?_
    refine lv_istore (lv' := [(6, .int 0), (0, .ref (g.q 0)), (3, .int x3), (4, .int x4), (5, .int x5)]) hx hb dX12_spellingComes_251 hl (Nat.le_of_ble_eq_true rfl) rfl (fun ls hl => ?_)
    exact w_X12_spellingComes_253 N C N x3 0 _ _ _ _ hW (lv_sub hl [1, 2, 0] rfl) h
  · have h := xit c27 h
    cases h
    exact xr_v C hW dX12_spellingComes_231
set_option maxRecDepth 4000 in
theorem w_X12_spellingComes_188 (N : Nat) {σ' : St} (C : xC KM g RX12 cX12_spellingComes 7 none p s m args meth c) : ∀ (x3 : Int32) (x4 : Int32) (x6 : Int32) (σ : St) (H : Heap) (locs : List Loc) (ls : Array Slot), xW KM g s σ H locs → lv_has ls 7 [(0, .ref (g.q 0)), (3, .int x3), (4, .int x4), (6, .int x6)] → f_X12_spellingComes_188 N x3 x4 x6 σ = some σ' → W p l e rm_X12_spellingComes s m args below meth c H locs 0 0 (MQ below (xPost KM g none σ') args s 0 0 (xA KM g.q)) (F0 m 188 ls []) := by
  have hx := C.1
  have hb := C.2.1
  intro x3 x4 x6 σ H locs ls hW hl h
  unfold f_X12_spellingComes_188 at h
  refine lv_iload hx hb dX12_spellingComes_188 (lv_at hl 3 rfl) ?_
  refine lv_aload_n hx hb dX12_spellingComes_190 rfl (lv_at hl 0 rfl) ?_
  refine xg_i C hW fg_12_445 KM_0 rfl (v := 1060) rfl (x := σ.1 1060 0) rfl dX12_spellingComes_191 ?_
  refine lv_icmp_ge (tgt := 223) hx hb dX12_spellingComes_194 (by decide) (fun c23 => ?_) (fun c23 => ?_)
  · have h := xit c23 h
    refine lv_iconst (v := 0) hx hb dX12_spellingComes_223 rfl ?_
    refine lv_istore (lv' := [(5, .int 0), (0, .ref (g.q 0)), (3, .int x3), (4, .int x4), (6, .int x6)]) hx hb dX12_spellingComes_224 hl (Nat.le_of_ble_eq_true rfl) rfl (fun ls hl => ?_)
    exact w_X12_spellingComes_226 N C x3 x4 0 _ _ _ _ hW (lv_sub hl [1, 2, 3, 0] rfl) h
  · have h := xif c23 h
    refine lv_aload_n hx hb dX12_spellingComes_197 rfl (lv_at hl 0 rfl) ?_
    refine xg_r C hW fg_12_130 KM_0 rfl dX12_spellingComes_198 ?_
    refine lv_iload hx hb dX12_spellingComes_201 (lv_at hl 3 rfl) ?_
    obtain ⟨g24, h⟩ := xgd h
    refine xa_i C hW KM_39 g24 (x := σ.1 39 x6.toNatClampNeg) rfl dX12_spellingComes_203 ?_
    refine lv_aload_n hx hb dX12_spellingComes_204 rfl (lv_at hl 0 rfl) ?_
    refine xg_r C hW fg_12_194 KM_0 rfl dX12_spellingComes_205 ?_
    refine lv_bipush (v := 12) hx hb dX12_spellingComes_208 rfl ?_
    refine lv_iload_n hx hb dX12_spellingComes_210 rfl (lv_at hl 1 rfl) ?_
    refine lv_imul hx hb dX12_spellingComes_211 ?_
    refine lv_iload hx hb dX12_spellingComes_212 (lv_at hl 3 rfl) ?_
    refine lv_iadd hx hb dX12_spellingComes_214 ?_
    obtain ⟨g25, h⟩ := xgd h
    refine xa_i C hW KM_60 g25 (x := σ.1 60 ((12 * x3) + x6).toNatClampNeg) rfl dX12_spellingComes_215 ?_
    refine lv_icmp_ge (tgt := 223) hx hb dX12_spellingComes_216 (by decide) (fun c26 => ?_) (fun c26 => ?_)
    · have h := xit c26 h
      refine lv_iconst (v := 0) hx hb dX12_spellingComes_223 rfl ?_
      refine lv_istore (lv' := [(5, .int 0), (0, .ref (g.q 0)), (3, .int x3), (4, .int x4), (6, .int x6)]) hx hb dX12_spellingComes_224 hl (Nat.le_of_ble_eq_true rfl) rfl (fun ls hl => ?_)
      exact w_X12_spellingComes_226 N C x3 x4 0 _ _ _ _ hW (lv_sub hl [1, 2, 3, 0] rfl) h
    · have h := xif c26 h
      refine lv_iconst (v := 1) hx hb dX12_spellingComes_219 rfl ?_
      refine lv_goto (tgt := 224) hx hb dX12_spellingComes_220 (by decide) ?_
      refine lv_istore (lv' := [(5, .int 1), (0, .ref (g.q 0)), (3, .int x3), (4, .int x4), (6, .int x6)]) hx hb dX12_spellingComes_224 hl (Nat.le_of_ble_eq_true rfl) rfl (fun ls hl => ?_)
      exact w_X12_spellingComes_226 N C x3 x4 1 _ _ _ _ hW (lv_sub hl [1, 2, 3, 0] rfl) h
set_option maxRecDepth 4000 in
theorem w_X12_spellingComes_151 (N : Nat) {σ' : St} (C : xC KM g RX12 cX12_spellingComes 7 none p s m args meth c) : ∀ (n : Nat), ∀ (x3 : Int32) (x4 : Int32) (x6 : Int32) (σ : St) (H : Heap) (locs : List Loc) (ls : Array Slot), xW KM g s σ H locs → lv_has ls 7 [(0, .ref (g.q 0)), (3, .int x3), (4, .int x4), (6, .int x6)] → f_X12_spellingComes_151 N n x3 x4 x6 σ = some σ' → W p l e rm_X12_spellingComes s m args below meth c H locs 0 0 (MQ below (xPost KM g none σ') args s 0 0 (xA KM g.q)) (F0 m 151 ls []) := by
  have hx := C.1
  have hb := C.2.1
  intro n
  induction n with
  | zero => intro x3 x4 x6 σ H locs ls hW hl h; rw [f_X12_spellingComes_151] at h; cases h
  | succ n ih =>
    intro x3 x4 x6 σ H locs ls hW hl h
    rw [f_X12_spellingComes_151] at h
    refine lv_iload hx hb dX12_spellingComes_151 (lv_at hl 3 rfl) ?_
    refine lv_aload_n hx hb dX12_spellingComes_153 rfl (lv_at hl 0 rfl) ?_
    refine xg_i C hW fg_12_445 KM_0 rfl (v := 1060) rfl (x := σ.1 1060 0) rfl dX12_spellingComes_154 ?_
    refine lv_icmp_ge (tgt := 188) hx hb dX12_spellingComes_157 (by decide) (fun c19 => ?_) (fun c19 => ?_)
    · have h := xit c19 h
      exact w_X12_spellingComes_188 N C x3 x4 x6 _ _ _ _ hW (lv_sub hl [0, 1, 2, 3] rfl) h
    · have h := xif c19 h
      refine lv_aload_n hx hb dX12_spellingComes_160 rfl (lv_at hl 0 rfl) ?_
      refine xg_r C hW fg_12_130 KM_0 rfl dX12_spellingComes_161 ?_
      refine lv_iload hx hb dX12_spellingComes_164 (lv_at hl 3 rfl) ?_
      obtain ⟨g20, h⟩ := xgd h
      refine xa_i C hW KM_39 g20 (x := σ.1 39 x6.toNatClampNeg) rfl dX12_spellingComes_166 ?_
      refine lv_aload_n hx hb dX12_spellingComes_167 rfl (lv_at hl 0 rfl) ?_
      refine xg_r C hW fg_12_194 KM_0 rfl dX12_spellingComes_168 ?_
      refine lv_bipush (v := 12) hx hb dX12_spellingComes_171 rfl ?_
      refine lv_iload_n hx hb dX12_spellingComes_173 rfl (lv_at hl 1 rfl) ?_
      refine lv_imul hx hb dX12_spellingComes_174 ?_
      refine lv_iload hx hb dX12_spellingComes_175 (lv_at hl 3 rfl) ?_
      refine lv_iadd hx hb dX12_spellingComes_177 ?_
      obtain ⟨g21, h⟩ := xgd h
      refine xa_i C hW KM_60 g21 (x := σ.1 60 ((12 * x3) + x6).toNatClampNeg) rfl dX12_spellingComes_178 ?_
      refine lv_icmp_ne (tgt := 188) hx hb dX12_spellingComes_179 (by decide) (fun c22 => ?_) (fun c22 => ?_)
      · have h := xif c22 h
        exact w_X12_spellingComes_188 N C x3 x4 x6 _ _ _ _ hW (lv_sub hl [0, 1, 2, 3] rfl) h
      · have h := xit c22 h
        refine lv_iinc (v := x6 + 1) (lv' := [(6, .int (x6 + 1)), (0, .ref (g.q 0)), (3, .int x3), (4, .int x4)]) hx hb dX12_spellingComes_182 hl (k := 3) rfl rfl (Nat.le_of_ble_eq_true rfl) rfl (fun ls hl => ?_)
        refine lv_goto (tgt := 151) hx hb dX12_spellingComes_185 (by decide) ?_
        exact ih x3 x4 (x6 + 1) _ _ _ _ hW (lv_sub hl [1, 2, 3, 0] rfl) h
set_option maxRecDepth 4000 in
theorem w_X12_spellingComes_117 (N : Nat) {σ' : St} (C : xC KM g RX12 cX12_spellingComes 7 none p s m args meth c) : ∀ (x3 : Int32) (x4 : Int32) (t0 : Int32) (σ : St) (H : Heap) (locs : List Loc) (ls : Array Slot), xW KM g s σ H locs → lv_has ls 7 [(0, .ref (g.q 0)), (3, .int x3), (4, .int x4)] → f_X12_spellingComes_117 N x3 x4 t0 σ = some σ' → W p l e rm_X12_spellingComes s m args below meth c H locs 0 0 (MQ below (xPost KM g none σ') args s 0 0 (xA KM g.q)) (F0 m 117 ls [.int t0]) := by
  have hx := C.1
  have hb := C.2.1
  intro x3 x4 t0 σ H locs ls hW hl h
  unfold f_X12_spellingComes_117 at h
  refine lv_istore (lv' := [(5, .int t0), (0, .ref (g.q 0)), (3, .int x3), (4, .int x4)]) hx hb dX12_spellingComes_117 hl (Nat.le_of_ble_eq_true rfl) rfl (fun ls hl => ?_)
  refine lv_iload hx hb dX12_spellingComes_119 (lv_at hl 0 rfl) ?_
  refine lv_if_ne (tgt := 226) hx hb dX12_spellingComes_121 (by decide) (fun c14 => ?_) (fun c14 => ?_)
  · have h := xif c14 h
    exact w_X12_spellingComes_226 N C x3 x4 t0 _ _ _ _ hW (lv_sub hl [1, 2, 3, 0] rfl) h
  · have h := xit c14 h
    refine lv_iload hx hb dX12_spellingComes_124 (lv_at hl 3 rfl) ?_
    refine lv_aload_n hx hb dX12_spellingComes_126 rfl (lv_at hl 1 rfl) ?_
    refine xg_r C hW fg_12_188 KM_0 rfl dX12_spellingComes_127 ?_
    refine lv_iload_n hx hb dX12_spellingComes_130 rfl (lv_at hl 2 rfl) ?_
    obtain ⟨g15, h⟩ := xgd h
    refine xa_i C hW KM_58 g15 (x := σ.1 58 x3.toNatClampNeg) rfl dX12_spellingComes_131 ?_
    refine lv_icmp_ne (tgt := 226) hx hb dX12_spellingComes_132 (by decide) (fun c16 => ?_) (fun c16 => ?_)
    · have h := xif c16 h
      exact w_X12_spellingComes_226 N C x3 x4 t0 _ _ _ _ hW (lv_sub hl [1, 2, 3, 0] rfl) h
    · have h := xit c16 h
      refine lv_aload_n hx hb dX12_spellingComes_135 rfl (lv_at hl 1 rfl) ?_
      refine xg_i C hW fg_12_445 KM_0 rfl (v := 1060) rfl (x := σ.1 1060 0) rfl dX12_spellingComes_136 ?_
      refine lv_aload_n hx hb dX12_spellingComes_139 rfl (lv_at hl 1 rfl) ?_
      refine xg_r C hW fg_12_191 KM_0 rfl dX12_spellingComes_140 ?_
      refine lv_iload_n hx hb dX12_spellingComes_143 rfl (lv_at hl 2 rfl) ?_
      obtain ⟨g17, h⟩ := xgd h
      refine xa_i C hW KM_59 g17 (x := σ.1 59 x3.toNatClampNeg) rfl dX12_spellingComes_144 ?_
      refine lv_icmp_ne (tgt := 226) hx hb dX12_spellingComes_145 (by decide) (fun c18 => ?_) (fun c18 => ?_)
      · have h := xif c18 h
        exact w_X12_spellingComes_226 N C x3 x4 t0 _ _ _ _ hW (lv_sub hl [1, 2, 3, 0] rfl) h
      · have h := xit c18 h
        refine lv_iconst (v := 0) hx hb dX12_spellingComes_148 rfl ?_
        refine lv_istore (lv' := [(6, .int 0), (5, .int t0), (0, .ref (g.q 0)), (3, .int x3), (4, .int x4)]) hx hb dX12_spellingComes_149 hl (Nat.le_of_ble_eq_true rfl) rfl (fun ls hl => ?_)
        exact w_X12_spellingComes_151 N C N x3 x4 0 _ _ _ _ hW (lv_sub hl [2, 3, 4, 0] rfl) h
set_option maxRecDepth 4000 in
theorem w_X12_spellingComes_37 (N : Nat) {σ' : St} (C : xC KM g RX12 cX12_spellingComes 7 none p s m args meth c) : ∀ (n : Nat), ∀ (x3 : Int32) (x4 : Int32) (x5 : Int32) (σ : St) (H : Heap) (locs : List Loc) (ls : Array Slot), xW KM g s σ H locs → lv_has ls 7 [(0, .ref (g.q 0)), (3, .int x3), (4, .int x4), (5, .int x5)] → f_X12_spellingComes_37 N n x3 x4 x5 σ = some σ' → W p l e rm_X12_spellingComes s m args below meth c H locs 0 0 (MQ below (xPost KM g none σ') args s 0 0 (xA KM g.q)) (F0 m 37 ls []) := by
  have hx := C.1
  have hb := C.2.1
  intro n
  induction n with
  | zero => intro x3 x4 x5 σ H locs ls hW hl h; rw [f_X12_spellingComes_37] at h; cases h
  | succ n ih =>
    intro x3 x4 x5 σ H locs ls hW hl h
    rw [f_X12_spellingComes_37] at h
    refine lv_iload hx hb dX12_spellingComes_37 (lv_at hl 3 rfl) ?_
    refine lv_aload_n hx hb dX12_spellingComes_39 rfl (lv_at hl 0 rfl) ?_
    refine xg_i C hW fg_12_445 KM_0 rfl (v := 1060) rfl (x := σ.1 1060 0) rfl dX12_spellingComes_40 ?_
    refine lv_icmp_ge (tgt := 68) hx hb dX12_spellingComes_43 (by decide) (fun c3 => ?_) (fun c3 => ?_)
    · have h := xit c3 h
      refine lv_aload_n hx hb dX12_spellingComes_68 rfl (lv_at hl 0 rfl) ?_
      refine xg_r C hW fg_12_188 KM_0 rfl dX12_spellingComes_69 ?_
      refine lv_iload_n hx hb dX12_spellingComes_72 rfl (lv_at hl 1 rfl) ?_
      obtain ⟨g4, h⟩ := xgd h
      refine xa_i C hW KM_58 g4 (x := σ.1 58 x3.toNatClampNeg) rfl dX12_spellingComes_73 ?_
      refine lv_if_eq (tgt := 112) hx hb dX12_spellingComes_74 (by decide) (fun c5 => ?_) (fun c5 => ?_)
      · have h := xit c5 h
        refine lv_iconst (v := 1) hx hb dX12_spellingComes_112 rfl ?_
        refine lv_goto (tgt := 117) hx hb dX12_spellingComes_113 (by decide) ?_
        exact w_X12_spellingComes_117 N C x3 x4 1 _ _ _ _ hW (lv_sub hl [0, 1, 2] rfl) h
      · have h := xif c5 h
        refine lv_iload hx hb dX12_spellingComes_77 (lv_at hl 2 rfl) ?_
        refine lv_aload_n hx hb dX12_spellingComes_79 rfl (lv_at hl 0 rfl) ?_
        refine xg_r C hW fg_12_188 KM_0 rfl dX12_spellingComes_80 ?_
        refine lv_iload_n hx hb dX12_spellingComes_83 rfl (lv_at hl 1 rfl) ?_
        obtain ⟨g6, h⟩ := xgd h
        refine xa_i C hW KM_58 g6 (x := σ.1 58 x3.toNatClampNeg) rfl dX12_spellingComes_84 ?_
        refine lv_icmp_lt (tgt := 112) hx hb dX12_spellingComes_85 (by decide) (fun c7 => ?_) (fun c7 => ?_)
        · have h := xit c7 h
          refine lv_iconst (v := 1) hx hb dX12_spellingComes_112 rfl ?_
          refine lv_goto (tgt := 117) hx hb dX12_spellingComes_113 (by decide) ?_
          exact w_X12_spellingComes_117 N C x3 x4 1 _ _ _ _ hW (lv_sub hl [0, 1, 2] rfl) h
        · have h := xif c7 h
          refine lv_iload hx hb dX12_spellingComes_88 (lv_at hl 2 rfl) ?_
          refine lv_aload_n hx hb dX12_spellingComes_90 rfl (lv_at hl 0 rfl) ?_
          refine xg_r C hW fg_12_188 KM_0 rfl dX12_spellingComes_91 ?_
          refine lv_iload_n hx hb dX12_spellingComes_94 rfl (lv_at hl 1 rfl) ?_
          obtain ⟨g8, h⟩ := xgd h
          refine xa_i C hW KM_58 g8 (x := σ.1 58 x3.toNatClampNeg) rfl dX12_spellingComes_95 ?_
          refine lv_icmp_ne (tgt := 116) hx hb dX12_spellingComes_96 (by decide) (fun c9 => ?_) (fun c9 => ?_)
          · have h := xif c9 h
            refine lv_iconst (v := 0) hx hb dX12_spellingComes_116 rfl ?_
            exact w_X12_spellingComes_117 N C x3 x4 0 _ _ _ _ hW (lv_sub hl [0, 1, 2] rfl) h
          · have h := xit c9 h
            refine lv_aload_n hx hb dX12_spellingComes_99 rfl (lv_at hl 0 rfl) ?_
            refine xg_i C hW fg_12_445 KM_0 rfl (v := 1060) rfl (x := σ.1 1060 0) rfl dX12_spellingComes_100 ?_
            refine lv_aload_n hx hb dX12_spellingComes_103 rfl (lv_at hl 0 rfl) ?_
            refine xg_r C hW fg_12_191 KM_0 rfl dX12_spellingComes_104 ?_
            refine lv_iload_n hx hb dX12_spellingComes_107 rfl (lv_at hl 1 rfl) ?_
            obtain ⟨g10, h⟩ := xgd h
            refine xa_i C hW KM_59 g10 (x := σ.1 59 x3.toNatClampNeg) rfl dX12_spellingComes_108 ?_
            refine lv_icmp_ge (tgt := 116) hx hb dX12_spellingComes_109 (by decide) (fun c11 => ?_) (fun c11 => ?_)
            · have h := xit c11 h
              refine lv_iconst (v := 0) hx hb dX12_spellingComes_116 rfl ?_
              exact w_X12_spellingComes_117 N C x3 x4 0 _ _ _ _ hW (lv_sub hl [0, 1, 2] rfl) h
            · have h := xif c11 h
              refine lv_iconst (v := 1) hx hb dX12_spellingComes_112 rfl ?_
              refine lv_goto (tgt := 117) hx hb dX12_spellingComes_113 (by decide) ?_
              exact w_X12_spellingComes_117 N C x3 x4 1 _ _ _ _ hW (lv_sub hl [0, 1, 2] rfl) h
    · have h := xif c3 h
      refine lv_iload hx hb dX12_spellingComes_46 (lv_at hl 2 rfl) ?_
      refine lv_aload_n hx hb dX12_spellingComes_48 rfl (lv_at hl 0 rfl) ?_
      refine lv_aload_n hx hb dX12_spellingComes_49 rfl (lv_at hl 0 rfl) ?_
      refine xg_r C hW fg_12_130 KM_0 rfl dX12_spellingComes_50 ?_
      refine lv_iload hx hb dX12_spellingComes_53 (lv_at hl 3 rfl) ?_
      obtain ⟨g12, h⟩ := xgd h
      refine xa_i C hW KM_39 g12 (x := σ.1 39 x5.toNatClampNeg) rfl dX12_spellingComes_55 ?_
      obtain ⟨r13_, e13, h⟩ := xbo h
      refine xc_V (As := [.int (σ.1 39 x5.toNatClampNeg)]) (rest := [.int x4]) C hW (m_X12_paint (σ.1 39 x5.toNatClampNeg) _ e13) mf_X12_paint mv_X12_paint ml_X12_473 ⟨rfl, rfl⟩ ⟨Nat.le_of_ble_eq_true rfl, Nat.le_of_ble_eq_true rfl⟩ KM_0 rfl hl.1 rfl rfl (Nat.le_of_ble_eq_true rfl) dX12_spellingComes_56 (fun H locs hW => W.eq (g2 := F0 m 59 ls [.int r13_, .int x4]) rfl ?_)
      refine lv_iadd hx hb dX12_spellingComes_59 ?_
      refine lv_istore (lv' := [(4, .int (x4 + r13_)), (0, .ref (g.q 0)), (3, .int x3), (5, .int x5)]) hx hb dX12_spellingComes_60 hl (Nat.le_of_ble_eq_true rfl) rfl (fun ls hl => ?_)
      refine lv_iinc (v := x5 + 1) (lv' := [(5, .int (x5 + 1)), (4, .int (x4 + r13_)), (0, .ref (g.q 0)), (3, .int x3)]) hx hb dX12_spellingComes_62 hl (k := 3) rfl rfl (Nat.le_of_ble_eq_true rfl) rfl (fun ls hl => ?_)
      refine lv_goto (tgt := 37) hx hb dX12_spellingComes_65 (by decide) ?_
      exact ih x3 (x4 + r13_) (x5 + 1) _ _ _ _ hW (lv_sub hl [2, 3, 1, 0] rfl) h
set_option maxRecDepth 4000 in
theorem m_X12_spellingComes (N : Nat) (x1 : Int32) (σ : St) {σ' : St} (h : f_X12_spellingComes N x1 σ = some σ') : xM l KM g yX12_spellingComes cX12_spellingComes 7 none rm_X12_spellingComes [.ref (g.q 0), .int x1] σ none σ' := by
  refine xmet pn_X12 rfl (Nat.le_of_ble_eq_true rfl) (lv := [(0, .ref (g.q 0)), (1, .int x1)]) rfl (fun p e s m args below meth c ls C hW hl => ?_)
  have hx := C.1
  have hb := C.2.1
  unfold f_X12_spellingComes at h
  refine lv_aload_n hx hb dX12_spellingComes_0 rfl (lv_at hl 0 rfl) ?_
  refine lv_aload_n hx hb dX12_spellingComes_1 rfl (lv_at hl 0 rfl) ?_
  refine xg_r C hW fg_12_130 KM_0 rfl dX12_spellingComes_2 ?_
  refine lv_aload_n hx hb dX12_spellingComes_5 rfl (lv_at hl 0 rfl) ?_
  refine xg_i C hW fg_12_445 KM_0 rfl (v := 1060) rfl (x := σ.1 1060 0) rfl dX12_spellingComes_6 ?_
  obtain ⟨r1_, σ1, e1, h⟩ := xbd h
  refine xc_V (As := [.ref (g.q 39), .int (σ.1 1060 0)]) (rest := []) C hW (m_X12_groups 39 12 KM_39 N (σ.1 1060 0) _ e1) mf_X12_groups mv_X12_groups ml_X12_511 ⟨rfl, rfl⟩ ⟨Nat.le_of_ble_eq_true rfl, Nat.le_of_ble_eq_true rfl⟩ KM_0 rfl hl.1 rfl rfl (Nat.le_of_ble_eq_true rfl) dX12_spellingComes_9 (fun H locs hW => W.eq (g2 := F0 m 12 ls [.int r1_]) rfl ?_)
  refine lv_istore_n (lv' := [(2, .int r1_), (0, .ref (g.q 0)), (1, .int x1)]) hx hb dX12_spellingComes_12 rfl hl (Nat.le_of_ble_eq_true rfl) rfl (fun ls hl => ?_)
  refine lv_iload_n hx hb dX12_spellingComes_13 rfl (lv_at hl 0 rfl) ?_
  refine lv_ldcw (v := 1000000000) hx hb C.ow (C.hts _ kc_X12_435) dX12_spellingComes_14 ?_
  refine lv_icmp_lt (tgt := 21) hx hb dX12_spellingComes_17 (by decide) (fun c2 => ?_) (fun c2 => ?_)
  · have h := xit c2 h
    refine lv_bipush (v := 13) hx hb dX12_spellingComes_21 rfl ?_
    refine lv_aload_n hx hb dX12_spellingComes_23 rfl (lv_at hl 1 rfl) ?_
    refine xg_i C hW fg_12_518 KM_0 rfl (v := 1091) rfl (x := σ1.1 1091 0) rfl dX12_spellingComes_24 ?_
    refine lv_imul hx hb dX12_spellingComes_27 ?_
    refine lv_iload_n hx hb dX12_spellingComes_28 rfl (lv_at hl 0 rfl) ?_
    refine lv_iadd hx hb dX12_spellingComes_29 ?_
    refine lv_istore_n (lv' := [(3, .int ((13 * (σ1.1 1091 0)) + r1_)), (2, .int r1_), (0, .ref (g.q 0)), (1, .int x1)]) hx hb dX12_spellingComes_30 rfl hl (Nat.le_of_ble_eq_true rfl) rfl (fun ls hl => ?_)
    refine lv_iconst (v := 0) hx hb dX12_spellingComes_31 rfl ?_
    refine lv_istore (lv' := [(4, .int 0), (3, .int ((13 * (σ1.1 1091 0)) + r1_)), (2, .int r1_), (0, .ref (g.q 0)), (1, .int x1)]) hx hb dX12_spellingComes_32 hl (Nat.le_of_ble_eq_true rfl) rfl (fun ls hl => ?_)
    refine lv_iconst (v := 0) hx hb dX12_spellingComes_34 rfl ?_
    refine lv_istore (lv' := [(5, .int 0), (4, .int 0), (3, .int ((13 * (σ1.1 1091 0)) + r1_)), (2, .int r1_), (0, .ref (g.q 0)), (1, .int x1)]) hx hb dX12_spellingComes_35 hl (Nat.le_of_ble_eq_true rfl) rfl (fun ls hl => ?_)
    exact w_X12_spellingComes_37 N C N ((13 * (σ1.1 1091 0)) + r1_) 0 0 _ _ _ _ hW (lv_sub hl [4, 2, 1, 0] rfl) h
  · have h := xif c2 h
    cases h
    exact xr_v C hW dX12_spellingComes_20
end
theorem dX12_bodyComes_0 : decode cX12_bodyComes 0 = .ok (.iconst 0, 1) := by decide +kernel
theorem dX12_bodyComes_1 : decode cX12_bodyComes 1 = .ok (.istore_n 3, 1) := by decide +kernel
theorem dX12_bodyComes_2 : decode cX12_bodyComes 2 = .ok (.iload_n 3, 1) := by decide +kernel
theorem dX12_bodyComes_3 : decode cX12_bodyComes 3 = .ok (.aload_n 0, 1) := by decide +kernel
theorem dX12_bodyComes_4 : decode cX12_bodyComes 4 = .ok (.getfield 21, 3) := by decide +kernel
theorem dX12_bodyComes_7 : decode cX12_bodyComes 7 = .ok (.iconst 0, 1) := by decide +kernel
theorem dX12_bodyComes_8 : decode cX12_bodyComes 8 = .ok (.iaload, 1) := by decide +kernel
theorem dX12_bodyComes_9 : decode cX12_bodyComes 9 = .ok (.if_icmp .ge 105, 3) := by decide +kernel
theorem dX12_bodyComes_12 : decode cX12_bodyComes 12 = .ok (.aload_n 0, 1) := by decide +kernel
theorem dX12_bodyComes_13 : decode cX12_bodyComes 13 = .ok (.getfield 112, 3) := by decide +kernel
theorem dX12_bodyComes_16 : decode cX12_bodyComes 16 = .ok (.iload_n 2, 1) := by decide +kernel
theorem dX12_bodyComes_17 : decode cX12_bodyComes 17 = .ok (.laload, 1) := by decide +kernel
theorem dX12_bodyComes_18 : decode cX12_bodyComes 18 = .ok (.lconst 0, 1) := by decide +kernel
theorem dX12_bodyComes_19 : decode cX12_bodyComes 19 = .ok (.lcmp, 1) := by decide +kernel
theorem dX12_bodyComes_20 : decode cX12_bodyComes 20 = .ok (.ifCond .eq 15, 3) := by decide +kernel
theorem dX12_bodyComes_23 : decode cX12_bodyComes 23 = .ok (.aload_n 0, 1) := by decide +kernel
theorem dX12_bodyComes_24 : decode cX12_bodyComes 24 = .ok (.iload_n 3, 1) := by decide +kernel
theorem dX12_bodyComes_25 : decode cX12_bodyComes 25 = .ok (.iload_n 2, 1) := by decide +kernel
theorem dX12_bodyComes_26 : decode cX12_bodyComes 26 = .ok (.invokevirtual 417, 3) := by decide +kernel
theorem dX12_bodyComes_29 : decode cX12_bodyComes 29 = .ok (.ifCond .ne 13, 3) := by decide +kernel
theorem dX12_bodyComes_32 : decode cX12_bodyComes 32 = .ok (.goto 76, 3) := by decide +kernel
theorem dX12_bodyComes_35 : decode cX12_bodyComes 35 = .ok (.iload_n 3, 1) := by decide +kernel
theorem dX12_bodyComes_36 : decode cX12_bodyComes 36 = .ok (.ifCond .le 6, 3) := by decide +kernel
theorem dX12_bodyComes_39 : decode cX12_bodyComes 39 = .ok (.goto 69, 3) := by decide +kernel
theorem dX12_bodyComes_42 : decode cX12_bodyComes 42 = .ok (.aload_n 0, 1) := by decide +kernel
theorem dX12_bodyComes_43 : decode cX12_bodyComes 43 = .ok (.dup, 1) := by decide +kernel
theorem dX12_bodyComes_44 : decode cX12_bodyComes 44 = .ok (.getfield 436, 3) := by decide +kernel
theorem dX12_bodyComes_47 : decode cX12_bodyComes 47 = .ok (.iconst 1, 1) := by decide +kernel
theorem dX12_bodyComes_48 : decode cX12_bodyComes 48 = .ok (.iadd, 1) := by decide +kernel
theorem dX12_bodyComes_49 : decode cX12_bodyComes 49 = .ok (.putfield 436, 3) := by decide +kernel
theorem dX12_bodyComes_52 : decode cX12_bodyComes 52 = .ok (.aload_n 0, 1) := by decide +kernel
theorem dX12_bodyComes_53 : decode cX12_bodyComes 53 = .ok (.getfield 439, 3) := by decide +kernel
theorem dX12_bodyComes_56 : decode cX12_bodyComes 56 = .ok (.ifCond .eq 52, 3) := by decide +kernel
theorem dX12_bodyComes_59 : decode cX12_bodyComes 59 = .ok (.aload_n 0, 1) := by decide +kernel
theorem dX12_bodyComes_60 : decode cX12_bodyComes 60 = .ok (.getfield 436, 3) := by decide +kernel
theorem dX12_bodyComes_63 : decode cX12_bodyComes 63 = .ok (.aload_n 0, 1) := by decide +kernel
theorem dX12_bodyComes_64 : decode cX12_bodyComes 64 = .ok (.getfield 442, 3) := by decide +kernel
theorem dX12_bodyComes_67 : decode cX12_bodyComes 67 = .ok (.if_icmp .le 6, 3) := by decide +kernel
theorem dX12_bodyComes_70 : decode cX12_bodyComes 70 = .ok (.goto 38, 3) := by decide +kernel
theorem dX12_bodyComes_73 : decode cX12_bodyComes 73 = .ok (.aload_n 0, 1) := by decide +kernel
theorem dX12_bodyComes_74 : decode cX12_bodyComes 74 = .ok (.iload_n 1, 1) := by decide +kernel
theorem dX12_bodyComes_75 : decode cX12_bodyComes 75 = .ok (.putfield 445, 3) := by decide +kernel
theorem dX12_bodyComes_78 : decode cX12_bodyComes 78 = .ok (.aload_n 0, 1) := by decide +kernel
theorem dX12_bodyComes_79 : decode cX12_bodyComes 79 = .ok (.getfield 112, 3) := by decide +kernel
theorem dX12_bodyComes_82 : decode cX12_bodyComes 82 = .ok (.iload_n 2, 1) := by decide +kernel
theorem dX12_bodyComes_83 : decode cX12_bodyComes 83 = .ok (.laload, 1) := by decide +kernel
theorem dX12_bodyComes_84 : decode cX12_bodyComes 84 = .ok (.lconst 0, 1) := by decide +kernel
theorem dX12_bodyComes_85 : decode cX12_bodyComes 85 = .ok (.lcmp, 1) := by decide +kernel
theorem dX12_bodyComes_86 : decode cX12_bodyComes 86 = .ok (.ifCond .eq 17, 3) := by decide +kernel
theorem dX12_bodyComes_89 : decode cX12_bodyComes 89 = .ok (.aload_n 0, 1) := by decide +kernel
theorem dX12_bodyComes_90 : decode cX12_bodyComes 90 = .ok (.getfield 130, 3) := by decide +kernel
theorem dX12_bodyComes_93 : decode cX12_bodyComes 93 = .ok (.iload_n 1, 1) := by decide +kernel
theorem dX12_bodyComes_94 : decode cX12_bodyComes 94 = .ok (.iload_n 3, 1) := by decide +kernel
theorem dX12_bodyComes_95 : decode cX12_bodyComes 95 = .ok (.iastore, 1) := by decide +kernel
theorem dX12_bodyComes_96 : decode cX12_bodyComes 96 = .ok (.aload_n 0, 1) := by decide +kernel
theorem dX12_bodyComes_97 : decode cX12_bodyComes 97 = .ok (.iload_n 1, 1) := by decide +kernel
theorem dX12_bodyComes_98 : decode cX12_bodyComes 98 = .ok (.iconst 1, 1) := by decide +kernel
theorem dX12_bodyComes_99 : decode cX12_bodyComes 99 = .ok (.iadd, 1) := by decide +kernel
theorem dX12_bodyComes_100 : decode cX12_bodyComes 100 = .ok (.putfield 445, 3) := by decide +kernel
theorem dX12_bodyComes_103 : decode cX12_bodyComes 103 = .ok (.aload_n 0, 1) := by decide +kernel
theorem dX12_bodyComes_104 : decode cX12_bodyComes 104 = .ok (.iload_n 2, 1) := by decide +kernel
theorem dX12_bodyComes_105 : decode cX12_bodyComes 105 = .ok (.invokevirtual 448, 3) := by decide +kernel
theorem dX12_bodyComes_108 : decode cX12_bodyComes 108 = .ok (.iinc 3 1, 3) := by decide +kernel
theorem dX12_bodyComes_111 : decode cX12_bodyComes 111 = .ok (.goto (-109), 3) := by decide +kernel
theorem dX12_bodyComes_114 : decode cX12_bodyComes 114 = .ok (.return_, 1) := by decide +kernel
abbrev rm_X12_bodyComes : Room := { frames := 7, cells := 0, slots := 0, locals := 206 }
def f_X12_bodyComes_103 (N : Nat) (k2 : Int32 → Int32 → Int32 → St → Option St) (x1 : Int32) (x2 : Int32) (x3 : Int32) (σ : St) : Option St := bo (f_X12_spellingComes N x2 σ) (fun σ13 => k2 x1 x2 (x3 + 1) σ13)
def f_X12_bodyComes_42 (N : Nat) (k2 : Int32 → Int32 → Int32 → St → Option St) (x1 : Int32) (x2 : Int32) (x3 : Int32) (σ : St) : Option St := (if (σ.1 1063 0) = 0 then k2 x1 x2 (x3 + 1) (si σ 1061 0 ((σ.1 1061 0) + 1)) else (if ((σ.1 1061 0) + 1) ≤ (σ.1 1062 0) then grd (ib x2 40) ((if (lg_cmp (σ.2 33 x2.toNatClampNeg) 0) = 0 then f_X12_bodyComes_103 N k2 x1 x2 x3 (si (si σ 1061 0 ((σ.1 1061 0) + 1)) 1060 0 x1) else grd (ib x1 12) (f_X12_bodyComes_103 N k2 x1 x2 x3 (si (si (si (si σ 1061 0 ((σ.1 1061 0) + 1)) 1060 0 x1) 39 x1.toNatClampNeg x3) 1060 0 (x1 + 1))))) else k2 x1 x2 (x3 + 1) (si σ 1061 0 ((σ.1 1061 0) + 1))))
def f_X12_bodyComes_2 (N : Nat) : Nat → Int32 → Int32 → Int32 → St → Option St
  | 0, _, _, _, _ => none
  | n + 1, x1, x2, x3, σ => grd (ib 0 2) ((if (σ.1 3 0) ≤ x3 then some σ else grd (ib x2 40) ((if (lg_cmp (σ.2 33 x2.toNatClampNeg) 0) = 0 then (if x3 ≤ 0 then f_X12_bodyComes_42 N (f_X12_bodyComes_2 N n) x1 x2 x3 σ else f_X12_bodyComes_2 N n x1 x2 (x3 + 1) σ) else bo (f_X12_isKind x3 x2 σ) (fun r6_ => (if r6_ = 0 then f_X12_bodyComes_2 N n x1 x2 (x3 + 1) σ else f_X12_bodyComes_42 N (f_X12_bodyComes_2 N n) x1 x2 x3 σ))))))
def f_X12_bodyComes (N : Nat) (x1 : Int32) (x2 : Int32) (σ : St) : Option St := f_X12_bodyComes_2 N N x1 x2 0 σ
section
variable {p : Program} {l : Launch} {e : Env} {s : State} {m : MethodId} {args : Array Value} {below : List Frame} {meth : Method} {c : Code} {g : XG}
set_option maxRecDepth 4000 in
theorem w_X12_bodyComes_103 (N : Nat) (k2 : Int32 → Int32 → Int32 → St → Option St) {σ' : St} (C : xC KM g RX12 cX12_bodyComes 4 none p s m args meth c) (hk2 : ∀ (x1 : Int32) (x2 : Int32) (x3 : Int32) (σ : St) (H : Heap) (locs : List Loc) (ls : Array Slot), xW KM g s σ H locs → lv_has ls 4 [(0, .ref (g.q 0)), (1, .int x1), (2, .int x2), (3, .int x3)] → k2 x1 x2 x3 σ = some σ' → W p l e rm_X12_bodyComes s m args below meth c H locs 0 0 (MQ below (xPost KM g none σ') args s 0 0 (xA KM g.q)) (F0 m 2 ls [])) : ∀ (x1 : Int32) (x2 : Int32) (x3 : Int32) (σ : St) (H : Heap) (locs : List Loc) (ls : Array Slot), xW KM g s σ H locs → lv_has ls 4 [(0, .ref (g.q 0)), (1, .int x1), (2, .int x2), (3, .int x3)] → f_X12_bodyComes_103 N k2 x1 x2 x3 σ = some σ' → W p l e rm_X12_bodyComes s m args below meth c H locs 0 0 (MQ below (xPost KM g none σ') args s 0 0 (xA KM g.q)) (F0 m 103 ls []) := by
  have hx := C.1
  have hb := C.2.1
  intro x1 x2 x3 σ H locs ls hW hl h
  unfold f_X12_bodyComes_103 at h
  refine lv_aload_n hx hb dX12_bodyComes_103 rfl (lv_at hl 0 rfl) ?_
  refine lv_iload_n hx hb dX12_bodyComes_104 rfl (lv_at hl 2 rfl) ?_
  obtain ⟨σ13, e13, h⟩ := xbo h
  refine xc_V (As := [.int x2]) (rest := []) C hW (m_X12_spellingComes N x2 _ e13) mf_X12_spellingComes mv_X12_spellingComes ml_X12_448 ⟨rfl, rfl⟩ ⟨Nat.le_of_ble_eq_true rfl, Nat.le_of_ble_eq_true rfl⟩ KM_0 rfl hl.1 rfl rfl (Nat.le_of_ble_eq_true rfl) dX12_bodyComes_105 (fun H locs hW => W.eq (g2 := F0 m 108 ls []) rfl ?_)
  refine lv_iinc (v := x3 + 1) (lv' := [(3, .int (x3 + 1)), (0, .ref (g.q 0)), (1, .int x1), (2, .int x2)]) hx hb dX12_bodyComes_108 hl (k := 3) rfl rfl (Nat.le_of_ble_eq_true rfl) rfl (fun ls hl => ?_)
  refine lv_goto (tgt := 2) hx hb dX12_bodyComes_111 (by decide) ?_
  exact hk2 x1 x2 (x3 + 1) _ _ _ _ hW (lv_sub hl [1, 2, 3, 0] rfl) h
set_option maxRecDepth 4000 in
theorem w_X12_bodyComes_42 (N : Nat) (k2 : Int32 → Int32 → Int32 → St → Option St) {σ' : St} (C : xC KM g RX12 cX12_bodyComes 4 none p s m args meth c) (hk2 : ∀ (x1 : Int32) (x2 : Int32) (x3 : Int32) (σ : St) (H : Heap) (locs : List Loc) (ls : Array Slot), xW KM g s σ H locs → lv_has ls 4 [(0, .ref (g.q 0)), (1, .int x1), (2, .int x2), (3, .int x3)] → k2 x1 x2 x3 σ = some σ' → W p l e rm_X12_bodyComes s m args below meth c H locs 0 0 (MQ below (xPost KM g none σ') args s 0 0 (xA KM g.q)) (F0 m 2 ls [])) : ∀ (x1 : Int32) (x2 : Int32) (x3 : Int32) (σ : St) (H : Heap) (locs : List Loc) (ls : Array Slot), xW KM g s σ H locs → lv_has ls 4 [(0, .ref (g.q 0)), (1, .int x1), (2, .int x2), (3, .int x3)] → f_X12_bodyComes_42 N k2 x1 x2 x3 σ = some σ' → W p l e rm_X12_bodyComes s m args below meth c H locs 0 0 (MQ below (xPost KM g none σ') args s 0 0 (xA KM g.q)) (F0 m 42 ls []) := by
  have hx := C.1
  have hb := C.2.1
  intro x1 x2 x3 σ H locs ls hW hl h
  unfold f_X12_bodyComes_42 at h
  refine lv_aload_n hx hb dX12_bodyComes_42 rfl (lv_at hl 0 rfl) ?_
  refine lv_dup hx hb dX12_bodyComes_43 rfl ?_
  refine xg_i C hW fg_12_436 KM_0 rfl (v := 1061) rfl (x := σ.1 1061 0) rfl dX12_bodyComes_44 ?_
  refine lv_iconst (v := 1) hx hb dX12_bodyComes_47 rfl ?_
  refine lv_iadd hx hb dX12_bodyComes_48 ?_
  refine xp_i C hW fp_12_436 KM_0 rfl (v := 1061) rfl rfl rfl dX12_bodyComes_49 (fun H locs hW => ?_)
  refine lv_aload_n hx hb dX12_bodyComes_52 rfl (lv_at hl 0 rfl) ?_
  refine xg_i C hW fg_12_439 KM_0 rfl (v := 1063) rfl (x := σ.1 1063 0) rfl dX12_bodyComes_53 ?_
  refine lv_if_eq (tgt := 108) hx hb dX12_bodyComes_56 (by decide) (fun c8 => ?_) (fun c8 => ?_)
  · have h := xit c8 h
    refine lv_iinc (v := x3 + 1) (lv' := [(3, .int (x3 + 1)), (0, .ref (g.q 0)), (1, .int x1), (2, .int x2)]) hx hb dX12_bodyComes_108 hl (k := 3) rfl rfl (Nat.le_of_ble_eq_true rfl) rfl (fun ls hl => ?_)
    refine lv_goto (tgt := 2) hx hb dX12_bodyComes_111 (by decide) ?_
    exact hk2 x1 x2 (x3 + 1) _ _ _ _ hW (lv_sub hl [1, 2, 3, 0] rfl) h
  · have h := xif c8 h
    refine lv_aload_n hx hb dX12_bodyComes_59 rfl (lv_at hl 0 rfl) ?_
    refine xg_i C hW fg_12_436 KM_0 rfl (v := 1061) rfl (x := (σ.1 1061 0) + 1) rfl dX12_bodyComes_60 ?_
    refine lv_aload_n hx hb dX12_bodyComes_63 rfl (lv_at hl 0 rfl) ?_
    refine xg_i C hW fg_12_442 KM_0 rfl (v := 1062) rfl (x := σ.1 1062 0) rfl dX12_bodyComes_64 ?_
    refine lv_icmp_le (tgt := 73) hx hb dX12_bodyComes_67 (by decide) (fun c9 => ?_) (fun c9 => ?_)
    · have h := xit c9 h
      refine lv_aload_n hx hb dX12_bodyComes_73 rfl (lv_at hl 0 rfl) ?_
      refine lv_iload_n hx hb dX12_bodyComes_74 rfl (lv_at hl 1 rfl) ?_
      refine xp_i C hW fp_12_445 KM_0 rfl (v := 1060) rfl rfl rfl dX12_bodyComes_75 (fun H locs hW => ?_)
      refine lv_aload_n hx hb dX12_bodyComes_78 rfl (lv_at hl 0 rfl) ?_
      refine xg_r C hW fg_12_112 KM_0 rfl dX12_bodyComes_79 ?_
      refine lv_iload_n hx hb dX12_bodyComes_82 rfl (lv_at hl 2 rfl) ?_
      obtain ⟨g10, h⟩ := xgd h
      refine xa_l C hW KM_33 g10 (x := σ.2 33 x2.toNatClampNeg) rfl dX12_bodyComes_83 ?_
      refine lv_lconst (v := 0) hx hb dX12_bodyComes_84 rfl ?_
      refine W.lcmp hx hb dX12_bodyComes_85 ?_
      refine lv_if_eq (tgt := 103) hx hb dX12_bodyComes_86 (by decide) (fun c11 => ?_) (fun c11 => ?_)
      · have h := xit c11 h
        exact w_X12_bodyComes_103 N k2 C hk2 x1 x2 x3 _ _ _ _ hW (lv_sub hl [0, 1, 2, 3] rfl) h
      · have h := xif c11 h
        refine lv_aload_n hx hb dX12_bodyComes_89 rfl (lv_at hl 0 rfl) ?_
        refine xg_r C hW fg_12_130 KM_0 rfl dX12_bodyComes_90 ?_
        refine lv_iload_n hx hb dX12_bodyComes_93 rfl (lv_at hl 1 rfl) ?_
        refine lv_iload_n hx hb dX12_bodyComes_94 rfl (lv_at hl 3 rfl) ?_
        obtain ⟨g12, h⟩ := xgd h
        refine xs_i C hW KM_39 g12 dX12_bodyComes_95 (fun H locs hW => ?_)
        refine lv_aload_n hx hb dX12_bodyComes_96 rfl (lv_at hl 0 rfl) ?_
        refine lv_iload_n hx hb dX12_bodyComes_97 rfl (lv_at hl 1 rfl) ?_
        refine lv_iconst (v := 1) hx hb dX12_bodyComes_98 rfl ?_
        refine lv_iadd hx hb dX12_bodyComes_99 ?_
        refine xp_i C hW fp_12_445 KM_0 rfl (v := 1060) rfl rfl rfl dX12_bodyComes_100 (fun H locs hW => ?_)
        exact w_X12_bodyComes_103 N k2 C hk2 x1 x2 x3 _ _ _ _ hW (lv_sub hl [0, 1, 2, 3] rfl) h
    · have h := xif c9 h
      refine lv_goto (tgt := 108) hx hb dX12_bodyComes_70 (by decide) ?_
      refine lv_iinc (v := x3 + 1) (lv' := [(3, .int (x3 + 1)), (0, .ref (g.q 0)), (1, .int x1), (2, .int x2)]) hx hb dX12_bodyComes_108 hl (k := 3) rfl rfl (Nat.le_of_ble_eq_true rfl) rfl (fun ls hl => ?_)
      refine lv_goto (tgt := 2) hx hb dX12_bodyComes_111 (by decide) ?_
      exact hk2 x1 x2 (x3 + 1) _ _ _ _ hW (lv_sub hl [1, 2, 3, 0] rfl) h
set_option maxRecDepth 4000 in
theorem w_X12_bodyComes_2 (N : Nat) {σ' : St} (C : xC KM g RX12 cX12_bodyComes 4 none p s m args meth c) : ∀ (n : Nat), ∀ (x1 : Int32) (x2 : Int32) (x3 : Int32) (σ : St) (H : Heap) (locs : List Loc) (ls : Array Slot), xW KM g s σ H locs → lv_has ls 4 [(0, .ref (g.q 0)), (1, .int x1), (2, .int x2), (3, .int x3)] → f_X12_bodyComes_2 N n x1 x2 x3 σ = some σ' → W p l e rm_X12_bodyComes s m args below meth c H locs 0 0 (MQ below (xPost KM g none σ') args s 0 0 (xA KM g.q)) (F0 m 2 ls []) := by
  have hx := C.1
  have hb := C.2.1
  intro n
  induction n with
  | zero => intro x1 x2 x3 σ H locs ls hW hl h; rw [f_X12_bodyComes_2] at h; cases h
  | succ n ih =>
    intro x1 x2 x3 σ H locs ls hW hl h
    rw [f_X12_bodyComes_2] at h
    refine lv_iload_n hx hb dX12_bodyComes_2 rfl (lv_at hl 3 rfl) ?_
    refine lv_aload_n hx hb dX12_bodyComes_3 rfl (lv_at hl 0 rfl) ?_
    refine xg_r C hW fg_12_21 KM_0 rfl dX12_bodyComes_4 ?_
    refine lv_iconst (v := 0) hx hb dX12_bodyComes_7 rfl ?_
    obtain ⟨g1, h⟩ := xgd h
    refine xa_i C hW KM_3 g1 (x := σ.1 3 0) rfl dX12_bodyComes_8 ?_
    refine lv_icmp_ge (tgt := 114) hx hb dX12_bodyComes_9 (by decide) (fun c2 => ?_) (fun c2 => ?_)
    · have h := xit c2 h
      cases h
      exact xr_v C hW dX12_bodyComes_114
    · have h := xif c2 h
      refine lv_aload_n hx hb dX12_bodyComes_12 rfl (lv_at hl 0 rfl) ?_
      refine xg_r C hW fg_12_112 KM_0 rfl dX12_bodyComes_13 ?_
      refine lv_iload_n hx hb dX12_bodyComes_16 rfl (lv_at hl 2 rfl) ?_
      obtain ⟨g3, h⟩ := xgd h
      refine xa_l C hW KM_33 g3 (x := σ.2 33 x2.toNatClampNeg) rfl dX12_bodyComes_17 ?_
      refine lv_lconst (v := 0) hx hb dX12_bodyComes_18 rfl ?_
      refine W.lcmp hx hb dX12_bodyComes_19 ?_
      refine lv_if_eq (tgt := 35) hx hb dX12_bodyComes_20 (by decide) (fun c4 => ?_) (fun c4 => ?_)
      · have h := xit c4 h
        refine lv_iload_n hx hb dX12_bodyComes_35 rfl (lv_at hl 3 rfl) ?_
        refine lv_if_le (tgt := 42) hx hb dX12_bodyComes_36 (by decide) (fun c5 => ?_) (fun c5 => ?_)
        · have h := xit c5 h
          exact w_X12_bodyComes_42 N (f_X12_bodyComes_2 N n) C ih x1 x2 x3 _ _ _ _ hW (lv_sub hl [0, 1, 2, 3] rfl) h
        · have h := xif c5 h
          refine lv_goto (tgt := 108) hx hb dX12_bodyComes_39 (by decide) ?_
          refine lv_iinc (v := x3 + 1) (lv' := [(3, .int (x3 + 1)), (0, .ref (g.q 0)), (1, .int x1), (2, .int x2)]) hx hb dX12_bodyComes_108 hl (k := 3) rfl rfl (Nat.le_of_ble_eq_true rfl) rfl (fun ls hl => ?_)
          refine lv_goto (tgt := 2) hx hb dX12_bodyComes_111 (by decide) ?_
          exact ih x1 x2 (x3 + 1) _ _ _ _ hW (lv_sub hl [1, 2, 3, 0] rfl) h
      · have h := xif c4 h
        refine lv_aload_n hx hb dX12_bodyComes_23 rfl (lv_at hl 0 rfl) ?_
        refine lv_iload_n hx hb dX12_bodyComes_24 rfl (lv_at hl 3 rfl) ?_
        refine lv_iload_n hx hb dX12_bodyComes_25 rfl (lv_at hl 2 rfl) ?_
        obtain ⟨r6_, e6, h⟩ := xbo h
        refine xc_V (As := [.int x3, .int x2]) (rest := []) C hW (m_X12_isKind x3 x2 _ e6) mf_X12_isKind mv_X12_isKind ml_X12_417 ⟨rfl, rfl⟩ ⟨Nat.le_of_ble_eq_true rfl, Nat.le_of_ble_eq_true rfl⟩ KM_0 rfl hl.1 rfl rfl (Nat.le_of_ble_eq_true rfl) dX12_bodyComes_26 (fun H locs hW => W.eq (g2 := F0 m 29 ls [.int r6_]) rfl ?_)
        refine lv_if_ne (tgt := 42) hx hb dX12_bodyComes_29 (by decide) (fun c7 => ?_) (fun c7 => ?_)
        · have h := xif c7 h
          exact w_X12_bodyComes_42 N (f_X12_bodyComes_2 N n) C ih x1 x2 x3 _ _ _ _ hW (lv_sub hl [0, 1, 2, 3] rfl) h
        · have h := xit c7 h
          refine lv_goto (tgt := 108) hx hb dX12_bodyComes_32 (by decide) ?_
          refine lv_iinc (v := x3 + 1) (lv' := [(3, .int (x3 + 1)), (0, .ref (g.q 0)), (1, .int x1), (2, .int x2)]) hx hb dX12_bodyComes_108 hl (k := 3) rfl rfl (Nat.le_of_ble_eq_true rfl) rfl (fun ls hl => ?_)
          refine lv_goto (tgt := 2) hx hb dX12_bodyComes_111 (by decide) ?_
          exact ih x1 x2 (x3 + 1) _ _ _ _ hW (lv_sub hl [1, 2, 3, 0] rfl) h
set_option maxRecDepth 4000 in
theorem m_X12_bodyComes (N : Nat) (x1 : Int32) (x2 : Int32) (σ : St) {σ' : St} (h : f_X12_bodyComes N x1 x2 σ = some σ') : xM l KM g yX12_bodyComes cX12_bodyComes 4 none rm_X12_bodyComes [.ref (g.q 0), .int x1, .int x2] σ none σ' := by
  refine xmet pn_X12 rfl (Nat.le_of_ble_eq_true rfl) (lv := [(0, .ref (g.q 0)), (1, .int x1), (2, .int x2)]) rfl (fun p e s m args below meth c ls C hW hl => ?_)
  have hx := C.1
  have hb := C.2.1
  unfold f_X12_bodyComes at h
  refine lv_iconst (v := 0) hx hb dX12_bodyComes_0 rfl ?_
  refine lv_istore_n (lv' := [(3, .int 0), (0, .ref (g.q 0)), (1, .int x1), (2, .int x2)]) hx hb dX12_bodyComes_1 rfl hl (Nat.le_of_ble_eq_true rfl) rfl (fun ls hl => ?_)
  exact w_X12_bodyComes_2 N C N x1 x2 0 _ _ _ _ hW (lv_sub hl [1, 2, 3, 0] rfl) h
end
theorem dX12_coversFrom_0 : decode cX12_coversFrom 0 = .ok (.iload_n 1, 1) := by decide +kernel
theorem dX12_coversFrom_1 : decode cX12_coversFrom 1 = .ok (.ifCond .le 18, 3) := by decide +kernel
theorem dX12_coversFrom_4 : decode cX12_coversFrom 4 = .ok (.aload_n 0, 1) := by decide +kernel
theorem dX12_coversFrom_5 : decode cX12_coversFrom 5 = .ok (.iload_n 1, 1) := by decide +kernel
theorem dX12_coversFrom_6 : decode cX12_coversFrom 6 = .ok (.iload_n 3, 1) := by decide +kernel
theorem dX12_coversFrom_7 : decode cX12_coversFrom 7 = .ok (.invokevirtual 432, 3) := by decide +kernel
theorem dX12_coversFrom_10 : decode cX12_coversFrom 10 = .ok (.ifCond .eq 9, 3) := by decide +kernel
theorem dX12_coversFrom_13 : decode cX12_coversFrom 13 = .ok (.aload_n 0, 1) := by decide +kernel
theorem dX12_coversFrom_14 : decode cX12_coversFrom 14 = .ok (.iload_n 1, 1) := by decide +kernel
theorem dX12_coversFrom_15 : decode cX12_coversFrom 15 = .ok (.iload_n 3, 1) := by decide +kernel
theorem dX12_coversFrom_16 : decode cX12_coversFrom 16 = .ok (.invokevirtual 451, 3) := by decide +kernel
theorem dX12_coversFrom_19 : decode cX12_coversFrom 19 = .ok (.iconst 0, 1) := by decide +kernel
theorem dX12_coversFrom_20 : decode cX12_coversFrom 20 = .ok (.istore 4, 2) := by decide +kernel
theorem dX12_coversFrom_22 : decode cX12_coversFrom 22 = .ok (.iload 4, 2) := by decide +kernel
theorem dX12_coversFrom_24 : decode cX12_coversFrom 24 = .ok (.aload_n 0, 1) := by decide +kernel
theorem dX12_coversFrom_25 : decode cX12_coversFrom 25 = .ok (.getfield 21, 3) := by decide +kernel
theorem dX12_coversFrom_28 : decode cX12_coversFrom 28 = .ok (.iconst 0, 1) := by decide +kernel
theorem dX12_coversFrom_29 : decode cX12_coversFrom 29 = .ok (.iaload, 1) := by decide +kernel
theorem dX12_coversFrom_30 : decode cX12_coversFrom 30 = .ok (.if_icmp .ge 79, 3) := by decide +kernel
theorem dX12_coversFrom_33 : decode cX12_coversFrom 33 = .ok (.iload_n 1, 1) := by decide +kernel
theorem dX12_coversFrom_34 : decode cX12_coversFrom 34 = .ok (.iload_n 2, 1) := by decide +kernel
theorem dX12_coversFrom_35 : decode cX12_coversFrom 35 = .ok (.if_icmp .ge 74, 3) := by decide +kernel
theorem dX12_coversFrom_38 : decode cX12_coversFrom 38 = .ok (.aload_n 0, 1) := by decide +kernel
theorem dX12_coversFrom_39 : decode cX12_coversFrom 39 = .ok (.getfield 436, 3) := by decide +kernel
theorem dX12_coversFrom_42 : decode cX12_coversFrom 42 = .ok (.aload_n 0, 1) := by decide +kernel
theorem dX12_coversFrom_43 : decode cX12_coversFrom 43 = .ok (.getfield 442, 3) := by decide +kernel
theorem dX12_coversFrom_46 : decode cX12_coversFrom 46 = .ok (.if_icmp .gt 63, 3) := by decide +kernel
theorem dX12_coversFrom_49 : decode cX12_coversFrom 49 = .ok (.aload_n 0, 1) := by decide +kernel
theorem dX12_coversFrom_50 : decode cX12_coversFrom 50 = .ok (.getfield 115, 3) := by decide +kernel
theorem dX12_coversFrom_53 : decode cX12_coversFrom 53 = .ok (.iload 4, 2) := by decide +kernel
theorem dX12_coversFrom_55 : decode cX12_coversFrom 55 = .ok (.iaload, 1) := by decide +kernel
theorem dX12_coversFrom_56 : decode cX12_coversFrom 56 = .ok (.iconst 1, 1) := by decide +kernel
theorem dX12_coversFrom_57 : decode cX12_coversFrom 57 = .ok (.if_icmp .ne 46, 3) := by decide +kernel
theorem dX12_coversFrom_60 : decode cX12_coversFrom 60 = .ok (.aload_n 0, 1) := by decide +kernel
theorem dX12_coversFrom_61 : decode cX12_coversFrom 61 = .ok (.iload_n 1, 1) := by decide +kernel
theorem dX12_coversFrom_62 : decode cX12_coversFrom 62 = .ok (.iload 4, 2) := by decide +kernel
theorem dX12_coversFrom_64 : decode cX12_coversFrom 64 = .ok (.iload_n 3, 1) := by decide +kernel
theorem dX12_coversFrom_65 : decode cX12_coversFrom 65 = .ok (.invokevirtual 429, 3) := by decide +kernel
theorem dX12_coversFrom_68 : decode cX12_coversFrom 68 = .ok (.ifCond .eq 35, 3) := by decide +kernel
theorem dX12_coversFrom_71 : decode cX12_coversFrom 71 = .ok (.aload_n 0, 1) := by decide +kernel
theorem dX12_coversFrom_72 : decode cX12_coversFrom 72 = .ok (.iload_n 1, 1) := by decide +kernel
theorem dX12_coversFrom_73 : decode cX12_coversFrom 73 = .ok (.iconst 1, 1) := by decide +kernel
theorem dX12_coversFrom_74 : decode cX12_coversFrom 74 = .ok (.iadd, 1) := by decide +kernel
theorem dX12_coversFrom_75 : decode cX12_coversFrom 75 = .ok (.iload_n 2, 1) := by decide +kernel
theorem dX12_coversFrom_76 : decode cX12_coversFrom 76 = .ok (.iload_n 3, 1) := by decide +kernel
theorem dX12_coversFrom_77 : decode cX12_coversFrom 77 = .ok (.invokevirtual 455, 3) := by decide +kernel
theorem dX12_coversFrom_80 : decode cX12_coversFrom 80 = .ok (.ifCond .ne 6, 3) := by decide +kernel
theorem dX12_coversFrom_83 : decode cX12_coversFrom 83 = .ok (.goto 20, 3) := by decide +kernel
theorem dX12_coversFrom_86 : decode cX12_coversFrom 86 = .ok (.aload_n 0, 1) := by decide +kernel
theorem dX12_coversFrom_87 : decode cX12_coversFrom 87 = .ok (.getfield 130, 3) := by decide +kernel
theorem dX12_coversFrom_90 : decode cX12_coversFrom 90 = .ok (.iload_n 1, 1) := by decide +kernel
theorem dX12_coversFrom_91 : decode cX12_coversFrom 91 = .ok (.iload 4, 2) := by decide +kernel
theorem dX12_coversFrom_93 : decode cX12_coversFrom 93 = .ok (.iastore, 1) := by decide +kernel
theorem dX12_coversFrom_94 : decode cX12_coversFrom 94 = .ok (.aload_n 0, 1) := by decide +kernel
theorem dX12_coversFrom_95 : decode cX12_coversFrom 95 = .ok (.iload_n 1, 1) := by decide +kernel
theorem dX12_coversFrom_96 : decode cX12_coversFrom 96 = .ok (.iconst 1, 1) := by decide +kernel
theorem dX12_coversFrom_97 : decode cX12_coversFrom 97 = .ok (.iadd, 1) := by decide +kernel
theorem dX12_coversFrom_98 : decode cX12_coversFrom 98 = .ok (.iload_n 2, 1) := by decide +kernel
theorem dX12_coversFrom_99 : decode cX12_coversFrom 99 = .ok (.iload_n 3, 1) := by decide +kernel
theorem dX12_coversFrom_100 : decode cX12_coversFrom 100 = .ok (.invokevirtual 458, 3) := by decide +kernel
theorem dX12_coversFrom_103 : decode cX12_coversFrom 103 = .ok (.iinc 4 1, 3) := by decide +kernel
theorem dX12_coversFrom_106 : decode cX12_coversFrom 106 = .ok (.goto (-84), 3) := by decide +kernel
theorem dX12_coversFrom_109 : decode cX12_coversFrom 109 = .ok (.return_, 1) := by decide +kernel
abbrev rd_X12_coversFrom : Nat → Room := rmd 8 229 1 24
theorem rd_X12_coversFrom_ok (d : Nat) : (rd_X12_coversFrom d).cells = 0 ∧ (rd_X12_coversFrom d).slots = 0 ∧ 8 ≤ (rd_X12_coversFrom d).frames ∧ 229 ≤ (rd_X12_coversFrom d).locals := rmd_ok _ _ _ _ d
def f_X12_coversFrom_22 (N : Nat) (hd : Int32 → Int32 → Int32 → St → Option St) : Nat → Int32 → Int32 → Int32 → Int32 → St → Option St
  | 0, _, _, _, _, _ => none
  | n + 1, x1, x2, x3, x4, σ => grd (ib 0 2) ((if (σ.1 3 0) ≤ x4 then some σ else (if x2 ≤ x1 then some σ else (if (σ.1 1062 0) < (σ.1 1061 0) then some σ else grd (ib x4 40) ((if (σ.1 34 x4.toNatClampNeg) = 1 then bd (f_X12_coverOn N x1 x4 x3 σ) (fun r11_ σ11 => (if r11_ = 0 then f_X12_coversFrom_22 N hd n x1 x2 x3 (x4 + 1) σ11 else bo (f_X12_canEnd N (x1 + 1) x2 x3 σ11) (fun r13_ => (if r13_ = 0 then f_X12_coversFrom_22 N hd n x1 x2 x3 (x4 + 1) σ11 else grd (ib x1 12) (bo (hd (x1 + 1) x2 x3 (si σ11 39 x1.toNatClampNeg x4)) (fun σ16 => f_X12_coversFrom_22 N hd n x1 x2 x3 (x4 + 1) σ16)))))) else f_X12_coversFrom_22 N hd n x1 x2 x3 (x4 + 1) σ))))))
def f_X12_coversFrom_b (N : Nat) (hd : Int32 → Int32 → Int32 → St → Option St) (x1 : Int32) (x2 : Int32) (x3 : Int32) (σ : St) : Option St := (if x1 ≤ 0 then f_X12_coversFrom_22 N hd N x1 x2 x3 0 σ else bo (f_X12_isCovered x1 x3 σ) (fun r2_ => (if r2_ = 0 then f_X12_coversFrom_22 N hd N x1 x2 x3 0 σ else bo (f_X12_bodyComes N x1 x3 σ) (fun σ4 => f_X12_coversFrom_22 N hd N x1 x2 x3 0 σ4))))
def f_X12_coversFrom (N : Nat) : Nat → Int32 → Int32 → Int32 → St → Option St
  | 0, _, _, _, _ => none
  | d + 1, x1, x2, x3, σ => f_X12_coversFrom_b N (f_X12_coversFrom N d) x1 x2 x3 σ
section
variable {p : Program} {l : Launch} {e : Env} {s : State} {m : MethodId} {args : Array Value} {below : List Frame} {meth : Method} {c : Code} {g : XG}
set_option maxRecDepth 4000 in
theorem w_X12_coversFrom_22 (N : Nat) (hd : Int32 → Int32 → Int32 → St → Option St) (rmH : Room) (hrm : rmH.cells = 0 ∧ rmH.slots = 0 ∧ 8 ≤ rmH.frames ∧ 229 ≤ rmH.locals) (hH : ∀ (a0 : Int32) (a1 : Int32) (a2 : Int32) (σ : St) {σ' : St}, hd a0 a1 a2 σ = some σ' → xM l KM g yX12_coversFrom cX12_coversFrom 5 none rmH [.ref (g.q 0), .int a0, .int a1, .int a2] σ none σ') {σ' : St} (C : xC KM g RX12 cX12_coversFrom 5 none p s m args meth c) : ∀ (n : Nat), ∀ (x1 : Int32) (x2 : Int32) (x3 : Int32) (x4 : Int32) (σ : St) (H : Heap) (locs : List Loc) (ls : Array Slot), xW KM g s σ H locs → lv_has ls 5 [(0, .ref (g.q 0)), (1, .int x1), (2, .int x2), (3, .int x3), (4, .int x4)] → f_X12_coversFrom_22 N hd n x1 x2 x3 x4 σ = some σ' → W p l e (xrm rmH 1 24) s m args below meth c H locs 0 0 (MQ below (xPost KM g none σ') args s 0 0 (xA KM g.q)) (F0 m 22 ls []) := by
  have hx := C.1
  have hb := C.2.1
  intro n
  induction n with
  | zero => intro x1 x2 x3 x4 σ H locs ls hW hl h; rw [f_X12_coversFrom_22] at h; cases h
  | succ n ih =>
    intro x1 x2 x3 x4 σ H locs ls hW hl h
    rw [f_X12_coversFrom_22] at h
    refine lv_iload hx hb dX12_coversFrom_22 (lv_at hl 4 rfl) ?_
    refine lv_aload_n hx hb dX12_coversFrom_24 rfl (lv_at hl 0 rfl) ?_
    refine xg_r C hW fg_12_21 KM_0 rfl dX12_coversFrom_25 ?_
    refine lv_iconst (v := 0) hx hb dX12_coversFrom_28 rfl ?_
    obtain ⟨g5, h⟩ := xgd h
    refine xa_i C hW KM_3 g5 (x := σ.1 3 0) rfl dX12_coversFrom_29 ?_
    refine lv_icmp_ge (tgt := 109) hx hb dX12_coversFrom_30 (by decide) (fun c6 => ?_) (fun c6 => ?_)
    · have h := xit c6 h
      cases h
      exact xr_v C hW dX12_coversFrom_109
    · have h := xif c6 h
      refine lv_iload_n hx hb dX12_coversFrom_33 rfl (lv_at hl 1 rfl) ?_
      refine lv_iload_n hx hb dX12_coversFrom_34 rfl (lv_at hl 2 rfl) ?_
      refine lv_icmp_ge (tgt := 109) hx hb dX12_coversFrom_35 (by decide) (fun c7 => ?_) (fun c7 => ?_)
      · have h := xit c7 h
        cases h
        exact xr_v C hW dX12_coversFrom_109
      · have h := xif c7 h
        refine lv_aload_n hx hb dX12_coversFrom_38 rfl (lv_at hl 0 rfl) ?_
        refine xg_i C hW fg_12_436 KM_0 rfl (v := 1061) rfl (x := σ.1 1061 0) rfl dX12_coversFrom_39 ?_
        refine lv_aload_n hx hb dX12_coversFrom_42 rfl (lv_at hl 0 rfl) ?_
        refine xg_i C hW fg_12_442 KM_0 rfl (v := 1062) rfl (x := σ.1 1062 0) rfl dX12_coversFrom_43 ?_
        refine lv_icmp_gt (tgt := 109) hx hb dX12_coversFrom_46 (by decide) (fun c8 => ?_) (fun c8 => ?_)
        · have h := xit c8 h
          cases h
          exact xr_v C hW dX12_coversFrom_109
        · have h := xif c8 h
          refine lv_aload_n hx hb dX12_coversFrom_49 rfl (lv_at hl 0 rfl) ?_
          refine xg_r C hW fg_12_115 KM_0 rfl dX12_coversFrom_50 ?_
          refine lv_iload hx hb dX12_coversFrom_53 (lv_at hl 4 rfl) ?_
          obtain ⟨g9, h⟩ := xgd h
          refine xa_i C hW KM_34 g9 (x := σ.1 34 x4.toNatClampNeg) rfl dX12_coversFrom_55 ?_
          refine lv_iconst (v := 1) hx hb dX12_coversFrom_56 rfl ?_
          refine lv_icmp_ne (tgt := 103) hx hb dX12_coversFrom_57 (by decide) (fun c10 => ?_) (fun c10 => ?_)
          · have h := xif c10 h
            refine lv_iinc (v := x4 + 1) (lv' := [(4, .int (x4 + 1)), (0, .ref (g.q 0)), (1, .int x1), (2, .int x2), (3, .int x3)]) hx hb dX12_coversFrom_103 hl (k := 4) rfl rfl (Nat.le_of_ble_eq_true rfl) rfl (fun ls hl => ?_)
            refine lv_goto (tgt := 22) hx hb dX12_coversFrom_106 (by decide) ?_
            exact ih x1 x2 x3 (x4 + 1) _ _ _ _ hW (lv_sub hl [1, 2, 3, 4, 0] rfl) h
          · have h := xit c10 h
            refine lv_aload_n hx hb dX12_coversFrom_60 rfl (lv_at hl 0 rfl) ?_
            refine lv_iload_n hx hb dX12_coversFrom_61 rfl (lv_at hl 1 rfl) ?_
            refine lv_iload hx hb dX12_coversFrom_62 (lv_at hl 4 rfl) ?_
            refine lv_iload_n hx hb dX12_coversFrom_64 rfl (lv_at hl 3 rfl) ?_
            obtain ⟨r11_, σ11, e11, h⟩ := xbd h
            refine xc_V (As := [.int x1, .int x4, .int x3]) (rest := []) C hW (m_X12_coverOn N x1 x4 x3 _ e11) mf_X12_coverOn mv_X12_coverOn ml_X12_429 ⟨rfl, rfl⟩ ⟨xle1 hrm.2.2.1 (Nat.le_of_ble_eq_true rfl), xle1 hrm.2.2.2 (Nat.le_of_ble_eq_true rfl)⟩ KM_0 rfl hl.1 rfl rfl (Nat.le_of_ble_eq_true rfl) dX12_coversFrom_65 (fun H locs hW => W.eq (g2 := F0 m 68 ls [.int r11_]) rfl ?_)
            refine lv_if_eq (tgt := 103) hx hb dX12_coversFrom_68 (by decide) (fun c12 => ?_) (fun c12 => ?_)
            · have h := xit c12 h
              refine lv_iinc (v := x4 + 1) (lv' := [(4, .int (x4 + 1)), (0, .ref (g.q 0)), (1, .int x1), (2, .int x2), (3, .int x3)]) hx hb dX12_coversFrom_103 hl (k := 4) rfl rfl (Nat.le_of_ble_eq_true rfl) rfl (fun ls hl => ?_)
              refine lv_goto (tgt := 22) hx hb dX12_coversFrom_106 (by decide) ?_
              exact ih x1 x2 x3 (x4 + 1) _ _ _ _ hW (lv_sub hl [1, 2, 3, 4, 0] rfl) h
            · have h := xif c12 h
              refine lv_aload_n hx hb dX12_coversFrom_71 rfl (lv_at hl 0 rfl) ?_
              refine lv_iload_n hx hb dX12_coversFrom_72 rfl (lv_at hl 1 rfl) ?_
              refine lv_iconst (v := 1) hx hb dX12_coversFrom_73 rfl ?_
              refine lv_iadd hx hb dX12_coversFrom_74 ?_
              refine lv_iload_n hx hb dX12_coversFrom_75 rfl (lv_at hl 2 rfl) ?_
              refine lv_iload_n hx hb dX12_coversFrom_76 rfl (lv_at hl 3 rfl) ?_
              obtain ⟨r13_, e13, h⟩ := xbo h
              refine xc_V (As := [.int (x1 + 1), .int x2, .int x3]) (rest := []) C hW (m_X12_canEnd N (x1 + 1) x2 x3 _ e13) mf_X12_canEnd mv_X12_canEnd ml_X12_455 ⟨rfl, rfl⟩ ⟨xle1 hrm.2.2.1 (Nat.le_of_ble_eq_true rfl), xle1 hrm.2.2.2 (Nat.le_of_ble_eq_true rfl)⟩ KM_0 rfl hl.1 rfl rfl (Nat.le_of_ble_eq_true rfl) dX12_coversFrom_77 (fun H locs hW => W.eq (g2 := F0 m 80 ls [.int r13_]) rfl ?_)
              refine lv_if_ne (tgt := 86) hx hb dX12_coversFrom_80 (by decide) (fun c14 => ?_) (fun c14 => ?_)
              · have h := xif c14 h
                refine lv_aload_n hx hb dX12_coversFrom_86 rfl (lv_at hl 0 rfl) ?_
                refine xg_r C hW fg_12_130 KM_0 rfl dX12_coversFrom_87 ?_
                refine lv_iload_n hx hb dX12_coversFrom_90 rfl (lv_at hl 1 rfl) ?_
                refine lv_iload hx hb dX12_coversFrom_91 (lv_at hl 4 rfl) ?_
                obtain ⟨g15, h⟩ := xgd h
                refine xs_i C hW KM_39 g15 dX12_coversFrom_93 (fun H locs hW => ?_)
                refine lv_aload_n hx hb dX12_coversFrom_94 rfl (lv_at hl 0 rfl) ?_
                refine lv_iload_n hx hb dX12_coversFrom_95 rfl (lv_at hl 1 rfl) ?_
                refine lv_iconst (v := 1) hx hb dX12_coversFrom_96 rfl ?_
                refine lv_iadd hx hb dX12_coversFrom_97 ?_
                refine lv_iload_n hx hb dX12_coversFrom_98 rfl (lv_at hl 2 rfl) ?_
                refine lv_iload_n hx hb dX12_coversFrom_99 rfl (lv_at hl 3 rfl) ?_
                obtain ⟨σ16, e16, h⟩ := xbo h
                refine xc_V (As := [.int (x1 + 1), .int x2, .int x3]) (rest := []) C hW (hH (x1 + 1) x2 x3 _ e16) mf_X12_coversFrom mv_X12_coversFrom ml_X12_458 ⟨hrm.1, hrm.2.1⟩ ⟨by simp only [xrm]; omega, by simp only [xrm]; omega⟩ KM_0 rfl hl.1 rfl rfl (Nat.le_of_ble_eq_true rfl) dX12_coversFrom_100 (fun H locs hW => W.eq (g2 := F0 m 103 ls []) rfl ?_)
                refine lv_iinc (v := x4 + 1) (lv' := [(4, .int (x4 + 1)), (0, .ref (g.q 0)), (1, .int x1), (2, .int x2), (3, .int x3)]) hx hb dX12_coversFrom_103 hl (k := 4) rfl rfl (Nat.le_of_ble_eq_true rfl) rfl (fun ls hl => ?_)
                refine lv_goto (tgt := 22) hx hb dX12_coversFrom_106 (by decide) ?_
                exact ih x1 x2 x3 (x4 + 1) _ _ _ _ hW (lv_sub hl [1, 2, 3, 4, 0] rfl) h
              · have h := xit c14 h
                refine lv_goto (tgt := 103) hx hb dX12_coversFrom_83 (by decide) ?_
                refine lv_iinc (v := x4 + 1) (lv' := [(4, .int (x4 + 1)), (0, .ref (g.q 0)), (1, .int x1), (2, .int x2), (3, .int x3)]) hx hb dX12_coversFrom_103 hl (k := 4) rfl rfl (Nat.le_of_ble_eq_true rfl) rfl (fun ls hl => ?_)
                refine lv_goto (tgt := 22) hx hb dX12_coversFrom_106 (by decide) ?_
                exact ih x1 x2 x3 (x4 + 1) _ _ _ _ hW (lv_sub hl [1, 2, 3, 4, 0] rfl) h
set_option maxRecDepth 4000 in
theorem m_X12_coversFrom_b (N : Nat) (hd : Int32 → Int32 → Int32 → St → Option St) (rmH : Room) (hrm : rmH.cells = 0 ∧ rmH.slots = 0 ∧ 8 ≤ rmH.frames ∧ 229 ≤ rmH.locals) (hH : ∀ (a0 : Int32) (a1 : Int32) (a2 : Int32) (σ : St) {σ' : St}, hd a0 a1 a2 σ = some σ' → xM l KM g yX12_coversFrom cX12_coversFrom 5 none rmH [.ref (g.q 0), .int a0, .int a1, .int a2] σ none σ') (x1 : Int32) (x2 : Int32) (x3 : Int32) (σ : St) {σ' : St} (h : f_X12_coversFrom_b N hd x1 x2 x3 σ = some σ') : xM l KM g yX12_coversFrom cX12_coversFrom 5 none (xrm rmH 1 24) [.ref (g.q 0), .int x1, .int x2, .int x3] σ none σ' := by
  refine xmet pn_X12 rfl (Nat.le_of_ble_eq_true rfl) (lv := [(0, .ref (g.q 0)), (1, .int x1), (2, .int x2), (3, .int x3)]) rfl (fun p e s m args below meth c ls C hW hl => ?_)
  have hx := C.1
  have hb := C.2.1
  unfold f_X12_coversFrom_b at h
  refine lv_iload_n hx hb dX12_coversFrom_0 rfl (lv_at hl 1 rfl) ?_
  refine lv_if_le (tgt := 19) hx hb dX12_coversFrom_1 (by decide) (fun c1 => ?_) (fun c1 => ?_)
  · have h := xit c1 h
    refine lv_iconst (v := 0) hx hb dX12_coversFrom_19 rfl ?_
    refine lv_istore (lv' := [(4, .int 0), (0, .ref (g.q 0)), (1, .int x1), (2, .int x2), (3, .int x3)]) hx hb dX12_coversFrom_20 hl (Nat.le_of_ble_eq_true rfl) rfl (fun ls hl => ?_)
    exact w_X12_coversFrom_22 N hd rmH hrm hH C N x1 x2 x3 0 _ _ _ _ hW (lv_sub hl [1, 2, 3, 4, 0] rfl) h
  · have h := xif c1 h
    refine lv_aload_n hx hb dX12_coversFrom_4 rfl (lv_at hl 0 rfl) ?_
    refine lv_iload_n hx hb dX12_coversFrom_5 rfl (lv_at hl 1 rfl) ?_
    refine lv_iload_n hx hb dX12_coversFrom_6 rfl (lv_at hl 3 rfl) ?_
    obtain ⟨r2_, e2, h⟩ := xbo h
    refine xc_V (As := [.int x1, .int x3]) (rest := []) C hW (m_X12_isCovered x1 x3 _ e2) mf_X12_isCovered mv_X12_isCovered ml_X12_432 ⟨rfl, rfl⟩ ⟨xle1 hrm.2.2.1 (Nat.le_of_ble_eq_true rfl), xle1 hrm.2.2.2 (Nat.le_of_ble_eq_true rfl)⟩ KM_0 rfl hl.1 rfl rfl (Nat.le_of_ble_eq_true rfl) dX12_coversFrom_7 (fun H locs hW => W.eq (g2 := F0 m 10 ls [.int r2_]) rfl ?_)
    refine lv_if_eq (tgt := 19) hx hb dX12_coversFrom_10 (by decide) (fun c3 => ?_) (fun c3 => ?_)
    · have h := xit c3 h
      refine lv_iconst (v := 0) hx hb dX12_coversFrom_19 rfl ?_
      refine lv_istore (lv' := [(4, .int 0), (0, .ref (g.q 0)), (1, .int x1), (2, .int x2), (3, .int x3)]) hx hb dX12_coversFrom_20 hl (Nat.le_of_ble_eq_true rfl) rfl (fun ls hl => ?_)
      exact w_X12_coversFrom_22 N hd rmH hrm hH C N x1 x2 x3 0 _ _ _ _ hW (lv_sub hl [1, 2, 3, 4, 0] rfl) h
    · have h := xif c3 h
      refine lv_aload_n hx hb dX12_coversFrom_13 rfl (lv_at hl 0 rfl) ?_
      refine lv_iload_n hx hb dX12_coversFrom_14 rfl (lv_at hl 1 rfl) ?_
      refine lv_iload_n hx hb dX12_coversFrom_15 rfl (lv_at hl 3 rfl) ?_
      obtain ⟨σ4, e4, h⟩ := xbo h
      refine xc_V (As := [.int x1, .int x3]) (rest := []) C hW (m_X12_bodyComes N x1 x3 _ e4) mf_X12_bodyComes mv_X12_bodyComes ml_X12_451 ⟨rfl, rfl⟩ ⟨xle1 hrm.2.2.1 (Nat.le_of_ble_eq_true rfl), xle1 hrm.2.2.2 (Nat.le_of_ble_eq_true rfl)⟩ KM_0 rfl hl.1 rfl rfl (Nat.le_of_ble_eq_true rfl) dX12_coversFrom_16 (fun H locs hW => W.eq (g2 := F0 m 19 ls []) rfl ?_)
      refine lv_iconst (v := 0) hx hb dX12_coversFrom_19 rfl ?_
      refine lv_istore (lv' := [(4, .int 0), (0, .ref (g.q 0)), (1, .int x1), (2, .int x2), (3, .int x3)]) hx hb dX12_coversFrom_20 hl (Nat.le_of_ble_eq_true rfl) rfl (fun ls hl => ?_)
      exact w_X12_coversFrom_22 N hd rmH hrm hH C N x1 x2 x3 0 _ _ _ _ hW (lv_sub hl [1, 2, 3, 4, 0] rfl) h
theorem m_X12_coversFrom (N : Nat) (d : Nat) (x1 : Int32) (x2 : Int32) (x3 : Int32) (σ : St) {σ' : St} (h : f_X12_coversFrom N d x1 x2 x3 σ = some σ') : xM l KM g yX12_coversFrom cX12_coversFrom 5 none (rd_X12_coversFrom d) [.ref (g.q 0), .int x1, .int x2, .int x3] σ none σ' := by
  induction d generalizing x1 x2 x3 σ σ' with
  | zero => rw [f_X12_coversFrom] at h; cases h
  | succ d ih =>
    rw [f_X12_coversFrom] at h
    exact m_X12_coversFrom_b N (f_X12_coversFrom N d) (rd_X12_coversFrom d) (rd_X12_coversFrom_ok d) (fun x1 x2 x3 σ _ => ih x1 x2 x3 σ) x1 x2 x3 σ h
end
