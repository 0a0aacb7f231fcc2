theorem dX12_lay_0 : decode cX12_lay 0 = .ok (.aload_n 0, 1) := by decide +kernel
theorem dX12_lay_1 : decode cX12_lay 1 = .ok (.getfield 46, 3) := by decide +kernel
theorem dX12_lay_4 : decode cX12_lay 4 = .ok (.iload_n 1, 1) := by decide +kernel
theorem dX12_lay_5 : decode cX12_lay 5 = .ok (.iaload, 1) := by decide +kernel
theorem dX12_lay_6 : decode cX12_lay 6 = .ok (.ifCond .ne 103, 3) := by decide +kernel
theorem dX12_lay_9 : decode cX12_lay 9 = .ok (.aload_n 0, 1) := by decide +kernel
theorem dX12_lay_10 : decode cX12_lay 10 = .ok (.aload_n 0, 1) := by decide +kernel
theorem dX12_lay_11 : decode cX12_lay 11 = .ok (.getfield 49, 3) := by decide +kernel
theorem dX12_lay_14 : decode cX12_lay 14 = .ok (.iload_n 1, 1) := by decide +kernel
theorem dX12_lay_15 : decode cX12_lay 15 = .ok (.iaload, 1) := by decide +kernel
theorem dX12_lay_16 : decode cX12_lay 16 = .ok (.iload 4, 2) := by decide +kernel
theorem dX12_lay_18 : decode cX12_lay 18 = .ok (.iload_n 2, 1) := by decide +kernel
theorem dX12_lay_19 : decode cX12_lay 19 = .ok (.iload_n 3, 1) := by decide +kernel
theorem dX12_lay_20 : decode cX12_lay 20 = .ok (.aload_n 0, 1) := by decide +kernel
theorem dX12_lay_21 : decode cX12_lay 21 = .ok (.getfield 61, 3) := by decide +kernel
theorem dX12_lay_24 : decode cX12_lay 24 = .ok (.iload_n 1, 1) := by decide +kernel
theorem dX12_lay_25 : decode cX12_lay 25 = .ok (.iaload, 1) := by decide +kernel
theorem dX12_lay_26 : decode cX12_lay 26 = .ok (.aload_n 0, 1) := by decide +kernel
theorem dX12_lay_27 : decode cX12_lay 27 = .ok (.getfield 64, 3) := by decide +kernel
theorem dX12_lay_30 : decode cX12_lay 30 = .ok (.iload_n 1, 1) := by decide +kernel
theorem dX12_lay_31 : decode cX12_lay 31 = .ok (.iaload, 1) := by decide +kernel
theorem dX12_lay_32 : decode cX12_lay 32 = .ok (.invokevirtual 384, 3) := by decide +kernel
theorem dX12_lay_35 : decode cX12_lay 35 = .ok (.aload_n 0, 1) := by decide +kernel
theorem dX12_lay_36 : decode cX12_lay 36 = .ok (.getfield 52, 3) := by decide +kernel
theorem dX12_lay_39 : decode cX12_lay 39 = .ok (.iload_n 1, 1) := by decide +kernel
theorem dX12_lay_40 : decode cX12_lay 40 = .ok (.iaload, 1) := by decide +kernel
theorem dX12_lay_41 : decode cX12_lay 41 = .ok (.iconst (-1), 1) := by decide +kernel
theorem dX12_lay_42 : decode cX12_lay 42 = .ok (.if_icmp .ne 4, 3) := by decide +kernel
theorem dX12_lay_45 : decode cX12_lay 45 = .ok (.return_, 1) := by decide +kernel
theorem dX12_lay_46 : decode cX12_lay 46 = .ok (.iconst 1, 1) := by decide +kernel
theorem dX12_lay_47 : decode cX12_lay 47 = .ok (.aload_n 0, 1) := by decide +kernel
theorem dX12_lay_48 : decode cX12_lay 48 = .ok (.getfield 28, 3) := by decide +kernel
theorem dX12_lay_51 : decode cX12_lay 51 = .ok (.aload_n 0, 1) := by decide +kernel
theorem dX12_lay_52 : decode cX12_lay 52 = .ok (.getfield 52, 3) := by decide +kernel
theorem dX12_lay_55 : decode cX12_lay 55 = .ok (.iload_n 1, 1) := by decide +kernel
theorem dX12_lay_56 : decode cX12_lay 56 = .ok (.iaload, 1) := by decide +kernel
theorem dX12_lay_57 : decode cX12_lay 57 = .ok (.iaload, 1) := by decide +kernel
theorem dX12_lay_58 : decode cX12_lay 58 = .ok (.iconst 2, 1) := by decide +kernel
theorem dX12_lay_59 : decode cX12_lay 59 = .ok (.idiv, 1) := by decide +kernel
theorem dX12_lay_60 : decode cX12_lay 60 = .ok (.invokestatic 381, 3) := by decide +kernel
theorem dX12_lay_63 : decode cX12_lay 63 = .ok (.istore 5, 2) := by decide +kernel
theorem dX12_lay_65 : decode cX12_lay 65 = .ok (.aload_n 0, 1) := by decide +kernel
theorem dX12_lay_66 : decode cX12_lay 66 = .ok (.aload_n 0, 1) := by decide +kernel
theorem dX12_lay_67 : decode cX12_lay 67 = .ok (.getfield 52, 3) := by decide +kernel
theorem dX12_lay_70 : decode cX12_lay 70 = .ok (.iload_n 1, 1) := by decide +kernel
theorem dX12_lay_71 : decode cX12_lay 71 = .ok (.iaload, 1) := by decide +kernel
theorem dX12_lay_72 : decode cX12_lay 72 = .ok (.iload 4, 2) := by decide +kernel
theorem dX12_lay_74 : decode cX12_lay 74 = .ok (.iload_n 2, 1) := by decide +kernel
theorem dX12_lay_75 : decode cX12_lay 75 = .ok (.aload_n 0, 1) := by decide +kernel
theorem dX12_lay_76 : decode cX12_lay 76 = .ok (.getfield 61, 3) := by decide +kernel
theorem dX12_lay_79 : decode cX12_lay 79 = .ok (.iload_n 1, 1) := by decide +kernel
theorem dX12_lay_80 : decode cX12_lay 80 = .ok (.iaload, 1) := by decide +kernel
theorem dX12_lay_81 : decode cX12_lay 81 = .ok (.iadd, 1) := by decide +kernel
theorem dX12_lay_82 : decode cX12_lay 82 = .ok (.iload 5, 2) := by decide +kernel
theorem dX12_lay_84 : decode cX12_lay 84 = .ok (.isub, 1) := by decide +kernel
theorem dX12_lay_85 : decode cX12_lay 85 = .ok (.iload_n 3, 1) := by decide +kernel
theorem dX12_lay_86 : decode cX12_lay 86 = .ok (.iload 5, 2) := by decide +kernel
theorem dX12_lay_88 : decode cX12_lay 88 = .ok (.iconst 1, 1) := by decide +kernel
theorem dX12_lay_89 : decode cX12_lay 89 = .ok (.aload_n 0, 1) := by decide +kernel
theorem dX12_lay_90 : decode cX12_lay 90 = .ok (.getfield 31, 3) := by decide +kernel
theorem dX12_lay_93 : decode cX12_lay 93 = .ok (.aload_n 0, 1) := by decide +kernel
theorem dX12_lay_94 : decode cX12_lay 94 = .ok (.getfield 52, 3) := by decide +kernel
theorem dX12_lay_97 : decode cX12_lay 97 = .ok (.iload_n 1, 1) := by decide +kernel
theorem dX12_lay_98 : decode cX12_lay 98 = .ok (.iaload, 1) := by decide +kernel
theorem dX12_lay_99 : decode cX12_lay 99 = .ok (.iaload, 1) := by decide +kernel
theorem dX12_lay_100 : decode cX12_lay 100 = .ok (.iconst 2, 1) := by decide +kernel
theorem dX12_lay_101 : decode cX12_lay 101 = .ok (.idiv, 1) := by decide +kernel
theorem dX12_lay_102 : decode cX12_lay 102 = .ok (.invokestatic 381, 3) := by decide +kernel
theorem dX12_lay_105 : decode cX12_lay 105 = .ok (.invokevirtual 384, 3) := by decide +kernel
theorem dX12_lay_108 : decode cX12_lay 108 = .ok (.return_, 1) := by decide +kernel
theorem dX12_lay_109 : decode cX12_lay 109 = .ok (.iconst 0, 1) := by decide +kernel
theorem dX12_lay_110 : decode cX12_lay 110 = .ok (.istore 5, 2) := by decide +kernel
theorem dX12_lay_112 : decode cX12_lay 112 = .ok (.aload_n 0, 1) := by decide +kernel
theorem dX12_lay_113 : decode cX12_lay 113 = .ok (.getfield 55, 3) := by decide +kernel
theorem dX12_lay_116 : decode cX12_lay 116 = .ok (.iload_n 1, 1) := by decide +kernel
theorem dX12_lay_117 : decode cX12_lay 117 = .ok (.iaload, 1) := by decide +kernel
theorem dX12_lay_118 : decode cX12_lay 118 = .ok (.istore 6, 2) := by decide +kernel
theorem dX12_lay_120 : decode cX12_lay 120 = .ok (.iload 6, 2) := by decide +kernel
theorem dX12_lay_122 : decode cX12_lay 122 = .ok (.iconst (-1), 1) := by decide +kernel
theorem dX12_lay_123 : decode cX12_lay 123 = .ok (.if_icmp .eq 130, 3) := by decide +kernel
theorem dX12_lay_126 : decode cX12_lay 126 = .ok (.aload_n 0, 1) := by decide +kernel
theorem dX12_lay_127 : decode cX12_lay 127 = .ok (.getfield 46, 3) := by decide +kernel
theorem dX12_lay_130 : decode cX12_lay 130 = .ok (.iload_n 1, 1) := by decide +kernel
theorem dX12_lay_131 : decode cX12_lay 131 = .ok (.iaload, 1) := by decide +kernel
theorem dX12_lay_132 : decode cX12_lay 132 = .ok (.iconst 1, 1) := by decide +kernel
theorem dX12_lay_133 : decode cX12_lay 133 = .ok (.if_icmp .ne 7, 3) := by decide +kernel
theorem dX12_lay_136 : decode cX12_lay 136 = .ok (.iconst 1, 1) := by decide +kernel
theorem dX12_lay_137 : decode cX12_lay 137 = .ok (.goto 4, 3) := by decide +kernel
theorem dX12_lay_140 : decode cX12_lay 140 = .ok (.iconst 0, 1) := by decide +kernel
theorem dX12_lay_141 : decode cX12_lay 141 = .ok (.istore 7, 2) := by decide +kernel
theorem dX12_lay_143 : decode cX12_lay 143 = .ok (.aload_n 0, 1) := by decide +kernel
theorem dX12_lay_144 : decode cX12_lay 144 = .ok (.iload 6, 2) := by decide +kernel
theorem dX12_lay_146 : decode cX12_lay 146 = .ok (.iload_n 2, 1) := by decide +kernel
theorem dX12_lay_147 : decode cX12_lay 147 = .ok (.iload 7, 2) := by decide +kernel
theorem dX12_lay_149 : decode cX12_lay 149 = .ok (.ifCond .eq 8, 3) := by decide +kernel
theorem dX12_lay_152 : decode cX12_lay 152 = .ok (.iload 5, 2) := by decide +kernel
theorem dX12_lay_154 : decode cX12_lay 154 = .ok (.goto 19, 3) := by decide +kernel
theorem dX12_lay_157 : decode cX12_lay 157 = .ok (.aload_n 0, 1) := by decide +kernel
theorem dX12_lay_158 : decode cX12_lay 158 = .ok (.getfield 61, 3) := by decide +kernel
theorem dX12_lay_161 : decode cX12_lay 161 = .ok (.iload_n 1, 1) := by decide +kernel
theorem dX12_lay_162 : decode cX12_lay 162 = .ok (.iaload, 1) := by decide +kernel
theorem dX12_lay_163 : decode cX12_lay 163 = .ok (.aload_n 0, 1) := by decide +kernel
theorem dX12_lay_164 : decode cX12_lay 164 = .ok (.getfield 61, 3) := by decide +kernel
theorem dX12_lay_167 : decode cX12_lay 167 = .ok (.iload 6, 2) := by decide +kernel
theorem dX12_lay_169 : decode cX12_lay 169 = .ok (.iaload, 1) := by decide +kernel
theorem dX12_lay_170 : decode cX12_lay 170 = .ok (.isub, 1) := by decide +kernel
theorem dX12_lay_171 : decode cX12_lay 171 = .ok (.iconst 2, 1) := by decide +kernel
theorem dX12_lay_172 : decode cX12_lay 172 = .ok (.idiv, 1) := by decide +kernel
theorem dX12_lay_173 : decode cX12_lay 173 = .ok (.iadd, 1) := by decide +kernel
theorem dX12_lay_174 : decode cX12_lay 174 = .ok (.iload_n 3, 1) := by decide +kernel
theorem dX12_lay_175 : decode cX12_lay 175 = .ok (.iload 7, 2) := by decide +kernel
theorem dX12_lay_177 : decode cX12_lay 177 = .ok (.ifCond .eq 22, 3) := by decide +kernel
theorem dX12_lay_180 : decode cX12_lay 180 = .ok (.aload_n 0, 1) := by decide +kernel
theorem dX12_lay_181 : decode cX12_lay 181 = .ok (.getfield 64, 3) := by decide +kernel
theorem dX12_lay_184 : decode cX12_lay 184 = .ok (.iload_n 1, 1) := by decide +kernel
theorem dX12_lay_185 : decode cX12_lay 185 = .ok (.iaload, 1) := by decide +kernel
theorem dX12_lay_186 : decode cX12_lay 186 = .ok (.aload_n 0, 1) := by decide +kernel
theorem dX12_lay_187 : decode cX12_lay 187 = .ok (.getfield 64, 3) := by decide +kernel
theorem dX12_lay_190 : decode cX12_lay 190 = .ok (.iload 6, 2) := by decide +kernel
theorem dX12_lay_192 : decode cX12_lay 192 = .ok (.iaload, 1) := by decide +kernel
theorem dX12_lay_193 : decode cX12_lay 193 = .ok (.isub, 1) := by decide +kernel
theorem dX12_lay_194 : decode cX12_lay 194 = .ok (.iconst 2, 1) := by decide +kernel
theorem dX12_lay_195 : decode cX12_lay 195 = .ok (.idiv, 1) := by decide +kernel
theorem dX12_lay_196 : decode cX12_lay 196 = .ok (.goto 5, 3) := by decide +kernel
theorem dX12_lay_199 : decode cX12_lay 199 = .ok (.iload 5, 2) := by decide +kernel
theorem dX12_lay_201 : decode cX12_lay 201 = .ok (.iadd, 1) := by decide +kernel
theorem dX12_lay_202 : decode cX12_lay 202 = .ok (.iload 4, 2) := by decide +kernel
theorem dX12_lay_204 : decode cX12_lay 204 = .ok (.invokevirtual 388, 3) := by decide +kernel
theorem dX12_lay_207 : decode cX12_lay 207 = .ok (.iload 5, 2) := by decide +kernel
theorem dX12_lay_209 : decode cX12_lay 209 = .ok (.aload_n 0, 1) := by decide +kernel
theorem dX12_lay_210 : decode cX12_lay 210 = .ok (.getfield 17, 3) := by decide +kernel
theorem dX12_lay_213 : decode cX12_lay 213 = .ok (.iconst 0, 1) := by decide +kernel
theorem dX12_lay_214 : decode cX12_lay 214 = .ok (.iaload, 1) := by decide +kernel
theorem dX12_lay_215 : decode cX12_lay 215 = .ok (.iload 7, 2) := by decide +kernel
theorem dX12_lay_217 : decode cX12_lay 217 = .ok (.ifCond .eq 13, 3) := by decide +kernel
theorem dX12_lay_220 : decode cX12_lay 220 = .ok (.aload_n 0, 1) := by decide +kernel
theorem dX12_lay_221 : decode cX12_lay 221 = .ok (.getfield 61, 3) := by decide +kernel
theorem dX12_lay_224 : decode cX12_lay 224 = .ok (.iload 6, 2) := by decide +kernel
theorem dX12_lay_226 : decode cX12_lay 226 = .ok (.iaload, 1) := by decide +kernel
theorem dX12_lay_227 : decode cX12_lay 227 = .ok (.goto 10, 3) := by decide +kernel
theorem dX12_lay_230 : decode cX12_lay 230 = .ok (.aload_n 0, 1) := by decide +kernel
theorem dX12_lay_231 : decode cX12_lay 231 = .ok (.getfield 64, 3) := by decide +kernel
theorem dX12_lay_234 : decode cX12_lay 234 = .ok (.iload 6, 2) := by decide +kernel
theorem dX12_lay_236 : decode cX12_lay 236 = .ok (.iaload, 1) := by decide +kernel
theorem dX12_lay_237 : decode cX12_lay 237 = .ok (.iadd, 1) := by decide +kernel
theorem dX12_lay_238 : decode cX12_lay 238 = .ok (.iadd, 1) := by decide +kernel
theorem dX12_lay_239 : decode cX12_lay 239 = .ok (.istore 5, 2) := by decide +kernel
theorem dX12_lay_241 : decode cX12_lay 241 = .ok (.aload_n 0, 1) := by decide +kernel
theorem dX12_lay_242 : decode cX12_lay 242 = .ok (.getfield 58, 3) := by decide +kernel
theorem dX12_lay_245 : decode cX12_lay 245 = .ok (.iload 6, 2) := by decide +kernel
theorem dX12_lay_247 : decode cX12_lay 247 = .ok (.iaload, 1) := by decide +kernel
theorem dX12_lay_248 : decode cX12_lay 248 = .ok (.istore 6, 2) := by decide +kernel
theorem dX12_lay_250 : decode cX12_lay 250 = .ok (.goto (-130), 3) := by decide +kernel
theorem dX12_lay_253 : decode cX12_lay 253 = .ok (.return_, 1) := by decide +kernel
abbrev rd_X12_lay : Nat → Room := rmd 1 26 1 27
theorem rd_X12_lay_ok (d : Nat) : (rd_X12_lay d).cells = 0 ∧ (rd_X12_lay d).slots = 0 ∧ 1 ≤ (rd_X12_lay d).frames ∧ 26 ≤ (rd_X12_lay d).locals := rmd_ok _ _ _ _ d
def f_X12_lay_237 (N : Nat) (hd : Int32 → Int32 → Int32 → Int32 → St → Option St) (k120 : Int32 → Int32 → Int32 → Int32 → Int32 → Int32 → St → Option St) (x1 : Int32) (x2 : Int32) (x3 : Int32) (x4 : Int32) (x6 : Int32) (t0 : Int32) (t1 : Int32) (t2 : Int32) (σ : St) : Option St := grd (ib x6 400) (k120 x1 x2 x3 x4 (t0 + (t1 + t2)) (σ.1 15 x6.toNatClampNeg) σ)
def f_X12_lay_201 (N : Nat) (hd : Int32 → Int32 → Int32 → Int32 → St → Option St) (k120 : Int32 → Int32 → Int32 → Int32 → Int32 → Int32 → St → Option St) (x1 : Int32) (x2 : Int32) (x3 : Int32) (x4 : Int32) (x5 : Int32) (x6 : Int32) (x7 : Int32) (t1 : Int32) (t2 : Int32) (t3 : Int32) (t4 : Int32) (σ : St) : Option St := bo (hd t1 t2 (t3 + t4) x4 σ) (fun σ30 => grd (ib 0 8) ((if x7 = 0 then grd (ib x6 400) (f_X12_lay_237 N hd k120 x1 x2 x3 x4 x6 x5 (σ30.1 2 0) (σ30.1 17 x6.toNatClampNeg) σ30) else grd (ib x6 400) (f_X12_lay_237 N hd k120 x1 x2 x3 x4 x6 x5 (σ30.1 2 0) (σ30.1 16 x6.toNatClampNeg) σ30))))
def f_X12_lay_173 (N : Nat) (hd : Int32 → Int32 → Int32 → Int32 → St → Option St) (k120 : Int32 → Int32 → Int32 → Int32 → Int32 → Int32 → St → Option St) (x1 : Int32) (x2 : Int32) (x3 : Int32) (x4 : Int32) (x5 : Int32) (x6 : Int32) (x7 : Int32) (t1 : Int32) (t2 : Int32) (t3 : Int32) (σ : St) : Option St := (if x7 = 0 then f_X12_lay_201 N hd k120 x1 x2 x3 x4 x5 x6 x7 t1 (t2 + t3) x3 x5 σ else grd (ib x1 400) (grd (ib x6 400) (f_X12_lay_201 N hd k120 x1 x2 x3 x4 x5 x6 x7 t1 (t2 + t3) x3 (((σ.1 17 x1.toNatClampNeg) - (σ.1 17 x6.toNatClampNeg)) / 2) σ)))
def f_X12_lay_141 (N : Nat) (hd : Int32 → Int32 → Int32 → Int32 → St → Option St) (k120 : Int32 → Int32 → Int32 → Int32 → Int32 → Int32 → St → Option St) (x1 : Int32) (x2 : Int32) (x3 : Int32) (x4 : Int32) (x5 : Int32) (x6 : Int32) (t0 : Int32) (σ : St) : Option St := (if t0 = 0 then grd (ib x1 400) (grd (ib x6 400) (f_X12_lay_173 N hd k120 x1 x2 x3 x4 x5 x6 t0 x6 x2 (((σ.1 16 x1.toNatClampNeg) - (σ.1 16 x6.toNatClampNeg)) / 2) σ)) else f_X12_lay_173 N hd k120 x1 x2 x3 x4 x5 x6 t0 x6 x2 x5 σ)
def f_X12_lay_120 (N : Nat) (hd : Int32 → Int32 → Int32 → Int32 → St → Option St) : Nat → Int32 → Int32 → Int32 → Int32 → Int32 → Int32 → St → Option St
  | 0, _, _, _, _, _, _, _ => none
  | n + 1, x1, x2, x3, x4, x5, x6, σ => (if x6 = ((-1)) then some σ else grd (ib x1 400) ((if (σ.1 11 x1.toNatClampNeg) = 1 then f_X12_lay_141 N hd (f_X12_lay_120 N hd n) x1 x2 x3 x4 x5 x6 1 σ else f_X12_lay_141 N hd (f_X12_lay_120 N hd n) x1 x2 x3 x4 x5 x6 0 σ)))
def f_X12_lay_b (N : Nat) (hd : Int32 → Int32 → Int32 → Int32 → St → Option St) (x1 : Int32) (x2 : Int32) (x3 : Int32) (x4 : Int32) (σ : St) : Option St := grd (ib x1 400) ((if (σ.1 11 x1.toNatClampNeg) = 0 then grd (ib x1 400) (grd (ib x1 400) (grd (ib x1 400) (bo (f_X12_layOne (σ.1 12 x1.toNatClampNeg) x4 x2 x3 (σ.1 16 x1.toNatClampNeg) (σ.1 17 x1.toNatClampNeg) σ) (fun σ7 => grd (ib x1 400) ((if (σ7.1 13 x1.toNatClampNeg) = ((-1)) then some σ7 else grd (ib x1 400) (grd (ib (σ7.1 13 x1.toNatClampNeg) 80) (grd (ib x1 400) (grd (ib x1 400) (grd (ib x1 400) (grd (ib (σ7.1 13 x1.toNatClampNeg) 80) (bo (f_X12_layOne (σ7.1 13 x1.toNatClampNeg) x4 ((x2 + (σ7.1 16 x1.toNatClampNeg)) - (f_X12_greater 1 ((σ7.1 5 (σ7.1 13 x1.toNatClampNeg).toNatClampNeg) / 2) σ7)) x3 (f_X12_greater 1 ((σ7.1 5 (σ7.1 13 x1.toNatClampNeg).toNatClampNeg) / 2) σ7) (f_X12_greater 1 ((σ7.1 6 (σ7.1 13 x1.toNatClampNeg).toNatClampNeg) / 2) σ7) σ7) (fun σ18 => some σ18))))))))))))) else grd (ib x1 400) (f_X12_lay_120 N hd N x1 x2 x3 x4 0 (σ.1 14 x1.toNatClampNeg) σ)))
def f_X12_lay (N : Nat) : Nat → Int32 → Int32 → Int32 → Int32 → St → Option St
  | 0, _, _, _, _, _ => none
  | d + 1, x1, x2, x3, x4, σ => f_X12_lay_b N (f_X12_lay N d) x1 x2 x3 x4 σ
section
variable {p : Program} {l : Launch} {e : Env} {s : State} {m : MethodId} {args : Array Value} {below : List Frame} {meth : Method} {c : Code} {g : XG}
set_option maxRecDepth 4000 in
theorem w_X12_lay_237 (N : Nat) (hd : Int32 → Int32 → Int32 → Int32 → St → Option St) (rmH : Room) (hrm : rmH.cells = 0 ∧ rmH.slots = 0 ∧ 1 ≤ rmH.frames ∧ 26 ≤ rmH.locals) (hH : ∀ (a0 : Int32) (a1 : Int32) (a2 : Int32) (a3 : Int32) (σ : St) {σ' : St}, hd a0 a1 a2 a3 σ = some σ' → xM l KM g yX12_lay cX12_lay 8 none rmH [.ref (g.q 0), .int a0, .int a1, .int a2, .int a3] σ none σ') (k120 : Int32 → Int32 → Int32 → Int32 → Int32 → Int32 → St → Option St) {σ' : St} (C : xC KM g RX12 cX12_lay 8 none p s m args meth c) (hk120 : ∀ (x1 : Int32) (x2 : Int32) (x3 : Int32) (x4 : Int32) (x5 : Int32) (x6 : Int32) (σ : St) (H : Heap) (locs : List Loc) (ls : Array Slot), xW KM g s σ H locs → lv_has ls 8 [(0, .ref (g.q 0)), (1, .int x1), (2, .int x2), (3, .int x3), (4, .int x4), (5, .int x5), (6, .int x6)] → k120 x1 x2 x3 x4 x5 x6 σ = some σ' → W p l e (xrm rmH 1 27) s m args below meth c H locs 0 0 (MQ below (xPost KM g none σ') args s 0 0 (xA KM g.q)) (F0 m 120 ls [])) : ∀ (x1 : Int32) (x2 : Int32) (x3 : Int32) (x4 : Int32) (x6 : Int32) (t0 : Int32) (t1 : Int32) (t2 : Int32) (σ : St) (H : Heap) (locs : List Loc) (ls : Array Slot), xW KM g s σ H locs → lv_has ls 8 [(0, .ref (g.q 0)), (1, .int x1), (2, .int x2), (3, .int x3), (4, .int x4), (6, .int x6)] → f_X12_lay_237 N hd k120 x1 x2 x3 x4 x6 t0 t1 t2 σ = some σ' → W p l e (xrm rmH 1 27) s m args below meth c H locs 0 0 (MQ below (xPost KM g none σ') args s 0 0 (xA KM g.q)) (F0 m 237 ls [.int t2, .int t1, .int t0]) := by
  have hx := C.1
  have hb := C.2.1
  intro x1 x2 x3 x4 x6 t0 t1 t2 σ H locs ls hW hl h
  unfold f_X12_lay_237 at h
  refine lv_iadd hx hb dX12_lay_237 ?_
  refine lv_iadd hx hb dX12_lay_238 ?_
  refine lv_istore (lv' := [(5, .int (t0 + (t1 + t2))), (0, .ref (g.q 0)), (1, .int x1), (2, .int x2), (3, .int x3), (4, .int x4), (6, .int x6)]) hx hb dX12_lay_239 hl (Nat.le_of_ble_eq_true rfl) rfl (fun ls hl => ?_)
  refine lv_aload_n hx hb dX12_lay_241 rfl (lv_at hl 1 rfl) ?_
  refine xg_r C hW fg_12_58 KM_0 rfl dX12_lay_242 ?_
  refine lv_iload hx hb dX12_lay_245 (lv_at hl 6 rfl) ?_
  obtain ⟨g35, h⟩ := xgd h
  refine xa_i C hW KM_15 g35 (x := σ.1 15 x6.toNatClampNeg) rfl dX12_lay_247 ?_
  refine lv_istore (lv' := [(6, .int (σ.1 15 x6.toNatClampNeg)), (5, .int (t0 + (t1 + t2))), (0, .ref (g.q 0)), (1, .int x1), (2, .int x2), (3, .int x3), (4, .int x4)]) hx hb dX12_lay_248 hl (Nat.le_of_ble_eq_true rfl) rfl (fun ls hl => ?_)
  refine lv_goto (tgt := 120) hx hb dX12_lay_250 (by decide) ?_
  exact hk120 x1 x2 x3 x4 (t0 + (t1 + t2)) (σ.1 15 x6.toNatClampNeg) _ _ _ _ hW (lv_sub hl [2, 3, 4, 5, 6, 1, 0] rfl) h
set_option maxRecDepth 4000 in
theorem w_X12_lay_201 (N : Nat) (hd : Int32 → Int32 → Int32 → Int32 → St → Option St) (rmH : Room) (hrm : rmH.cells = 0 ∧ rmH.slots = 0 ∧ 1 ≤ rmH.frames ∧ 26 ≤ rmH.locals) (hH : ∀ (a0 : Int32) (a1 : Int32) (a2 : Int32) (a3 : Int32) (σ : St) {σ' : St}, hd a0 a1 a2 a3 σ = some σ' → xM l KM g yX12_lay cX12_lay 8 none rmH [.ref (g.q 0), .int a0, .int a1, .int a2, .int a3] σ none σ') (k120 : Int32 → Int32 → Int32 → Int32 → Int32 → Int32 → St → Option St) {σ' : St} (C : xC KM g RX12 cX12_lay 8 none p s m args meth c) (hk120 : ∀ (x1 : Int32) (x2 : Int32) (x3 : Int32) (x4 : Int32) (x5 : Int32) (x6 : Int32) (σ : St) (H : Heap) (locs : List Loc) (ls : Array Slot), xW KM g s σ H locs → lv_has ls 8 [(0, .ref (g.q 0)), (1, .int x1), (2, .int x2), (3, .int x3), (4, .int x4), (5, .int x5), (6, .int x6)] → k120 x1 x2 x3 x4 x5 x6 σ = some σ' → W p l e (xrm rmH 1 27) s m args below meth c H locs 0 0 (MQ below (xPost KM g none σ') args s 0 0 (xA KM g.q)) (F0 m 120 ls [])) : ∀ (x1 : Int32) (x2 : Int32) (x3 : Int32) (x4 : Int32) (x5 : Int32) (x6 : Int32) (x7 : Int32) (t1 : Int32) (t2 : Int32) (t3 : Int32) (t4 : Int32) (σ : St) (H : Heap) (locs : List Loc) (ls : Array Slot), xW KM g s σ H locs → lv_has ls 8 [(0, .ref (g.q 0)), (1, .int x1), (2, .int x2), (3, .int x3), (4, .int x4), (5, .int x5), (6, .int x6), (7, .int x7)] → f_X12_lay_201 N hd k120 x1 x2 x3 x4 x5 x6 x7 t1 t2 t3 t4 σ = some σ' → W p l e (xrm rmH 1 27) s m args below meth c H locs 0 0 (MQ below (xPost KM g none σ') args s 0 0 (xA KM g.q)) (F0 m 201 ls [.int t4, .int t3, .int t2, .int t1, .ref (g.q 0)]) := by
  have hx := C.1
  have hb := C.2.1
  intro x1 x2 x3 x4 x5 x6 x7 t1 t2 t3 t4 σ H locs ls hW hl h
  unfold f_X12_lay_201 at h
  refine lv_iadd hx hb dX12_lay_201 ?_
  refine lv_iload hx hb dX12_lay_202 (lv_at hl 4 rfl) ?_
  obtain ⟨σ30, e30, h⟩ := xbo h
  refine xc_V (As := [.int t1, .int t2, .int (t3 + t4), .int x4]) (rest := []) C hW (hH t1 t2 (t3 + t4) x4 _ e30) mf_X12_lay mv_X12_lay ml_X12_388 ⟨hrm.1, hrm.2.1⟩ ⟨by simp only [xrm]; omega, by simp only [xrm]; omega⟩ KM_0 rfl hl.1 rfl rfl (Nat.le_of_ble_eq_true rfl) dX12_lay_204 (fun H locs hW => W.eq (g2 := F0 m 207 ls []) rfl ?_)
  refine lv_iload hx hb dX12_lay_207 (lv_at hl 5 rfl) ?_
  refine lv_aload_n hx hb dX12_lay_209 rfl (lv_at hl 0 rfl) ?_
  refine xg_r C hW fg_12_17 KM_0 rfl dX12_lay_210 ?_
  refine lv_iconst (v := 0) hx hb dX12_lay_213 rfl ?_
  obtain ⟨g31, h⟩ := xgd h
  refine xa_i C hW KM_2 g31 (x := σ30.1 2 0) rfl dX12_lay_214 ?_
  refine lv_iload hx hb dX12_lay_215 (lv_at hl 7 rfl) ?_
  refine lv_if_eq (tgt := 230) hx hb dX12_lay_217 (by decide) (fun c32 => ?_) (fun c32 => ?_)
  · have h := xit c32 h
    refine lv_aload_n hx hb dX12_lay_230 rfl (lv_at hl 0 rfl) ?_
    refine xg_r C hW fg_12_64 KM_0 rfl dX12_lay_231 ?_
    refine lv_iload hx hb dX12_lay_234 (lv_at hl 6 rfl) ?_
    obtain ⟨g33, h⟩ := xgd h
    refine xa_i C hW KM_17 g33 (x := σ30.1 17 x6.toNatClampNeg) rfl dX12_lay_236 ?_
    exact w_X12_lay_237 N hd rmH hrm hH k120 C hk120 x1 x2 x3 x4 x6 x5 (σ30.1 2 0) (σ30.1 17 x6.toNatClampNeg) _ _ _ _ hW (lv_sub hl [0, 1, 2, 3, 4, 6] rfl) h
  · have h := xif c32 h
    refine lv_aload_n hx hb dX12_lay_220 rfl (lv_at hl 0 rfl) ?_
    refine xg_r C hW fg_12_61 KM_0 rfl dX12_lay_221 ?_
    refine lv_iload hx hb dX12_lay_224 (lv_at hl 6 rfl) ?_
    obtain ⟨g34, h⟩ := xgd h
    refine xa_i C hW KM_16 g34 (x := σ30.1 16 x6.toNatClampNeg) rfl dX12_lay_226 ?_
    refine lv_goto (tgt := 237) hx hb dX12_lay_227 (by decide) ?_
    exact w_X12_lay_237 N hd rmH hrm hH k120 C hk120 x1 x2 x3 x4 x6 x5 (σ30.1 2 0) (σ30.1 16 x6.toNatClampNeg) _ _ _ _ hW (lv_sub hl [0, 1, 2, 3, 4, 6] rfl) h
set_option maxRecDepth 4000 in
theorem w_X12_lay_173 (N : Nat) (hd : Int32 → Int32 → Int32 → Int32 → St → Option St) (rmH : Room) (hrm : rmH.cells = 0 ∧ rmH.slots = 0 ∧ 1 ≤ rmH.frames ∧ 26 ≤ rmH.locals) (hH : ∀ (a0 : Int32) (a1 : Int32) (a2 : Int32) (a3 : Int32) (σ : St) {σ' : St}, hd a0 a1 a2 a3 σ = some σ' → xM l KM g yX12_lay cX12_lay 8 none rmH [.ref (g.q 0), .int a0, .int a1, .int a2, .int a3] σ none σ') (k120 : Int32 → Int32 → Int32 → Int32 → Int32 → Int32 → St → Option St) {σ' : St} (C : xC KM g RX12 cX12_lay 8 none p s m args meth c) (hk120 : ∀ (x1 : Int32) (x2 : Int32) (x3 : Int32) (x4 : Int32) (x5 : Int32) (x6 : Int32) (σ : St) (H : Heap) (locs : List Loc) (ls : Array Slot), xW KM g s σ H locs → lv_has ls 8 [(0, .ref (g.q 0)), (1, .int x1), (2, .int x2), (3, .int x3), (4, .int x4), (5, .int x5), (6, .int x6)] → k120 x1 x2 x3 x4 x5 x6 σ = some σ' → W p l e (xrm rmH 1 27) s m args below meth c H locs 0 0 (MQ below (xPost KM g none σ') args s 0 0 (xA KM g.q)) (F0 m 120 ls [])) : ∀ (x1 : Int32) (x2 : Int32) (x3 : Int32) (x4 : Int32) (x5 : Int32) (x6 : Int32) (x7 : Int32) (t1 : Int32) (t2 : Int32) (t3 : Int32) (σ : St) (H : Heap) (locs : List Loc) (ls : Array Slot), xW KM g s σ H locs → lv_has ls 8 [(0, .ref (g.q 0)), (1, .int x1), (2, .int x2), (3, .int x3), (4, .int x4), (5, .int x5), (6, .int x6), (7, .int x7)] → f_X12_lay_173 N hd k120 x1 x2 x3 x4 x5 x6 x7 t1 t2 t3 σ = some σ' → W p l e (xrm rmH 1 27) s m args below meth c H locs 0 0 (MQ below (xPost KM g none σ') args s 0 0 (xA KM g.q)) (F0 m 173 ls [.int t3, .int t2, .int t1, .ref (g.q 0)]) := by
  have hx := C.1
  have hb := C.2.1
  intro x1 x2 x3 x4 x5 x6 x7 t1 t2 t3 σ H locs ls hW hl h
  unfold f_X12_lay_173 at h
  refine lv_iadd hx hb dX12_lay_173 ?_
  refine lv_iload_n hx hb dX12_lay_174 rfl (lv_at hl 3 rfl) ?_
  refine lv_iload hx hb dX12_lay_175 (lv_at hl 7 rfl) ?_
  refine lv_if_eq (tgt := 199) hx hb dX12_lay_177 (by decide) (fun c26 => ?_) (fun c26 => ?_)
  · have h := xit c26 h
    refine lv_iload hx hb dX12_lay_199 (lv_at hl 5 rfl) ?_
    exact w_X12_lay_201 N hd rmH hrm hH k120 C hk120 x1 x2 x3 x4 x5 x6 x7 t1 (t2 + t3) x3 x5 _ _ _ _ hW (lv_sub hl [0, 1, 2, 3, 4, 5, 6, 7] rfl) h
  · have h := xif c26 h
    refine lv_aload_n hx hb dX12_lay_180 rfl (lv_at hl 0 rfl) ?_
    refine xg_r C hW fg_12_64 KM_0 rfl dX12_lay_181 ?_
    refine lv_iload_n hx hb dX12_lay_184 rfl (lv_at hl 1 rfl) ?_
    obtain ⟨g27, h⟩ := xgd h
    refine xa_i C hW KM_17 g27 (x := σ.1 17 x1.toNatClampNeg) rfl dX12_lay_185 ?_
    refine lv_aload_n hx hb dX12_lay_186 rfl (lv_at hl 0 rfl) ?_
    refine xg_r C hW fg_12_64 KM_0 rfl dX12_lay_187 ?_
    refine lv_iload hx hb dX12_lay_190 (lv_at hl 6 rfl) ?_
    obtain ⟨g28, h⟩ := xgd h
    refine xa_i C hW KM_17 g28 (x := σ.1 17 x6.toNatClampNeg) rfl dX12_lay_192 ?_
    refine lv_isub hx hb dX12_lay_193 ?_
    refine lv_iconst (v := 2) hx hb dX12_lay_194 rfl ?_
    refine lv_idiv hx hb dX12_lay_195 (by decide) ?_
    refine lv_goto (tgt := 201) hx hb dX12_lay_196 (by decide) ?_
    exact w_X12_lay_201 N hd rmH hrm hH k120 C hk120 x1 x2 x3 x4 x5 x6 x7 t1 (t2 + t3) x3 (((σ.1 17 x1.toNatClampNeg) - (σ.1 17 x6.toNatClampNeg)) / 2) _ _ _ _ hW (lv_sub hl [0, 1, 2, 3, 4, 5, 6, 7] rfl) h
set_option maxRecDepth 4000 in
theorem w_X12_lay_141 (N : Nat) (hd : Int32 → Int32 → Int32 → Int32 → St → Option St) (rmH : Room) (hrm : rmH.cells = 0 ∧ rmH.slots = 0 ∧ 1 ≤ rmH.frames ∧ 26 ≤ rmH.locals) (hH : ∀ (a0 : Int32) (a1 : Int32) (a2 : Int32) (a3 : Int32) (σ : St) {σ' : St}, hd a0 a1 a2 a3 σ = some σ' → xM l KM g yX12_lay cX12_lay 8 none rmH [.ref (g.q 0), .int a0, .int a1, .int a2, .int a3] σ none σ') (k120 : Int32 → Int32 → Int32 → Int32 → Int32 → Int32 → St → Option St) {σ' : St} (C : xC KM g RX12 cX12_lay 8 none p s m args meth c) (hk120 : ∀ (x1 : Int32) (x2 : Int32) (x3 : Int32) (x4 : Int32) (x5 : Int32) (x6 : Int32) (σ : St) (H : Heap) (locs : List Loc) (ls : Array Slot), xW KM g s σ H locs → lv_has ls 8 [(0, .ref (g.q 0)), (1, .int x1), (2, .int x2), (3, .int x3), (4, .int x4), (5, .int x5), (6, .int x6)] → k120 x1 x2 x3 x4 x5 x6 σ = some σ' → W p l e (xrm rmH 1 27) s m args below meth c H locs 0 0 (MQ below (xPost KM g none σ') args s 0 0 (xA KM g.q)) (F0 m 120 ls [])) : ∀ (x1 : Int32) (x2 : Int32) (x3 : Int32) (x4 : Int32) (x5 : Int32) (x6 : Int32) (t0 : Int32) (σ : St) (H : Heap) (locs : List Loc) (ls : Array Slot), xW KM g s σ H locs → lv_has ls 8 [(0, .ref (g.q 0)), (1, .int x1), (2, .int x2), (3, .int x3), (4, .int x4), (5, .int x5), (6, .int x6)] → f_X12_lay_141 N hd k120 x1 x2 x3 x4 x5 x6 t0 σ = some σ' → W p l e (xrm rmH 1 27) s m args below meth c H locs 0 0 (MQ below (xPost KM g none σ') args s 0 0 (xA KM g.q)) (F0 m 141 ls [.int t0]) := by
  have hx := C.1
  have hb := C.2.1
  intro x1 x2 x3 x4 x5 x6 t0 σ H locs ls hW hl h
  unfold f_X12_lay_141 at h
  refine lv_istore (lv' := [(7, .int t0), (0, .ref (g.q 0)), (1, .int x1), (2, .int x2), (3, .int x3), (4, .int x4), (5, .int x5), (6, .int x6)]) hx hb dX12_lay_141 hl (Nat.le_of_ble_eq_true rfl) rfl (fun ls hl => ?_)
  refine lv_aload_n hx hb dX12_lay_143 rfl (lv_at hl 1 rfl) ?_
  refine lv_iload hx hb dX12_lay_144 (lv_at hl 7 rfl) ?_
  refine lv_iload_n hx hb dX12_lay_146 rfl (lv_at hl 3 rfl) ?_
  refine lv_iload hx hb dX12_lay_147 (lv_at hl 0 rfl) ?_
  refine lv_if_eq (tgt := 157) hx hb dX12_lay_149 (by decide) (fun c22 => ?_) (fun c22 => ?_)
  · have h := xit c22 h
    refine lv_aload_n hx hb dX12_lay_157 rfl (lv_at hl 1 rfl) ?_
    refine xg_r C hW fg_12_61 KM_0 rfl dX12_lay_158 ?_
    refine lv_iload_n hx hb dX12_lay_161 rfl (lv_at hl 2 rfl) ?_
    obtain ⟨g23, h⟩ := xgd h
    refine xa_i C hW KM_16 g23 (x := σ.1 16 x1.toNatClampNeg) rfl dX12_lay_162 ?_
    refine lv_aload_n hx hb dX12_lay_163 rfl (lv_at hl 1 rfl) ?_
    refine xg_r C hW fg_12_61 KM_0 rfl dX12_lay_164 ?_
    refine lv_iload hx hb dX12_lay_167 (lv_at hl 7 rfl) ?_
    obtain ⟨g24, h⟩ := xgd h
    refine xa_i C hW KM_16 g24 (x := σ.1 16 x6.toNatClampNeg) rfl dX12_lay_169 ?_
    refine lv_isub hx hb dX12_lay_170 ?_
    refine lv_iconst (v := 2) hx hb dX12_lay_171 rfl ?_
    refine lv_idiv hx hb dX12_lay_172 (by decide) ?_
    exact w_X12_lay_173 N hd rmH hrm hH k120 C hk120 x1 x2 x3 x4 x5 x6 t0 x6 x2 (((σ.1 16 x1.toNatClampNeg) - (σ.1 16 x6.toNatClampNeg)) / 2) _ _ _ _ hW (lv_sub hl [1, 2, 3, 4, 5, 6, 7, 0] rfl) h
  · have h := xif c22 h
    refine lv_iload hx hb dX12_lay_152 (lv_at hl 6 rfl) ?_
    refine lv_goto (tgt := 173) hx hb dX12_lay_154 (by decide) ?_
    exact w_X12_lay_173 N hd rmH hrm hH k120 C hk120 x1 x2 x3 x4 x5 x6 t0 x6 x2 x5 _ _ _ _ hW (lv_sub hl [1, 2, 3, 4, 5, 6, 7, 0] rfl) h
set_option maxRecDepth 4000 in
theorem w_X12_lay_120 (N : Nat) (hd : Int32 → Int32 → Int32 → Int32 → St → Option St) (rmH : Room) (hrm : rmH.cells = 0 ∧ rmH.slots = 0 ∧ 1 ≤ rmH.frames ∧ 26 ≤ rmH.locals) (hH : ∀ (a0 : Int32) (a1 : Int32) (a2 : Int32) (a3 : Int32) (σ : St) {σ' : St}, hd a0 a1 a2 a3 σ = some σ' → xM l KM g yX12_lay cX12_lay 8 none rmH [.ref (g.q 0), .int a0, .int a1, .int a2, .int a3] σ none σ') {σ' : St} (C : xC KM g RX12 cX12_lay 8 none p s m args meth c) : ∀ (n : Nat), ∀ (x1 : Int32) (x2 : Int32) (x3 : Int32) (x4 : Int32) (x5 : Int32) (x6 : Int32) (σ : St) (H : Heap) (locs : List Loc) (ls : Array Slot), xW KM g s σ H locs → lv_has ls 8 [(0, .ref (g.q 0)), (1, .int x1), (2, .int x2), (3, .int x3), (4, .int x4), (5, .int x5), (6, .int x6)] → f_X12_lay_120 N hd n x1 x2 x3 x4 x5 x6 σ = some σ' → W p l e (xrm rmH 1 27) s m args below meth c H locs 0 0 (MQ below (xPost KM g none σ') args s 0 0 (xA KM g.q)) (F0 m 120 ls []) := by
  have hx := C.1
  have hb := C.2.1
  intro n
  induction n with
  | zero => intro x1 x2 x3 x4 x5 x6 σ H locs ls hW hl h; rw [f_X12_lay_120] at h; cases h
  | succ n ih =>
    intro x1 x2 x3 x4 x5 x6 σ H locs ls hW hl h
    rw [f_X12_lay_120] at h
    refine lv_iload hx hb dX12_lay_120 (lv_at hl 6 rfl) ?_
    refine lv_iconst (v := (-1)) hx hb dX12_lay_122 rfl ?_
    refine lv_icmp_eq (tgt := 253) hx hb dX12_lay_123 (by decide) (fun c19 => ?_) (fun c19 => ?_)
    · have h := xit c19 h
      cases h
      exact xr_v C hW dX12_lay_253
    · have h := xif c19 h
      refine lv_aload_n hx hb dX12_lay_126 rfl (lv_at hl 0 rfl) ?_
      refine xg_r C hW fg_12_46 KM_0 rfl dX12_lay_127 ?_
      refine lv_iload_n hx hb dX12_lay_130 rfl (lv_at hl 1 rfl) ?_
      obtain ⟨g20, h⟩ := xgd h
      refine xa_i C hW KM_11 g20 (x := σ.1 11 x1.toNatClampNeg) rfl dX12_lay_131 ?_
      refine lv_iconst (v := 1) hx hb dX12_lay_132 rfl ?_
      refine lv_icmp_ne (tgt := 140) hx hb dX12_lay_133 (by decide) (fun c21 => ?_) (fun c21 => ?_)
      · have h := xif c21 h
        refine lv_iconst (v := 0) hx hb dX12_lay_140 rfl ?_
        exact w_X12_lay_141 N hd rmH hrm hH (f_X12_lay_120 N hd n) C ih x1 x2 x3 x4 x5 x6 0 _ _ _ _ hW (lv_sub hl [0, 1, 2, 3, 4, 5, 6] rfl) h
      · have h := xit c21 h
        refine lv_iconst (v := 1) hx hb dX12_lay_136 rfl ?_
        refine lv_goto (tgt := 141) hx hb dX12_lay_137 (by decide) ?_
        exact w_X12_lay_141 N hd rmH hrm hH (f_X12_lay_120 N hd n) C ih x1 x2 x3 x4 x5 x6 1 _ _ _ _ hW (lv_sub hl [0, 1, 2, 3, 4, 5, 6] rfl) h
set_option maxRecDepth 4000 in
theorem m_X12_lay_b (N : Nat) (hd : Int32 → Int32 → Int32 → Int32 → St → Option St) (rmH : Room) (hrm : rmH.cells = 0 ∧ rmH.slots = 0 ∧ 1 ≤ rmH.frames ∧ 26 ≤ rmH.locals) (hH : ∀ (a0 : Int32) (a1 : Int32) (a2 : Int32) (a3 : Int32) (σ : St) {σ' : St}, hd a0 a1 a2 a3 σ = some σ' → xM l KM g yX12_lay cX12_lay 8 none rmH [.ref (g.q 0), .int a0, .int a1, .int a2, .int a3] σ none σ') (x1 : Int32) (x2 : Int32) (x3 : Int32) (x4 : Int32) (σ : St) {σ' : St} (h : f_X12_lay_b N hd x1 x2 x3 x4 σ = some σ') : xM l KM g yX12_lay cX12_lay 8 none (xrm rmH 1 27) [.ref (g.q 0), .int x1, .int x2, .int x3, .int x4] σ none σ' := by
  refine xmet pn_X12 rfl (Nat.le_of_ble_eq_true rfl) (lv := [(0, .ref (g.q 0)), (1, .int x1), (2, .int x2), (3, .int x3), (4, .int x4)]) rfl (fun p e s m args below meth c ls C hW hl => ?_)
  have hx := C.1
  have hb := C.2.1
  unfold f_X12_lay_b at h
  refine lv_aload_n hx hb dX12_lay_0 rfl (lv_at hl 0 rfl) ?_
  refine xg_r C hW fg_12_46 KM_0 rfl dX12_lay_1 ?_
  refine lv_iload_n hx hb dX12_lay_4 rfl (lv_at hl 1 rfl) ?_
  obtain ⟨g1, h⟩ := xgd h
  refine xa_i C hW KM_11 g1 (x := σ.1 11 x1.toNatClampNeg) rfl dX12_lay_5 ?_
  refine lv_if_ne (tgt := 109) hx hb dX12_lay_6 (by decide) (fun c2 => ?_) (fun c2 => ?_)
  · have h := xif c2 h
    refine lv_iconst (v := 0) hx hb dX12_lay_109 rfl ?_
    refine lv_istore (lv' := [(5, .int 0), (0, .ref (g.q 0)), (1, .int x1), (2, .int x2), (3, .int x3), (4, .int x4)]) hx hb dX12_lay_110 hl (Nat.le_of_ble_eq_true rfl) rfl (fun ls hl => ?_)
    refine lv_aload_n hx hb dX12_lay_112 rfl (lv_at hl 1 rfl) ?_
    refine xg_r C hW fg_12_55 KM_0 rfl dX12_lay_113 ?_
    refine lv_iload_n hx hb dX12_lay_116 rfl (lv_at hl 2 rfl) ?_
    obtain ⟨g3, h⟩ := xgd h
    refine xa_i C hW KM_14 g3 (x := σ.1 14 x1.toNatClampNeg) rfl dX12_lay_117 ?_
    refine lv_istore (lv' := [(6, .int (σ.1 14 x1.toNatClampNeg)), (5, .int 0), (0, .ref (g.q 0)), (1, .int x1), (2, .int x2), (3, .int x3), (4, .int x4)]) hx hb dX12_lay_118 hl (Nat.le_of_ble_eq_true rfl) rfl (fun ls hl => ?_)
    exact w_X12_lay_120 N hd rmH hrm hH C N x1 x2 x3 x4 0 (σ.1 14 x1.toNatClampNeg) _ _ _ _ hW (lv_sub hl [2, 3, 4, 5, 6, 1, 0] rfl) h
  · have h := xit c2 h
    refine lv_aload_n hx hb dX12_lay_9 rfl (lv_at hl 0 rfl) ?_
    refine lv_aload_n hx hb dX12_lay_10 rfl (lv_at hl 0 rfl) ?_
    refine xg_r C hW fg_12_49 KM_0 rfl dX12_lay_11 ?_
    refine lv_iload_n hx hb dX12_lay_14 rfl (lv_at hl 1 rfl) ?_
    obtain ⟨g4, h⟩ := xgd h
    refine xa_i C hW KM_12 g4 (x := σ.1 12 x1.toNatClampNeg) rfl dX12_lay_15 ?_
    refine lv_iload hx hb dX12_lay_16 (lv_at hl 4 rfl) ?_
    refine lv_iload_n hx hb dX12_lay_18 rfl (lv_at hl 2 rfl) ?_
    refine lv_iload_n hx hb dX12_lay_19 rfl (lv_at hl 3 rfl) ?_
    refine lv_aload_n hx hb dX12_lay_20 rfl (lv_at hl 0 rfl) ?_
    refine xg_r C hW fg_12_61 KM_0 rfl dX12_lay_21 ?_
    refine lv_iload_n hx hb dX12_lay_24 rfl (lv_at hl 1 rfl) ?_
    obtain ⟨g5, h⟩ := xgd h
    refine xa_i C hW KM_16 g5 (x := σ.1 16 x1.toNatClampNeg) rfl dX12_lay_25 ?_
    refine lv_aload_n hx hb dX12_lay_26 rfl (lv_at hl 0 rfl) ?_
    refine xg_r C hW fg_12_64 KM_0 rfl dX12_lay_27 ?_
    refine lv_iload_n hx hb dX12_lay_30 rfl (lv_at hl 1 rfl) ?_
    obtain ⟨g6, h⟩ := xgd h
    refine xa_i C hW KM_17 g6 (x := σ.1 17 x1.toNatClampNeg) rfl dX12_lay_31 ?_
    obtain ⟨σ7, e7, h⟩ := xbo h
    refine xc_V (As := [.int (σ.1 12 x1.toNatClampNeg), .int x4, .int x2, .int x3, .int (σ.1 16 x1.toNatClampNeg), .int (σ.1 17 x1.toNatClampNeg)]) (rest := []) C hW (m_X12_layOne (σ.1 12 x1.toNatClampNeg) x4 x2 x3 (σ.1 16 x1.toNatClampNeg) (σ.1 17 x1.toNatClampNeg) _ e7) mf_X12_layOne mv_X12_layOne ml_X12_384 ⟨rfl, rfl⟩ ⟨xle1 hrm.2.2.1 (Nat.le_of_ble_eq_true rfl), xle1 hrm.2.2.2 (Nat.le_of_ble_eq_true rfl)⟩ KM_0 rfl hl.1 rfl rfl (Nat.le_of_ble_eq_true rfl) dX12_lay_32 (fun H locs hW => W.eq (g2 := F0 m 35 ls []) rfl ?_)
    refine lv_aload_n hx hb dX12_lay_35 rfl (lv_at hl 0 rfl) ?_
    refine xg_r C hW fg_12_52 KM_0 rfl dX12_lay_36 ?_
    refine lv_iload_n hx hb dX12_lay_39 rfl (lv_at hl 1 rfl) ?_
    obtain ⟨g8, h⟩ := xgd h
    refine xa_i C hW KM_13 g8 (x := σ7.1 13 x1.toNatClampNeg) rfl dX12_lay_40 ?_
    refine lv_iconst (v := (-1)) hx hb dX12_lay_41 rfl ?_
    refine lv_icmp_ne (tgt := 46) hx hb dX12_lay_42 (by decide) (fun c9 => ?_) (fun c9 => ?_)
    · have h := xif c9 h
      refine lv_iconst (v := 1) hx hb dX12_lay_46 rfl ?_
      refine lv_aload_n hx hb dX12_lay_47 rfl (lv_at hl 0 rfl) ?_
      refine xg_r C hW fg_12_28 KM_0 rfl dX12_lay_48 ?_
      refine lv_aload_n hx hb dX12_lay_51 rfl (lv_at hl 0 rfl) ?_
      refine xg_r C hW fg_12_52 KM_0 rfl dX12_lay_52 ?_
      refine lv_iload_n hx hb dX12_lay_55 rfl (lv_at hl 1 rfl) ?_
      obtain ⟨g10, h⟩ := xgd h
      refine xa_i C hW KM_13 g10 (x := σ7.1 13 x1.toNatClampNeg) rfl dX12_lay_56 ?_
      obtain ⟨g11, h⟩ := xgd h
      refine xa_i C hW KM_5 g11 (x := σ7.1 5 (σ7.1 13 x1.toNatClampNeg).toNatClampNeg) rfl dX12_lay_57 ?_
      refine lv_iconst (v := 2) hx hb dX12_lay_58 rfl ?_
      refine lv_idiv hx hb dX12_lay_59 (by decide) ?_
      refine xc_S (As := [.int 1, .int ((σ7.1 5 (σ7.1 13 x1.toNatClampNeg).toNatClampNeg) / 2)]) (rest := []) C hW (m_X12_greater 1 ((σ7.1 5 (σ7.1 13 x1.toNatClampNeg).toNatClampNeg) / 2) _ rfl) mf_X12_greater mt_X12_greater ml_X12_381 ⟨rfl, rfl⟩ ⟨xle1 hrm.2.2.1 (Nat.le_of_ble_eq_true rfl), xle1 hrm.2.2.2 (Nat.le_of_ble_eq_true rfl)⟩ hl.1 rfl rfl (Nat.le_of_ble_eq_true rfl) dX12_lay_60 (fun H locs hW => W.eq (g2 := F0 m 63 ls [.int (f_X12_greater 1 ((σ7.1 5 (σ7.1 13 x1.toNatClampNeg).toNatClampNeg) / 2) σ7)]) rfl ?_)
      refine lv_istore (lv' := [(5, .int (f_X12_greater 1 ((σ7.1 5 (σ7.1 13 x1.toNatClampNeg).toNatClampNeg) / 2) σ7)), (0, .ref (g.q 0)), (1, .int x1), (2, .int x2), (3, .int x3), (4, .int x4)]) hx hb dX12_lay_63 hl (Nat.le_of_ble_eq_true rfl) rfl (fun ls hl => ?_)
      refine lv_aload_n hx hb dX12_lay_65 rfl (lv_at hl 1 rfl) ?_
      refine lv_aload_n hx hb dX12_lay_66 rfl (lv_at hl 1 rfl) ?_
      refine xg_r C hW fg_12_52 KM_0 rfl dX12_lay_67 ?_
      refine lv_iload_n hx hb dX12_lay_70 rfl (lv_at hl 2 rfl) ?_
      obtain ⟨g13, h⟩ := xgd h
      refine xa_i C hW KM_13 g13 (x := σ7.1 13 x1.toNatClampNeg) rfl dX12_lay_71 ?_
      refine lv_iload hx hb dX12_lay_72 (lv_at hl 5 rfl) ?_
      refine lv_iload_n hx hb dX12_lay_74 rfl (lv_at hl 3 rfl) ?_
      refine lv_aload_n hx hb dX12_lay_75 rfl (lv_at hl 1 rfl) ?_
      refine xg_r C hW fg_12_61 KM_0 rfl dX12_lay_76 ?_
      refine lv_iload_n hx hb dX12_lay_79 rfl (lv_at hl 2 rfl) ?_
      obtain ⟨g14, h⟩ := xgd h
      refine xa_i C hW KM_16 g14 (x := σ7.1 16 x1.toNatClampNeg) rfl dX12_lay_80 ?_
      refine lv_iadd hx hb dX12_lay_81 ?_
      refine lv_iload hx hb dX12_lay_82 (lv_at hl 0 rfl) ?_
      refine lv_isub hx hb dX12_lay_84 ?_
      refine lv_iload_n hx hb dX12_lay_85 rfl (lv_at hl 4 rfl) ?_
      refine lv_iload hx hb dX12_lay_86 (lv_at hl 0 rfl) ?_
      refine lv_iconst (v := 1) hx hb dX12_lay_88 rfl ?_
      refine lv_aload_n hx hb dX12_lay_89 rfl (lv_at hl 1 rfl) ?_
      refine xg_r C hW fg_12_31 KM_0 rfl dX12_lay_90 ?_
      refine lv_aload_n hx hb dX12_lay_93 rfl (lv_at hl 1 rfl) ?_
      refine xg_r C hW fg_12_52 KM_0 rfl dX12_lay_94 ?_
      refine lv_iload_n hx hb dX12_lay_97 rfl (lv_at hl 2 rfl) ?_
      obtain ⟨g15, h⟩ := xgd h
      refine xa_i C hW KM_13 g15 (x := σ7.1 13 x1.toNatClampNeg) rfl dX12_lay_98 ?_
      obtain ⟨g16, h⟩ := xgd h
      refine xa_i C hW KM_6 g16 (x := σ7.1 6 (σ7.1 13 x1.toNatClampNeg).toNatClampNeg) rfl dX12_lay_99 ?_
      refine lv_iconst (v := 2) hx hb dX12_lay_100 rfl ?_
      refine lv_idiv hx hb dX12_lay_101 (by decide) ?_
      refine xc_S (As := [.int 1, .int ((σ7.1 6 (σ7.1 13 x1.toNatClampNeg).toNatClampNeg) / 2)]) (rest := [.int (f_X12_greater 1 ((σ7.1 5 (σ7.1 13 x1.toNatClampNeg).toNatClampNeg) / 2) σ7), .int x3, .int ((x2 + (σ7.1 16 x1.toNatClampNeg)) - (f_X12_greater 1 ((σ7.1 5 (σ7.1 13 x1.toNatClampNeg).toNatClampNeg) / 2) σ7)), .int x4, .int (σ7.1 13 x1.toNatClampNeg), .ref (g.q 0)]) C hW (m_X12_greater 1 ((σ7.1 6 (σ7.1 13 x1.toNatClampNeg).toNatClampNeg) / 2) _ rfl) mf_X12_greater mt_X12_greater ml_X12_381 ⟨rfl, rfl⟩ ⟨xle1 hrm.2.2.1 (Nat.le_of_ble_eq_true rfl), xle1 hrm.2.2.2 (Nat.le_of_ble_eq_true rfl)⟩ hl.1 rfl rfl (Nat.le_of_ble_eq_true rfl) dX12_lay_102 (fun H locs hW => W.eq (g2 := F0 m 105 ls [.int (f_X12_greater 1 ((σ7.1 6 (σ7.1 13 x1.toNatClampNeg).toNatClampNeg) / 2) σ7), .int (f_X12_greater 1 ((σ7.1 5 (σ7.1 13 x1.toNatClampNeg).toNatClampNeg) / 2) σ7), .int x3, .int ((x2 + (σ7.1 16 x1.toNatClampNeg)) - (f_X12_greater 1 ((σ7.1 5 (σ7.1 13 x1.toNatClampNeg).toNatClampNeg) / 2) σ7)), .int x4, .int (σ7.1 13 x1.toNatClampNeg), .ref (g.q 0)]) rfl ?_)
      obtain ⟨σ18, e18, h⟩ := xbo h
      refine xc_V (As := [.int (σ7.1 13 x1.toNatClampNeg), .int x4, .int ((x2 + (σ7.1 16 x1.toNatClampNeg)) - (f_X12_greater 1 ((σ7.1 5 (σ7.1 13 x1.toNatClampNeg).toNatClampNeg) / 2) σ7)), .int x3, .int (f_X12_greater 1 ((σ7.1 5 (σ7.1 13 x1.toNatClampNeg).toNatClampNeg) / 2) σ7), .int (f_X12_greater 1 ((σ7.1 6 (σ7.1 13 x1.toNatClampNeg).toNatClampNeg) / 2) σ7)]) (rest := []) C hW (m_X12_layOne (σ7.1 13 x1.toNatClampNeg) x4 ((x2 + (σ7.1 16 x1.toNatClampNeg)) - (f_X12_greater 1 ((σ7.1 5 (σ7.1 13 x1.toNatClampNeg).toNatClampNeg) / 2) σ7)) x3 (f_X12_greater 1 ((σ7.1 5 (σ7.1 13 x1.toNatClampNeg).toNatClampNeg) / 2) σ7) (f_X12_greater 1 ((σ7.1 6 (σ7.1 13 x1.toNatClampNeg).toNatClampNeg) / 2) σ7) _ e18) mf_X12_layOne mv_X12_layOne ml_X12_384 ⟨rfl, rfl⟩ ⟨xle1 hrm.2.2.1 (Nat.le_of_ble_eq_true rfl), xle1 hrm.2.2.2 (Nat.le_of_ble_eq_true rfl)⟩ KM_0 rfl hl.1 rfl rfl (Nat.le_of_ble_eq_true rfl) dX12_lay_105 (fun H locs hW => W.eq (g2 := F0 m 108 ls []) rfl ?_)
      cases h
      exact xr_v C hW dX12_lay_108
    · have h := xit c9 h
      cases h
      exact xr_v C hW dX12_lay_45
theorem m_X12_lay (N : Nat) (d : Nat) (x1 : Int32) (x2 : Int32) (x3 : Int32) (x4 : Int32) (σ : St) {σ' : St} (h : f_X12_lay N d x1 x2 x3 x4 σ = some σ') : xM l KM g yX12_lay cX12_lay 8 none (rd_X12_lay d) [.ref (g.q 0), .int x1, .int x2, .int x3, .int x4] σ none σ' := by
  induction d generalizing x1 x2 x3 x4 σ σ' with
  | zero => rw [f_X12_lay] at h; cases h
  | succ d ih =>
    rw [f_X12_lay] at h
    exact m_X12_lay_b N (f_X12_lay N d) (rd_X12_lay d) (rd_X12_lay_ok d) (fun x1 x2 x3 x4 σ _ => ih x1 x2 x3 x4 σ) x1 x2 x3 x4 σ h
end
theorem dX12_readBlocks_0 : decode cX12_readBlocks 0 = .ok (.iconst 0, 1) := by decide +kernel
theorem dX12_readBlocks_1 : decode cX12_readBlocks 1 = .ok (.istore_n 1, 1) := by decide +kernel
theorem dX12_readBlocks_2 : decode cX12_readBlocks 2 = .ok (.aload_n 0, 1) := by decide +kernel
theorem dX12_readBlocks_3 : decode cX12_readBlocks 3 = .ok (.getfield 264, 3) := by decide +kernel
theorem dX12_readBlocks_6 : decode cX12_readBlocks 6 = .ok (.iconst 1, 1) := by decide +kernel
theorem dX12_readBlocks_7 : decode cX12_readBlocks 7 = .ok (.if_icmp .eq 18, 3) := by decide +kernel
theorem dX12_readBlocks_10 : decode cX12_readBlocks 10 = .ok (.aload_n 0, 1) := by decide +kernel
theorem dX12_readBlocks_11 : decode cX12_readBlocks 11 = .ok (.getfield 264, 3) := by decide +kernel
theorem dX12_readBlocks_14 : decode cX12_readBlocks 14 = .ok (.bipush 8, 2) := by decide +kernel
theorem dX12_readBlocks_16 : decode cX12_readBlocks 16 = .ok (.if_icmp .eq 9, 3) := by decide +kernel
theorem dX12_readBlocks_19 : decode cX12_readBlocks 19 = .ok (.aload_n 0, 1) := by decide +kernel
theorem dX12_readBlocks_20 : decode cX12_readBlocks 20 = .ok (.iconst 1, 1) := by decide +kernel
theorem dX12_readBlocks_21 : decode cX12_readBlocks 21 = .ok (.invokevirtual 292, 3) := by decide +kernel
theorem dX12_readBlocks_24 : decode cX12_readBlocks 24 = .ok (.ireturn, 1) := by decide +kernel
theorem dX12_readBlocks_25 : decode cX12_readBlocks 25 = .ok (.iload_n 1, 1) := by decide +kernel
theorem dX12_readBlocks_26 : decode cX12_readBlocks 26 = .ok (.bipush 12, 2) := by decide +kernel
theorem dX12_readBlocks_28 : decode cX12_readBlocks 28 = .ok (.if_icmp .ne 9, 3) := by decide +kernel
theorem dX12_readBlocks_31 : decode cX12_readBlocks 31 = .ok (.aload_n 0, 1) := by decide +kernel
theorem dX12_readBlocks_32 : decode cX12_readBlocks 32 = .ok (.iconst 4, 1) := by decide +kernel
theorem dX12_readBlocks_33 : decode cX12_readBlocks 33 = .ok (.invokevirtual 292, 3) := by decide +kernel
theorem dX12_readBlocks_36 : decode cX12_readBlocks 36 = .ok (.ireturn, 1) := by decide +kernel
theorem dX12_readBlocks_37 : decode cX12_readBlocks 37 = .ok (.aload_n 0, 1) := by decide +kernel
theorem dX12_readBlocks_38 : decode cX12_readBlocks 38 = .ok (.invokevirtual 359, 3) := by decide +kernel
theorem dX12_readBlocks_41 : decode cX12_readBlocks 41 = .ok (.ifCond .ne 5, 3) := by decide +kernel
theorem dX12_readBlocks_44 : decode cX12_readBlocks 44 = .ok (.iconst 0, 1) := by decide +kernel
theorem dX12_readBlocks_45 : decode cX12_readBlocks 45 = .ok (.ireturn, 1) := by decide +kernel
theorem dX12_readBlocks_46 : decode cX12_readBlocks 46 = .ok (.aload_n 0, 1) := by decide +kernel
theorem dX12_readBlocks_47 : decode cX12_readBlocks 47 = .ok (.getfield 100, 3) := by decide +kernel
theorem dX12_readBlocks_50 : decode cX12_readBlocks 50 = .ok (.iload_n 1, 1) := by decide +kernel
theorem dX12_readBlocks_51 : decode cX12_readBlocks 51 = .ok (.aload_n 0, 1) := by decide +kernel
theorem dX12_readBlocks_52 : decode cX12_readBlocks 52 = .ok (.getfield 368, 3) := by decide +kernel
theorem dX12_readBlocks_55 : decode cX12_readBlocks 55 = .ok (.iastore, 1) := by decide +kernel
theorem dX12_readBlocks_56 : decode cX12_readBlocks 56 = .ok (.iinc 1 1, 3) := by decide +kernel
theorem dX12_readBlocks_59 : decode cX12_readBlocks 59 = .ok (.aload_n 0, 1) := by decide +kernel
theorem dX12_readBlocks_60 : decode cX12_readBlocks 60 = .ok (.getfield 264, 3) := by decide +kernel
theorem dX12_readBlocks_63 : decode cX12_readBlocks 63 = .ok (.bipush 10, 2) := by decide +kernel
theorem dX12_readBlocks_65 : decode cX12_readBlocks 65 = .ok (.if_icmp .ne 6, 3) := by decide +kernel
theorem dX12_readBlocks_68 : decode cX12_readBlocks 68 = .ok (.goto 25, 3) := by decide +kernel
theorem dX12_readBlocks_71 : decode cX12_readBlocks 71 = .ok (.aload_n 0, 1) := by decide +kernel
theorem dX12_readBlocks_72 : decode cX12_readBlocks 72 = .ok (.getfield 264, 3) := by decide +kernel
theorem dX12_readBlocks_75 : decode cX12_readBlocks 75 = .ok (.bipush 7, 2) := by decide +kernel
theorem dX12_readBlocks_77 : decode cX12_readBlocks 77 = .ok (.if_icmp .eq 9, 3) := by decide +kernel
theorem dX12_readBlocks_80 : decode cX12_readBlocks 80 = .ok (.aload_n 0, 1) := by decide +kernel
theorem dX12_readBlocks_81 : decode cX12_readBlocks 81 = .ok (.iconst 1, 1) := by decide +kernel
theorem dX12_readBlocks_82 : decode cX12_readBlocks 82 = .ok (.invokevirtual 292, 3) := by decide +kernel
theorem dX12_readBlocks_85 : decode cX12_readBlocks 85 = .ok (.ireturn, 1) := by decide +kernel
theorem dX12_readBlocks_86 : decode cX12_readBlocks 86 = .ok (.aload_n 0, 1) := by decide +kernel
theorem dX12_readBlocks_87 : decode cX12_readBlocks 87 = .ok (.invokevirtual 239, 3) := by decide +kernel
theorem dX12_readBlocks_90 : decode cX12_readBlocks 90 = .ok (.goto (-88), 3) := by decide +kernel
theorem dX12_readBlocks_93 : decode cX12_readBlocks 93 = .ok (.aload_n 0, 1) := by decide +kernel
theorem dX12_readBlocks_94 : decode cX12_readBlocks 94 = .ok (.iload_n 1, 1) := by decide +kernel
theorem dX12_readBlocks_95 : decode cX12_readBlocks 95 = .ok (.putfield 299, 3) := by decide +kernel
theorem dX12_readBlocks_98 : decode cX12_readBlocks 98 = .ok (.iconst 1, 1) := by decide +kernel
theorem dX12_readBlocks_99 : decode cX12_readBlocks 99 = .ok (.ireturn, 1) := by decide +kernel
abbrev rm_X12_readBlocks : Room := { frames := 69, cells := 0, slots := 0, locals := 1575 }
def f_X12_readBlocks_25 (N : Nat) (k2 : Int32 → St → Option (Int32 × St)) (x1 : Int32) (σ : St) : Option (Int32 × St) := (if x1 = 12 then bd (f_X12_fails 4 σ) (fun r14_ σ14 => grd (zbb r14_) (some (r14_, σ14))) else bd (f_X12_readBlock N (f_X12_readRowOf N 20) σ) (fun r6_ σ6 => (if r6_ = 0 then some (0, σ6) else grd (ib x1 12) ((if (σ6.1 1003 0) = 10 then some (1, (si (si σ6 29 x1.toNatClampNeg (σ6.1 1034 0)) 1011 0 (x1 + 1))) else (if (σ6.1 1003 0) = 7 then bo (f_X12_scan N (si σ6 29 x1.toNatClampNeg (σ6.1 1034 0))) (fun σ11 => k2 (x1 + 1) σ11) else bd (f_X12_fails 1 (si σ6 29 x1.toNatClampNeg (σ6.1 1034 0))) (fun r12_ σ12 => grd (zbb r12_) (some (r12_, σ12)))))))))
def f_X12_readBlocks_2 (N : Nat) : Nat → Int32 → St → Option (Int32 × St)
  | 0, _, _ => none
  | n + 1, x1, σ => (if (σ.1 1003 0) = 1 then f_X12_readBlocks_25 N (f_X12_readBlocks_2 N n) x1 σ else (if (σ.1 1003 0) = 8 then f_X12_readBlocks_25 N (f_X12_readBlocks_2 N n) x1 σ else bd (f_X12_fails 1 σ) (fun r3_ σ3 => grd (zbb r3_) (some (r3_, σ3)))))
def f_X12_readBlocks (N : Nat) (σ : St) : Option (Int32 × St) := f_X12_readBlocks_2 N N 0 σ
section
variable {p : Program} {l : Launch} {e : Env} {s : State} {m : MethodId} {args : Array Value} {below : List Frame} {meth : Method} {c : Code} {g : XG}
set_option maxRecDepth 4000 in
theorem w_X12_readBlocks_25 (N : Nat) (k2 : Int32 → St → Option (Int32 × St)) {r : Int32} {σ' : St} (C : xC KM g RX12 cX12_readBlocks 2 (some .boolean) p s m args meth c) (hk2 : ∀ (x1 : Int32) (σ : St) (H : Heap) (locs : List Loc) (ls : Array Slot), xW KM g s σ H locs → lv_has ls 2 [(0, .ref (g.q 0)), (1, .int x1)] → k2 x1 σ = some (r, σ') → W p l e rm_X12_readBlocks s m args below meth c H locs 0 0 (MQ below (xPost KM g (some (.int r)) σ') args s 0 0 (xA KM g.q)) (F0 m 2 ls [])) : ∀ (x1 : Int32) (σ : St) (H : Heap) (locs : List Loc) (ls : Array Slot), xW KM g s σ H locs → lv_has ls 2 [(0, .ref (g.q 0)), (1, .int x1)] → f_X12_readBlocks_25 N k2 x1 σ = some (r, σ') → W p l e rm_X12_readBlocks s m args below meth c H locs 0 0 (MQ below (xPost KM g (some (.int r)) σ') args s 0 0 (xA KM g.q)) (F0 m 25 ls []) := by
  have hx := C.1
  have hb := C.2.1
  intro x1 σ H locs ls hW hl h
  unfold f_X12_readBlocks_25 at h
  refine lv_iload_n hx hb dX12_readBlocks_25 rfl (lv_at hl 1 rfl) ?_
  refine lv_bipush (v := 12) hx hb dX12_readBlocks_26 rfl ?_
  refine lv_icmp_ne (tgt := 37) hx hb dX12_readBlocks_28 (by decide) (fun c5 => ?_) (fun c5 => ?_)
  · have h := xif c5 h
    refine lv_aload_n hx hb dX12_readBlocks_37 rfl (lv_at hl 0 rfl) ?_
    obtain ⟨r6_, σ6, e6, h⟩ := xbd h
    refine xc_V (As := []) (rest := []) C hW (m_X12_readBlock N (f_X12_readRowOf N 20) (rd_X12_readRowOf 20) (rd_X12_readRowOf_ok 20) (m_X12_readRowOf N 20) _ e6) mf_X12_readBlock mv_X12_readBlock ml_X12_359 ⟨rfl, rfl⟩ ⟨Nat.le_of_ble_eq_true rfl, Nat.le_of_ble_eq_true rfl⟩ KM_0 rfl hl.1 rfl rfl (Nat.le_of_ble_eq_true rfl) dX12_readBlocks_38 (fun H locs hW => W.eq (g2 := F0 m 41 ls [.int r6_]) rfl ?_)
    refine lv_if_ne (tgt := 46) hx hb dX12_readBlocks_41 (by decide) (fun c7 => ?_) (fun c7 => ?_)
    · have h := xif c7 h
      refine lv_aload_n hx hb dX12_readBlocks_46 rfl (lv_at hl 0 rfl) ?_
      refine xg_r C hW fg_12_100 KM_0 rfl dX12_readBlocks_47 ?_
      refine lv_iload_n hx hb dX12_readBlocks_50 rfl (lv_at hl 1 rfl) ?_
      refine lv_aload_n hx hb dX12_readBlocks_51 rfl (lv_at hl 0 rfl) ?_
      refine xg_i C hW fg_12_368 KM_0 rfl (v := 1034) rfl (x := σ6.1 1034 0) rfl dX12_readBlocks_52 ?_
      obtain ⟨g8, h⟩ := xgd h
      refine xs_i C hW KM_29 g8 dX12_readBlocks_55 (fun H locs hW => ?_)
      refine lv_iinc (v := x1 + 1) (lv' := [(1, .int (x1 + 1)), (0, .ref (g.q 0))]) hx hb dX12_readBlocks_56 hl (k := 1) rfl rfl (Nat.le_of_ble_eq_true rfl) rfl (fun ls hl => ?_)
      refine lv_aload_n hx hb dX12_readBlocks_59 rfl (lv_at hl 1 rfl) ?_
      refine xg_i C hW fg_12_264 KM_0 rfl (v := 1003) rfl (x := σ6.1 1003 0) rfl dX12_readBlocks_60 ?_
      refine lv_bipush (v := 10) hx hb dX12_readBlocks_63 rfl ?_
      refine lv_icmp_ne (tgt := 71) hx hb dX12_readBlocks_65 (by decide) (fun c9 => ?_) (fun c9 => ?_)
      · have h := xif c9 h
        refine lv_aload_n hx hb dX12_readBlocks_71 rfl (lv_at hl 1 rfl) ?_
        refine xg_i C hW fg_12_264 KM_0 rfl (v := 1003) rfl (x := σ6.1 1003 0) rfl dX12_readBlocks_72 ?_
        refine lv_bipush (v := 7) hx hb dX12_readBlocks_75 rfl ?_
        refine lv_icmp_eq (tgt := 86) hx hb dX12_readBlocks_77 (by decide) (fun c10 => ?_) (fun c10 => ?_)
        · have h := xit c10 h
          refine lv_aload_n hx hb dX12_readBlocks_86 rfl (lv_at hl 1 rfl) ?_
          obtain ⟨σ11, e11, h⟩ := xbo h
          refine xc_V (As := []) (rest := []) C hW (m_X12_scan N _ e11) mf_X12_scan mv_X12_scan ml_X12_239 ⟨rfl, rfl⟩ ⟨Nat.le_of_ble_eq_true rfl, Nat.le_of_ble_eq_true rfl⟩ KM_0 rfl hl.1 rfl rfl (Nat.le_of_ble_eq_true rfl) dX12_readBlocks_87 (fun H locs hW => W.eq (g2 := F0 m 90 ls []) rfl ?_)
          refine lv_goto (tgt := 2) hx hb dX12_readBlocks_90 (by decide) ?_
          exact hk2 (x1 + 1) _ _ _ _ hW (lv_sub hl [1, 0] rfl) h
        · have h := xif c10 h
          refine lv_aload_n hx hb dX12_readBlocks_80 rfl (lv_at hl 1 rfl) ?_
          refine lv_iconst (v := 1) hx hb dX12_readBlocks_81 rfl ?_
          obtain ⟨r12_, σ12, e12, h⟩ := xbd h
          refine xc_V (As := [.int 1]) (rest := []) C hW (m_X12_fails 1 _ e12) mf_X12_fails mv_X12_fails ml_X12_292 ⟨rfl, rfl⟩ ⟨Nat.le_of_ble_eq_true rfl, Nat.le_of_ble_eq_true rfl⟩ KM_0 rfl hl.1 rfl rfl (Nat.le_of_ble_eq_true rfl) dX12_readBlocks_82 (fun H locs hW => W.eq (g2 := F0 m 85 ls [.int r12_]) rfl ?_)
          obtain ⟨g13, h⟩ := xgd h
          cases h
          exact xr_z C hW g13 dX12_readBlocks_85
      · have h := xit c9 h
        refine lv_goto (tgt := 93) hx hb dX12_readBlocks_68 (by decide) ?_
        refine lv_aload_n hx hb dX12_readBlocks_93 rfl (lv_at hl 1 rfl) ?_
        refine lv_iload_n hx hb dX12_readBlocks_94 rfl (lv_at hl 0 rfl) ?_
        refine xp_i C hW fp_12_299 KM_0 rfl (v := 1011) rfl rfl rfl dX12_readBlocks_95 (fun H locs hW => ?_)
        refine lv_iconst (v := 1) hx hb dX12_readBlocks_98 rfl ?_
        cases h
        exact xr_z C hW (by decide) dX12_readBlocks_99
    · have h := xit c7 h
      refine lv_iconst (v := 0) hx hb dX12_readBlocks_44 rfl ?_
      cases h
      exact xr_z C hW (by decide) dX12_readBlocks_45
  · have h := xit c5 h
    refine lv_aload_n hx hb dX12_readBlocks_31 rfl (lv_at hl 0 rfl) ?_
    refine lv_iconst (v := 4) hx hb dX12_readBlocks_32 rfl ?_
    obtain ⟨r14_, σ14, e14, h⟩ := xbd h
    refine xc_V (As := [.int 4]) (rest := []) C hW (m_X12_fails 4 _ e14) mf_X12_fails mv_X12_fails ml_X12_292 ⟨rfl, rfl⟩ ⟨Nat.le_of_ble_eq_true rfl, Nat.le_of_ble_eq_true rfl⟩ KM_0 rfl hl.1 rfl rfl (Nat.le_of_ble_eq_true rfl) dX12_readBlocks_33 (fun H locs hW => W.eq (g2 := F0 m 36 ls [.int r14_]) rfl ?_)
    obtain ⟨g15, h⟩ := xgd h
    cases h
    exact xr_z C hW g15 dX12_readBlocks_36
set_option maxRecDepth 4000 in
theorem w_X12_readBlocks_2 (N : Nat) {r : Int32} {σ' : St} (C : xC KM g RX12 cX12_readBlocks 2 (some .boolean) p s m args meth c) : ∀ (n : Nat), ∀ (x1 : Int32) (σ : St) (H : Heap) (locs : List Loc) (ls : Array Slot), xW KM g s σ H locs → lv_has ls 2 [(0, .ref (g.q 0)), (1, .int x1)] → f_X12_readBlocks_2 N n x1 σ = some (r, σ') → W p l e rm_X12_readBlocks s m args below meth c H locs 0 0 (MQ below (xPost KM g (some (.int r)) σ') args s 0 0 (xA KM g.q)) (F0 m 2 ls []) := by
  have hx := C.1
  have hb := C.2.1
  intro n
  induction n with
  | zero => intro x1 σ H locs ls hW hl h; rw [f_X12_readBlocks_2] at h; cases h
  | succ n ih =>
    intro x1 σ H locs ls hW hl h
    rw [f_X12_readBlocks_2] at h
    refine lv_aload_n hx hb dX12_readBlocks_2 rfl (lv_at hl 0 rfl) ?_
    refine xg_i C hW fg_12_264 KM_0 rfl (v := 1003) rfl (x := σ.1 1003 0) rfl dX12_readBlocks_3 ?_
    refine lv_iconst (v := 1) hx hb dX12_readBlocks_6 rfl ?_
    refine lv_icmp_eq (tgt := 25) hx hb dX12_readBlocks_7 (by decide) (fun c1 => ?_) (fun c1 => ?_)
    · have h := xit c1 h
      exact w_X12_readBlocks_25 N (f_X12_readBlocks_2 N n) C ih x1 _ _ _ _ hW (lv_sub hl [0, 1] rfl) h
    · have h := xif c1 h
      refine lv_aload_n hx hb dX12_readBlocks_10 rfl (lv_at hl 0 rfl) ?_
      refine xg_i C hW fg_12_264 KM_0 rfl (v := 1003) rfl (x := σ.1 1003 0) rfl dX12_readBlocks_11 ?_
      refine lv_bipush (v := 8) hx hb dX12_readBlocks_14 rfl ?_
      refine lv_icmp_eq (tgt := 25) hx hb dX12_readBlocks_16 (by decide) (fun c2 => ?_) (fun c2 => ?_)
      · have h := xit c2 h
        exact w_X12_readBlocks_25 N (f_X12_readBlocks_2 N n) C ih x1 _ _ _ _ hW (lv_sub hl [0, 1] rfl) h
      · have h := xif c2 h
        refine lv_aload_n hx hb dX12_readBlocks_19 rfl (lv_at hl 0 rfl) ?_
        refine lv_iconst (v := 1) hx hb dX12_readBlocks_20 rfl ?_
        obtain ⟨r3_, σ3, e3, h⟩ := xbd h
        refine xc_V (As := [.int 1]) (rest := []) C hW (m_X12_fails 1 _ e3) mf_X12_fails mv_X12_fails ml_X12_292 ⟨rfl, rfl⟩ ⟨Nat.le_of_ble_eq_true rfl, Nat.le_of_ble_eq_true rfl⟩ KM_0 rfl hl.1 rfl rfl (Nat.le_of_ble_eq_true rfl) dX12_readBlocks_21 (fun H locs hW => W.eq (g2 := F0 m 24 ls [.int r3_]) rfl ?_)
        obtain ⟨g4, h⟩ := xgd h
        cases h
        exact xr_z C hW g4 dX12_readBlocks_24
set_option maxRecDepth 4000 in
theorem m_X12_readBlocks (N : Nat) (σ : St) {r : Int32} {σ' : St} (h : f_X12_readBlocks N σ = some (r, σ')) : xM l KM g yX12_readBlocks cX12_readBlocks 2 (some .boolean) rm_X12_readBlocks [.ref (g.q 0)] σ (some (.int r)) σ' := by
  refine xmet pn_X12 rfl (Nat.le_of_ble_eq_true rfl) (lv := [(0, .ref (g.q 0))]) rfl (fun p e s m args below meth c ls C hW hl => ?_)
  have hx := C.1
  have hb := C.2.1
  unfold f_X12_readBlocks at h
  refine lv_iconst (v := 0) hx hb dX12_readBlocks_0 rfl ?_
  refine lv_istore_n (lv' := [(1, .int 0), (0, .ref (g.q 0))]) hx hb dX12_readBlocks_1 rfl hl (Nat.le_of_ble_eq_true rfl) rfl (fun ls hl => ?_)
  exact w_X12_readBlocks_2 N C N 0 _ _ _ _ hW (lv_sub hl [1, 0] rfl) h
end
theorem dX12_blocks_0 : decode cX12_blocks 0 = .ok (.aload_n 0, 1) := by decide +kernel
theorem dX12_blocks_1 : decode cX12_blocks 1 = .ok (.invokevirtual 320, 3) := by decide +kernel
theorem dX12_blocks_4 : decode cX12_blocks 4 = .ok (.aload_n 0, 1) := by decide +kernel
theorem dX12_blocks_5 : decode cX12_blocks 5 = .ok (.iconst 0, 1) := by decide +kernel
theorem dX12_blocks_6 : decode cX12_blocks 6 = .ok (.putfield 289, 3) := by decide +kernel
theorem dX12_blocks_9 : decode cX12_blocks 9 = .ok (.aload_n 0, 1) := by decide +kernel
theorem dX12_blocks_10 : decode cX12_blocks 10 = .ok (.iconst (-1), 1) := by decide +kernel
theorem dX12_blocks_11 : decode cX12_blocks 11 = .ok (.putfield 13, 3) := by decide +kernel
theorem dX12_blocks_14 : decode cX12_blocks 14 = .ok (.aload_n 0, 1) := by decide +kernel
theorem dX12_blocks_15 : decode cX12_blocks 15 = .ok (.iconst 0, 1) := by decide +kernel
theorem dX12_blocks_16 : decode cX12_blocks 16 = .ok (.putfield 350, 3) := by decide +kernel
theorem dX12_blocks_19 : decode cX12_blocks 19 = .ok (.aload_n 0, 1) := by decide +kernel
theorem dX12_blocks_20 : decode cX12_blocks 20 = .ok (.iconst 0, 1) := by decide +kernel
theorem dX12_blocks_21 : decode cX12_blocks 21 = .ok (.putfield 356, 3) := by decide +kernel
theorem dX12_blocks_24 : decode cX12_blocks 24 = .ok (.aload_n 0, 1) := by decide +kernel
theorem dX12_blocks_25 : decode cX12_blocks 25 = .ok (.iconst 0, 1) := by decide +kernel
theorem dX12_blocks_26 : decode cX12_blocks 26 = .ok (.putfield 353, 3) := by decide +kernel
theorem dX12_blocks_29 : decode cX12_blocks 29 = .ok (.aload_n 0, 1) := by decide +kernel
theorem dX12_blocks_30 : decode cX12_blocks 30 = .ok (.invokevirtual 392, 3) := by decide +kernel
theorem dX12_blocks_33 : decode cX12_blocks 33 = .ok (.ifCond .ne 5, 3) := by decide +kernel
theorem dX12_blocks_36 : decode cX12_blocks 36 = .ok (.iconst (-1), 1) := by decide +kernel
theorem dX12_blocks_37 : decode cX12_blocks 37 = .ok (.ireturn, 1) := by decide +kernel
theorem dX12_blocks_38 : decode cX12_blocks 38 = .ok (.aload_n 0, 1) := by decide +kernel
theorem dX12_blocks_39 : decode cX12_blocks 39 = .ok (.aload_n 0, 1) := by decide +kernel
theorem dX12_blocks_40 : decode cX12_blocks 40 = .ok (.getfield 299, 3) := by decide +kernel
theorem dX12_blocks_43 : decode cX12_blocks 43 = .ok (.putfield 326, 3) := by decide +kernel
theorem dX12_blocks_46 : decode cX12_blocks 46 = .ok (.aload_n 0, 1) := by decide +kernel
theorem dX12_blocks_47 : decode cX12_blocks 47 = .ok (.iconst 0, 1) := by decide +kernel
theorem dX12_blocks_48 : decode cX12_blocks 48 = .ok (.putfield 329, 3) := by decide +kernel
theorem dX12_blocks_51 : decode cX12_blocks 51 = .ok (.iconst 0, 1) := by decide +kernel
theorem dX12_blocks_52 : decode cX12_blocks 52 = .ok (.istore_n 1, 1) := by decide +kernel
theorem dX12_blocks_53 : decode cX12_blocks 53 = .ok (.iload_n 1, 1) := by decide +kernel
theorem dX12_blocks_54 : decode cX12_blocks 54 = .ok (.aload_n 0, 1) := by decide +kernel
theorem dX12_blocks_55 : decode cX12_blocks 55 = .ok (.getfield 326, 3) := by decide +kernel
theorem dX12_blocks_58 : decode cX12_blocks 58 = .ok (.if_icmp .ge 83, 3) := by decide +kernel
theorem dX12_blocks_61 : decode cX12_blocks 61 = .ok (.aload_n 0, 1) := by decide +kernel
theorem dX12_blocks_62 : decode cX12_blocks 62 = .ok (.getfield 329, 3) := by decide +kernel
theorem dX12_blocks_65 : decode cX12_blocks 65 = .ok (.istore_n 2, 1) := by decide +kernel
theorem dX12_blocks_66 : decode cX12_blocks 66 = .ok (.aload_n 0, 1) := by decide +kernel
theorem dX12_blocks_67 : decode cX12_blocks 67 = .ok (.aload_n 0, 1) := by decide +kernel
theorem dX12_blocks_68 : decode cX12_blocks 68 = .ok (.getfield 100, 3) := by decide +kernel
theorem dX12_blocks_71 : decode cX12_blocks 71 = .ok (.iload_n 1, 1) := by decide +kernel
theorem dX12_blocks_72 : decode cX12_blocks 72 = .ok (.iaload, 1) := by decide +kernel
theorem dX12_blocks_73 : decode cX12_blocks 73 = .ok (.invokevirtual 377, 3) := by decide +kernel
theorem dX12_blocks_76 : decode cX12_blocks 76 = .ok (.aload_n 0, 1) := by decide +kernel
theorem dX12_blocks_77 : decode cX12_blocks 77 = .ok (.getfield 73, 3) := by decide +kernel
theorem dX12_blocks_80 : decode cX12_blocks 80 = .ok (.iload_n 1, 1) := by decide +kernel
theorem dX12_blocks_81 : decode cX12_blocks 81 = .ok (.aload_n 0, 1) := by decide +kernel
theorem dX12_blocks_82 : decode cX12_blocks 82 = .ok (.getfield 61, 3) := by decide +kernel
theorem dX12_blocks_85 : decode cX12_blocks 85 = .ok (.aload_n 0, 1) := by decide +kernel
theorem dX12_blocks_86 : decode cX12_blocks 86 = .ok (.getfield 100, 3) := by decide +kernel
theorem dX12_blocks_89 : decode cX12_blocks 89 = .ok (.iload_n 1, 1) := by decide +kernel
theorem dX12_blocks_90 : decode cX12_blocks 90 = .ok (.iaload, 1) := by decide +kernel
theorem dX12_blocks_91 : decode cX12_blocks 91 = .ok (.iaload, 1) := by decide +kernel
theorem dX12_blocks_92 : decode cX12_blocks 92 = .ok (.iastore, 1) := by decide +kernel
theorem dX12_blocks_93 : decode cX12_blocks 93 = .ok (.aload_n 0, 1) := by decide +kernel
theorem dX12_blocks_94 : decode cX12_blocks 94 = .ok (.getfield 76, 3) := by decide +kernel
theorem dX12_blocks_97 : decode cX12_blocks 97 = .ok (.iload_n 1, 1) := by decide +kernel
theorem dX12_blocks_98 : decode cX12_blocks 98 = .ok (.aload_n 0, 1) := by decide +kernel
theorem dX12_blocks_99 : decode cX12_blocks 99 = .ok (.getfield 64, 3) := by decide +kernel
theorem dX12_blocks_102 : decode cX12_blocks 102 = .ok (.aload_n 0, 1) := by decide +kernel
theorem dX12_blocks_103 : decode cX12_blocks 103 = .ok (.getfield 100, 3) := by decide +kernel
theorem dX12_blocks_106 : decode cX12_blocks 106 = .ok (.iload_n 1, 1) := by decide +kernel
theorem dX12_blocks_107 : decode cX12_blocks 107 = .ok (.iaload, 1) := by decide +kernel
theorem dX12_blocks_108 : decode cX12_blocks 108 = .ok (.iaload, 1) := by decide +kernel
theorem dX12_blocks_109 : decode cX12_blocks 109 = .ok (.iastore, 1) := by decide +kernel
theorem dX12_blocks_110 : decode cX12_blocks 110 = .ok (.aload_n 0, 1) := by decide +kernel
theorem dX12_blocks_111 : decode cX12_blocks 111 = .ok (.aload_n 0, 1) := by decide +kernel
theorem dX12_blocks_112 : decode cX12_blocks 112 = .ok (.getfield 100, 3) := by decide +kernel
theorem dX12_blocks_115 : decode cX12_blocks 115 = .ok (.iload_n 1, 1) := by decide +kernel
theorem dX12_blocks_116 : decode cX12_blocks 116 = .ok (.iaload, 1) := by decide +kernel
theorem dX12_blocks_117 : decode cX12_blocks 117 = .ok (.iconst 0, 1) := by decide +kernel
theorem dX12_blocks_118 : decode cX12_blocks 118 = .ok (.iconst 0, 1) := by decide +kernel
theorem dX12_blocks_119 : decode cX12_blocks 119 = .ok (.iload_n 1, 1) := by decide +kernel
theorem dX12_blocks_120 : decode cX12_blocks 120 = .ok (.invokevirtual 388, 3) := by decide +kernel
theorem dX12_blocks_123 : decode cX12_blocks 123 = .ok (.aload_n 0, 1) := by decide +kernel
theorem dX12_blocks_124 : decode cX12_blocks 124 = .ok (.getfield 79, 3) := by decide +kernel
theorem dX12_blocks_127 : decode cX12_blocks 127 = .ok (.iload_n 1, 1) := by decide +kernel
theorem dX12_blocks_128 : decode cX12_blocks 128 = .ok (.aload_n 0, 1) := by decide +kernel
theorem dX12_blocks_129 : decode cX12_blocks 129 = .ok (.getfield 329, 3) := by decide +kernel
theorem dX12_blocks_132 : decode cX12_blocks 132 = .ok (.iload_n 2, 1) := by decide +kernel
theorem dX12_blocks_133 : decode cX12_blocks 133 = .ok (.isub, 1) := by decide +kernel
theorem dX12_blocks_134 : decode cX12_blocks 134 = .ok (.iastore, 1) := by decide +kernel
theorem dX12_blocks_135 : decode cX12_blocks 135 = .ok (.iinc 1 1, 3) := by decide +kernel
theorem dX12_blocks_138 : decode cX12_blocks 138 = .ok (.goto (-85), 3) := by decide +kernel
theorem dX12_blocks_141 : decode cX12_blocks 141 = .ok (.aload_n 0, 1) := by decide +kernel
theorem dX12_blocks_142 : decode cX12_blocks 142 = .ok (.getfield 326, 3) := by decide +kernel
theorem dX12_blocks_145 : decode cX12_blocks 145 = .ok (.ireturn, 1) := by decide +kernel
abbrev rm_X12_blocks : Room := { frames := 70, cells := 0, slots := 0, locals := 1596 }
def f_X12_blocks_53 (N : Nat) : Nat → Int32 → St → Option (Int32 × St)
  | 0, _, _ => none
  | n + 1, x1, σ => (if (σ.1 1035 0) ≤ x1 then some (σ.1 1035 0, σ) else grd (ib x1 12) (bo (f_X12_measure N 20 (σ.1 29 x1.toNatClampNeg) σ) (fun σ6 => grd (ib x1 12) (grd (ib (σ6.1 29 x1.toNatClampNeg) 400) (grd (ib x1 12) (grd (ib x1 12) (grd (ib (σ6.1 29 x1.toNatClampNeg) 400) (grd (ib x1 12) (grd (ib x1 12) (bo (f_X12_lay N 20 (σ6.1 29 x1.toNatClampNeg) 0 0 x1 (si (si σ6 20 x1.toNatClampNeg (σ6.1 16 (σ6.1 29 x1.toNatClampNeg).toNatClampNeg)) 21 x1.toNatClampNeg (σ6.1 17 (σ6.1 29 x1.toNatClampNeg).toNatClampNeg))) (fun σ14 => grd (ib x1 12) (f_X12_blocks_53 N n (x1 + 1) (si σ14 22 x1.toNatClampNeg ((σ14.1 1036 0) - (σ.1 1036 0)))))))))))))))
def f_X12_blocks (N : Nat) (σ : St) : Option (Int32 × St) := bo (f_X12_take N σ) (fun σ1 => bd (f_X12_readBlocks N (si (si (si (si (si σ1 1008 0 0) 1009 0 ((-1))) 1031 0 0) 1032 0 0) 1033 0 0)) (fun r2_ σ2 => (if r2_ = 0 then some ((-1), σ2) else f_X12_blocks_53 N N 0 (si (si σ2 1035 0 (σ2.1 1011 0)) 1036 0 0))))
section
variable {p : Program} {l : Launch} {e : Env} {s : State} {m : MethodId} {args : Array Value} {below : List Frame} {meth : Method} {c : Code} {g : XG}
set_option maxRecDepth 4000 in
theorem w_X12_blocks_53 (N : Nat) {r : Int32} {σ' : St} (C : xC KM g RX12 cX12_blocks 3 (some .int) p s m args meth c) : ∀ (n : Nat), ∀ (x1 : Int32) (σ : St) (H : Heap) (locs : List Loc) (ls : Array Slot), xW KM g s σ H locs → lv_has ls 3 [(0, .ref (g.q 0)), (1, .int x1)] → f_X12_blocks_53 N n x1 σ = some (r, σ') → W p l e rm_X12_blocks s m args below meth c H locs 0 0 (MQ below (xPost KM g (some (.int r)) σ') args s 0 0 (xA KM g.q)) (F0 m 53 ls []) := by
  have hx := C.1
  have hb := C.2.1
  intro n
  induction n with
  | zero => intro x1 σ H locs ls hW hl h; rw [f_X12_blocks_53] at h; cases h
  | succ n ih =>
    intro x1 σ H locs ls hW hl h
    rw [f_X12_blocks_53] at h
    refine lv_iload_n hx hb dX12_blocks_53 rfl (lv_at hl 1 rfl) ?_
    refine lv_aload_n hx hb dX12_blocks_54 rfl (lv_at hl 0 rfl) ?_
    refine xg_i C hW fg_12_326 KM_0 rfl (v := 1035) rfl (x := σ.1 1035 0) rfl dX12_blocks_55 ?_
    refine lv_icmp_ge (tgt := 141) hx hb dX12_blocks_58 (by decide) (fun c4 => ?_) (fun c4 => ?_)
    · have h := xit c4 h
      refine lv_aload_n hx hb dX12_blocks_141 rfl (lv_at hl 0 rfl) ?_
      refine xg_i C hW fg_12_326 KM_0 rfl (v := 1035) rfl (x := σ.1 1035 0) rfl dX12_blocks_142 ?_
      cases h
      exact xr_i C hW dX12_blocks_145
    · have h := xif c4 h
      refine lv_aload_n hx hb dX12_blocks_61 rfl (lv_at hl 0 rfl) ?_
      refine xg_i C hW fg_12_329 KM_0 rfl (v := 1036) rfl (x := σ.1 1036 0) rfl dX12_blocks_62 ?_
      refine lv_istore_n (lv' := [(2, .int (σ.1 1036 0)), (0, .ref (g.q 0)), (1, .int x1)]) hx hb dX12_blocks_65 rfl hl (Nat.le_of_ble_eq_true rfl) rfl (fun ls hl => ?_)
      refine lv_aload_n hx hb dX12_blocks_66 rfl (lv_at hl 1 rfl) ?_
      refine lv_aload_n hx hb dX12_blocks_67 rfl (lv_at hl 1 rfl) ?_
      refine xg_r C hW fg_12_100 KM_0 rfl dX12_blocks_68 ?_
      refine lv_iload_n hx hb dX12_blocks_71 rfl (lv_at hl 2 rfl) ?_
      obtain ⟨g5, h⟩ := xgd h
      refine xa_i C hW KM_29 g5 (x := σ.1 29 x1.toNatClampNeg) rfl dX12_blocks_72 ?_
      obtain ⟨σ6, e6, h⟩ := xbo h
      refine xc_V (As := [.int (σ.1 29 x1.toNatClampNeg)]) (rest := []) C hW (m_X12_measure N 20 (σ.1 29 x1.toNatClampNeg) _ e6) mf_X12_measure mv_X12_measure ml_X12_377 ⟨rfl, rfl⟩ ⟨Nat.le_of_ble_eq_true rfl, Nat.le_of_ble_eq_true rfl⟩ KM_0 rfl hl.1 rfl rfl (Nat.le_of_ble_eq_true rfl) dX12_blocks_73 (fun H locs hW => W.eq (g2 := F0 m 76 ls []) rfl ?_)
      refine lv_aload_n hx hb dX12_blocks_76 rfl (lv_at hl 1 rfl) ?_
      refine xg_r C hW fg_12_73 KM_0 rfl dX12_blocks_77 ?_
      refine lv_iload_n hx hb dX12_blocks_80 rfl (lv_at hl 2 rfl) ?_
      refine lv_aload_n hx hb dX12_blocks_81 rfl (lv_at hl 1 rfl) ?_
      refine xg_r C hW fg_12_61 KM_0 rfl dX12_blocks_82 ?_
      refine lv_aload_n hx hb dX12_blocks_85 rfl (lv_at hl 1 rfl) ?_
      refine xg_r C hW fg_12_100 KM_0 rfl dX12_blocks_86 ?_
      refine lv_iload_n hx hb dX12_blocks_89 rfl (lv_at hl 2 rfl) ?_
      obtain ⟨g7, h⟩ := xgd h
      refine xa_i C hW KM_29 g7 (x := σ6.1 29 x1.toNatClampNeg) rfl dX12_blocks_90 ?_
      obtain ⟨g8, h⟩ := xgd h
      refine xa_i C hW KM_16 g8 (x := σ6.1 16 (σ6.1 29 x1.toNatClampNeg).toNatClampNeg) rfl dX12_blocks_91 ?_
      obtain ⟨g9, h⟩ := xgd h
      refine xs_i C hW KM_20 g9 dX12_blocks_92 (fun H locs hW => ?_)
      refine lv_aload_n hx hb dX12_blocks_93 rfl (lv_at hl 1 rfl) ?_
      refine xg_r C hW fg_12_76 KM_0 rfl dX12_blocks_94 ?_
      refine lv_iload_n hx hb dX12_blocks_97 rfl (lv_at hl 2 rfl) ?_
      refine lv_aload_n hx hb dX12_blocks_98 rfl (lv_at hl 1 rfl) ?_
      refine xg_r C hW fg_12_64 KM_0 rfl dX12_blocks_99 ?_
      refine lv_aload_n hx hb dX12_blocks_102 rfl (lv_at hl 1 rfl) ?_
      refine xg_r C hW fg_12_100 KM_0 rfl dX12_blocks_103 ?_
      refine lv_iload_n hx hb dX12_blocks_106 rfl (lv_at hl 2 rfl) ?_
      obtain ⟨g10, h⟩ := xgd h
      refine xa_i C hW KM_29 g10 (x := σ6.1 29 x1.toNatClampNeg) rfl dX12_blocks_107 ?_
      obtain ⟨g11, h⟩ := xgd h
      refine xa_i C hW KM_17 g11 (x := σ6.1 17 (σ6.1 29 x1.toNatClampNeg).toNatClampNeg) rfl dX12_blocks_108 ?_
      obtain ⟨g12, h⟩ := xgd h
      refine xs_i C hW KM_21 g12 dX12_blocks_109 (fun H locs hW => ?_)
      refine lv_aload_n hx hb dX12_blocks_110 rfl (lv_at hl 1 rfl) ?_
      refine lv_aload_n hx hb dX12_blocks_111 rfl (lv_at hl 1 rfl) ?_
      refine xg_r C hW fg_12_100 KM_0 rfl dX12_blocks_112 ?_
      refine lv_iload_n hx hb dX12_blocks_115 rfl (lv_at hl 2 rfl) ?_
      obtain ⟨g13, h⟩ := xgd h
      refine xa_i C hW KM_29 g13 (x := σ6.1 29 x1.toNatClampNeg) rfl dX12_blocks_116 ?_
      refine lv_iconst (v := 0) hx hb dX12_blocks_117 rfl ?_
      refine lv_iconst (v := 0) hx hb dX12_blocks_118 rfl ?_
      refine lv_iload_n hx hb dX12_blocks_119 rfl (lv_at hl 2 rfl) ?_
      obtain ⟨σ14, e14, h⟩ := xbo h
      refine xc_V (As := [.int (σ6.1 29 x1.toNatClampNeg), .int 0, .int 0, .int x1]) (rest := []) C hW (m_X12_lay N 20 (σ6.1 29 x1.toNatClampNeg) 0 0 x1 _ e14) mf_X12_lay mv_X12_lay ml_X12_388 ⟨rfl, rfl⟩ ⟨Nat.le_of_ble_eq_true rfl, Nat.le_of_ble_eq_true rfl⟩ KM_0 rfl hl.1 rfl rfl (Nat.le_of_ble_eq_true rfl) dX12_blocks_120 (fun H locs hW => W.eq (g2 := F0 m 123 ls []) rfl ?_)
      refine lv_aload_n hx hb dX12_blocks_123 rfl (lv_at hl 1 rfl) ?_
      refine xg_r C hW fg_12_79 KM_0 rfl dX12_blocks_124 ?_
      refine lv_iload_n hx hb dX12_blocks_127 rfl (lv_at hl 2 rfl) ?_
      refine lv_aload_n hx hb dX12_blocks_128 rfl (lv_at hl 1 rfl) ?_
      refine xg_i C hW fg_12_329 KM_0 rfl (v := 1036) rfl (x := σ14.1 1036 0) rfl dX12_blocks_129 ?_
      refine lv_iload_n hx hb dX12_blocks_132 rfl (lv_at hl 0 rfl) ?_
      refine lv_isub hx hb dX12_blocks_133 ?_
      obtain ⟨g15, h⟩ := xgd h
      refine xs_i C hW KM_22 g15 dX12_blocks_134 (fun H locs hW => ?_)
      refine lv_iinc (v := x1 + 1) (lv' := [(1, .int (x1 + 1)), (2, .int (σ.1 1036 0)), (0, .ref (g.q 0))]) hx hb dX12_blocks_135 hl (k := 2) rfl rfl (Nat.le_of_ble_eq_true rfl) rfl (fun ls hl => ?_)
      refine lv_goto (tgt := 53) hx hb dX12_blocks_138 (by decide) ?_
      exact ih (x1 + 1) _ _ _ _ hW (lv_sub hl [2, 0] rfl) h
set_option maxRecDepth 4000 in
theorem m_X12_blocks (N : Nat) (σ : St) {r : Int32} {σ' : St} (h : f_X12_blocks N σ = some (r, σ')) : xM l KM g yX12_blocks cX12_blocks 3 (some .int) rm_X12_blocks [.ref (g.q 0)] σ (some (.int r)) σ' := by
  refine xmet pn_X12 rfl (Nat.le_of_ble_eq_true rfl) (lv := [(0, .ref (g.q 0))]) rfl (fun p e s m args below meth c ls C hW hl => ?_)
  have hx := C.1
  have hb := C.2.1
  unfold f_X12_blocks at h
  refine lv_aload_n hx hb dX12_blocks_0 rfl (lv_at hl 0 rfl) ?_
  obtain ⟨σ1, e1, h⟩ := xbo h
  refine xc_V (As := []) (rest := []) C hW (m_X12_take N _ e1) mf_X12_take mv_X12_take ml_X12_320 ⟨rfl, rfl⟩ ⟨Nat.le_of_ble_eq_true rfl, Nat.le_of_ble_eq_true rfl⟩ KM_0 rfl hl.1 rfl rfl (Nat.le_of_ble_eq_true rfl) dX12_blocks_1 (fun H locs hW => W.eq (g2 := F0 m 4 ls []) rfl ?_)
  refine lv_aload_n hx hb dX12_blocks_4 rfl (lv_at hl 0 rfl) ?_
  refine lv_iconst (v := 0) hx hb dX12_blocks_5 rfl ?_
  refine xp_i C hW fp_12_289 KM_0 rfl (v := 1008) rfl rfl rfl dX12_blocks_6 (fun H locs hW => ?_)
  refine lv_aload_n hx hb dX12_blocks_9 rfl (lv_at hl 0 rfl) ?_
  refine lv_iconst (v := (-1)) hx hb dX12_blocks_10 rfl ?_
  refine xp_i C hW fp_12_13 KM_0 rfl (v := 1009) rfl rfl rfl dX12_blocks_11 (fun H locs hW => ?_)
  refine lv_aload_n hx hb dX12_blocks_14 rfl (lv_at hl 0 rfl) ?_
  refine lv_iconst (v := 0) hx hb dX12_blocks_15 rfl ?_
  refine xp_i C hW fp_12_350 KM_0 rfl (v := 1031) rfl rfl rfl dX12_blocks_16 (fun H locs hW => ?_)
  refine lv_aload_n hx hb dX12_blocks_19 rfl (lv_at hl 0 rfl) ?_
  refine lv_iconst (v := 0) hx hb dX12_blocks_20 rfl ?_
  refine xp_i C hW fp_12_356 KM_0 rfl (v := 1032) rfl rfl rfl dX12_blocks_21 (fun H locs hW => ?_)
  refine lv_aload_n hx hb dX12_blocks_24 rfl (lv_at hl 0 rfl) ?_
  refine lv_iconst (v := 0) hx hb dX12_blocks_25 rfl ?_
  refine xp_i C hW fp_12_353 KM_0 rfl (v := 1033) rfl rfl rfl dX12_blocks_26 (fun H locs hW => ?_)
  refine lv_aload_n hx hb dX12_blocks_29 rfl (lv_at hl 0 rfl) ?_
  obtain ⟨r2_, σ2, e2, h⟩ := xbd h
  refine xc_V (As := []) (rest := []) C hW (m_X12_readBlocks N _ e2) mf_X12_readBlocks mv_X12_readBlocks ml_X12_392 ⟨rfl, rfl⟩ ⟨Nat.le_of_ble_eq_true rfl, Nat.le_of_ble_eq_true rfl⟩ KM_0 rfl hl.1 rfl rfl (Nat.le_of_ble_eq_true rfl) dX12_blocks_30 (fun H locs hW => W.eq (g2 := F0 m 33 ls [.int r2_]) rfl ?_)
  refine lv_if_ne (tgt := 38) hx hb dX12_blocks_33 (by decide) (fun c3 => ?_) (fun c3 => ?_)
  · have h := xif c3 h
    refine lv_aload_n hx hb dX12_blocks_38 rfl (lv_at hl 0 rfl) ?_
    refine lv_aload_n hx hb dX12_blocks_39 rfl (lv_at hl 0 rfl) ?_
    refine xg_i C hW fg_12_299 KM_0 rfl (v := 1011) rfl (x := σ2.1 1011 0) rfl dX12_blocks_40 ?_
    refine xp_i C hW fp_12_326 KM_0 rfl (v := 1035) rfl rfl rfl dX12_blocks_43 (fun H locs hW => ?_)
    refine lv_aload_n hx hb dX12_blocks_46 rfl (lv_at hl 0 rfl) ?_
    refine lv_iconst (v := 0) hx hb dX12_blocks_47 rfl ?_
    refine xp_i C hW fp_12_329 KM_0 rfl (v := 1036) rfl rfl rfl dX12_blocks_48 (fun H locs hW => ?_)
    refine lv_iconst (v := 0) hx hb dX12_blocks_51 rfl ?_
    refine lv_istore_n (lv' := [(1, .int 0), (0, .ref (g.q 0))]) hx hb dX12_blocks_52 rfl hl (Nat.le_of_ble_eq_true rfl) rfl (fun ls hl => ?_)
    exact w_X12_blocks_53 N C N 0 _ _ _ _ hW (lv_sub hl [1, 0] rfl) h
  · have h := xit c3 h
    refine lv_iconst (v := (-1)) hx hb dX12_blocks_36 rfl ?_
    cases h
    exact xr_i C hW dX12_blocks_37
end
theorem dX12_greatest_0 : decode cX12_greatest 0 = .ok (.aload_n 0, 1) := by decide +kernel
theorem dX12_greatest_1 : decode cX12_greatest 1 = .ok (.getfield 17, 3) := by decide +kernel
theorem dX12_greatest_4 : decode cX12_greatest 4 = .ok (.iconst 1, 1) := by decide +kernel
theorem dX12_greatest_5 : decode cX12_greatest 5 = .ok (.iaload, 1) := by decide +kernel
theorem dX12_greatest_6 : decode cX12_greatest 6 = .ok (.iload_n 1, 1) := by decide +kernel
theorem dX12_greatest_7 : decode cX12_greatest 7 = .ok (.iload_n 2, 1) := by decide +kernel
theorem dX12_greatest_8 : decode cX12_greatest 8 = .ok (.invokestatic 381, 3) := by decide +kernel
theorem dX12_greatest_11 : decode cX12_greatest 11 = .ok (.invokestatic 381, 3) := by decide +kernel
theorem dX12_greatest_14 : decode cX12_greatest 14 = .ok (.ireturn, 1) := by decide +kernel
abbrev rm_X12_greatest : Room := { frames := 1, cells := 0, slots := 0, locals := 21 }
def f_X12_greatest (x1 : Int32) (x2 : Int32) (σ : St) : Option Int32 := grd (ib 1 8) (some (f_X12_greater (σ.1 2 1) (f_X12_greater x1 x2 σ) σ))
section
variable {p : Program} {l : Launch} {e : Env} {s : State} {m : MethodId} {args : Array Value} {below : List Frame} {meth : Method} {c : Code} {g : XG}
set_option maxRecDepth 4000 in
theorem m_X12_greatest (x1 : Int32) (x2 : Int32) (σ : St) {r : Int32} (h : f_X12_greatest x1 x2 σ = some r) : xM l KM g yX12_greatest cX12_greatest 3 (some .int) rm_X12_greatest [.ref (g.q 0), .int x1, .int x2] σ (some (.int r)) σ := by
  refine xmet pn_X12 rfl (Nat.le_of_ble_eq_true rfl) (lv := [(0, .ref (g.q 0)), (1, .int x1), (2, .int x2)]) rfl (fun p e s m args below meth c ls C hW hl => ?_)
  have hx := C.1
  have hb := C.2.1
  unfold f_X12_greatest at h
  refine lv_aload_n hx hb dX12_greatest_0 rfl (lv_at hl 0 rfl) ?_
  refine xg_r C hW fg_12_17 KM_0 rfl dX12_greatest_1 ?_
  refine lv_iconst (v := 1) hx hb dX12_greatest_4 rfl ?_
  obtain ⟨g1, h⟩ := xgd h
  refine xa_i C hW KM_2 g1 (x := σ.1 2 1) rfl dX12_greatest_5 ?_
  refine lv_iload_n hx hb dX12_greatest_6 rfl (lv_at hl 1 rfl) ?_
  refine lv_iload_n hx hb dX12_greatest_7 rfl (lv_at hl 2 rfl) ?_
  refine xc_S (As := [.int x1, .int x2]) (rest := [.int (σ.1 2 1)]) C hW (m_X12_greater x1 x2 _ rfl) mf_X12_greater mt_X12_greater ml_X12_381 ⟨rfl, rfl⟩ ⟨Nat.le_of_ble_eq_true rfl, Nat.le_of_ble_eq_true rfl⟩ hl.1 rfl rfl (Nat.le_of_ble_eq_true rfl) dX12_greatest_8 (fun H locs hW => W.eq (g2 := F0 m 11 ls [.int (f_X12_greater x1 x2 σ), .int (σ.1 2 1)]) rfl ?_)
  refine xc_S (As := [.int (σ.1 2 1), .int (f_X12_greater x1 x2 σ)]) (rest := []) C hW (m_X12_greater (σ.1 2 1) (f_X12_greater x1 x2 σ) _ rfl) mf_X12_greater mt_X12_greater ml_X12_381 ⟨rfl, rfl⟩ ⟨Nat.le_of_ble_eq_true rfl, Nat.le_of_ble_eq_true rfl⟩ hl.1 rfl rfl (Nat.le_of_ble_eq_true rfl) dX12_greatest_11 (fun H locs hW => W.eq (g2 := F0 m 14 ls [.int (f_X12_greater (σ.1 2 1) (f_X12_greater x1 x2 σ) σ)]) rfl ?_)
  cases h
  exact xr_i C hW dX12_greatest_14
end
theorem dX12_percent_0 : decode cX12_percent 0 = .ok (.bipush 100, 2) := by decide +kernel
theorem dX12_percent_2 : decode cX12_percent 2 = .ok (.aload_n 0, 1) := by decide +kernel
theorem dX12_percent_3 : decode cX12_percent 3 = .ok (.getfield 17, 3) := by decide +kernel
theorem dX12_percent_6 : decode cX12_percent 6 = .ok (.iconst 1, 1) := by decide +kernel
theorem dX12_percent_7 : decode cX12_percent 7 = .ok (.iaload, 1) := by decide +kernel
theorem dX12_percent_8 : decode cX12_percent 8 = .ok (.imul, 1) := by decide +kernel
theorem dX12_percent_9 : decode cX12_percent 9 = .ok (.aload_n 0, 1) := by decide +kernel
theorem dX12_percent_10 : decode cX12_percent 10 = .ok (.iload_n 1, 1) := by decide +kernel
theorem dX12_percent_11 : decode cX12_percent 11 = .ok (.iload_n 2, 1) := by decide +kernel
theorem dX12_percent_12 : decode cX12_percent 12 = .ok (.invokevirtual 395, 3) := by decide +kernel
theorem dX12_percent_15 : decode cX12_percent 15 = .ok (.idiv, 1) := by decide +kernel
theorem dX12_percent_16 : decode cX12_percent 16 = .ok (.ireturn, 1) := by decide +kernel
abbrev rm_X12_percent : Room := { frames := 2, cells := 0, slots := 0, locals := 43 }
def f_X12_percent (x1 : Int32) (x2 : Int32) (σ : St) : Option Int32 := grd (ib 1 8) (bo (f_X12_greatest x1 x2 σ) (fun r2_ => grd (decide (¬ r2_ = 0)) (some ((100 * (σ.1 2 1)) / r2_))))
section
variable {p : Program} {l : Launch} {e : Env} {s : State} {m : MethodId} {args : Array Value} {below : List Frame} {meth : Method} {c : Code} {g : XG}
set_option maxRecDepth 4000 in
theorem m_X12_percent (x1 : Int32) (x2 : Int32) (σ : St) {r : Int32} (h : f_X12_percent x1 x2 σ = some r) : xM l KM g yX12_percent cX12_percent 3 (some .int) rm_X12_percent [.ref (g.q 0), .int x1, .int x2] σ (some (.int r)) σ := by
  refine xmet pn_X12 rfl (Nat.le_of_ble_eq_true rfl) (lv := [(0, .ref (g.q 0)), (1, .int x1), (2, .int x2)]) rfl (fun p e s m args below meth c ls C hW hl => ?_)
  have hx := C.1
  have hb := C.2.1
  unfold f_X12_percent at h
  refine lv_bipush (v := 100) hx hb dX12_percent_0 rfl ?_
  refine lv_aload_n hx hb dX12_percent_2 rfl (lv_at hl 0 rfl) ?_
  refine xg_r C hW fg_12_17 KM_0 rfl dX12_percent_3 ?_
  refine lv_iconst (v := 1) hx hb dX12_percent_6 rfl ?_
  obtain ⟨g1, h⟩ := xgd h
  refine xa_i C hW KM_2 g1 (x := σ.1 2 1) rfl dX12_percent_7 ?_
  refine lv_imul hx hb dX12_percent_8 ?_
  refine lv_aload_n hx hb dX12_percent_9 rfl (lv_at hl 0 rfl) ?_
  refine lv_iload_n hx hb dX12_percent_10 rfl (lv_at hl 1 rfl) ?_
  refine lv_iload_n hx hb dX12_percent_11 rfl (lv_at hl 2 rfl) ?_
  obtain ⟨r2_, e2, h⟩ := xbo h
  refine xc_V (As := [.int x1, .int x2]) (rest := [.int (100 * (σ.1 2 1))]) C hW (m_X12_greatest x1 x2 _ e2) mf_X12_greatest mv_X12_greatest ml_X12_395 ⟨rfl, rfl⟩ ⟨Nat.le_of_ble_eq_true rfl, Nat.le_of_ble_eq_true rfl⟩ KM_0 rfl hl.1 rfl rfl (Nat.le_of_ble_eq_true rfl) dX12_percent_12 (fun H locs hW => W.eq (g2 := F0 m 15 ls [.int r2_, .int (100 * (σ.1 2 1))]) rfl ?_)
  obtain ⟨g3, h⟩ := xgd h
  refine lv_idiv hx hb dX12_percent_15 (of_decide_eq_true g3) ?_
  cases h
  exact xr_i C hW dX12_percent_16
end
theorem dX12_shrunk_0 : decode cX12_shrunk 0 = .ok (.iload_n 1, 1) := by decide +kernel
theorem dX12_shrunk_1 : decode cX12_shrunk 1 = .ok (.aload_n 0, 1) := by decide +kernel
theorem dX12_shrunk_2 : decode cX12_shrunk 2 = .ok (.getfield 17, 3) := by decide +kernel
theorem dX12_shrunk_5 : decode cX12_shrunk 5 = .ok (.iconst 1, 1) := by decide +kernel
theorem dX12_shrunk_6 : decode cX12_shrunk 6 = .ok (.iaload, 1) := by decide +kernel
theorem dX12_shrunk_7 : decode cX12_shrunk 7 = .ok (.imul, 1) := by decide +kernel
theorem dX12_shrunk_8 : decode cX12_shrunk 8 = .ok (.aload_n 0, 1) := by decide +kernel
theorem dX12_shrunk_9 : decode cX12_shrunk 9 = .ok (.aload_n 0, 1) := by decide +kernel
theorem dX12_shrunk_10 : decode cX12_shrunk 10 = .ok (.getfield 73, 3) := by decide +kernel
theorem dX12_shrunk_13 : decode cX12_shrunk 13 = .ok (.iload_n 2, 1) := by decide +kernel
theorem dX12_shrunk_14 : decode cX12_shrunk 14 = .ok (.iaload, 1) := by decide +kernel
theorem dX12_shrunk_15 : decode cX12_shrunk 15 = .ok (.aload_n 0, 1) := by decide +kernel
theorem dX12_shrunk_16 : decode cX12_shrunk 16 = .ok (.getfield 76, 3) := by decide +kernel
theorem dX12_shrunk_19 : decode cX12_shrunk 19 = .ok (.iload_n 2, 1) := by decide +kernel
theorem dX12_shrunk_20 : decode cX12_shrunk 20 = .ok (.iaload, 1) := by decide +kernel
theorem dX12_shrunk_21 : decode cX12_shrunk 21 = .ok (.invokevirtual 395, 3) := by decide +kernel
theorem dX12_shrunk_24 : decode cX12_shrunk 24 = .ok (.idiv, 1) := by decide +kernel
theorem dX12_shrunk_25 : decode cX12_shrunk 25 = .ok (.ireturn, 1) := by decide +kernel
abbrev rm_X12_shrunk : Room := { frames := 2, cells := 0, slots := 0, locals := 43 }
def f_X12_shrunk (x1 : Int32) (x2 : Int32) (σ : St) : Option Int32 := grd (ib 1 8) (grd (ib x2 12) (grd (ib x2 12) (bo (f_X12_greatest (σ.1 20 x2.toNatClampNeg) (σ.1 21 x2.toNatClampNeg) σ) (fun r4_ => grd (decide (¬ r4_ = 0)) (some ((x1 * (σ.1 2 1)) / r4_))))))
section
variable {p : Program} {l : Launch} {e : Env} {s : State} {m : MethodId} {args : Array Value} {below : List Frame} {meth : Method} {c : Code} {g : XG}
set_option maxRecDepth 4000 in
theorem m_X12_shrunk (x1 : Int32) (x2 : Int32) (σ : St) {r : Int32} (h : f_X12_shrunk x1 x2 σ = some r) : xM l KM g yX12_shrunk cX12_shrunk 3 (some .int) rm_X12_shrunk [.ref (g.q 0), .int x1, .int x2] σ (some (.int r)) σ := by
  refine xmet pn_X12 rfl (Nat.le_of_ble_eq_true rfl) (lv := [(0, .ref (g.q 0)), (1, .int x1), (2, .int x2)]) rfl (fun p e s m args below meth c ls C hW hl => ?_)
  have hx := C.1
  have hb := C.2.1
  unfold f_X12_shrunk at h
  refine lv_iload_n hx hb dX12_shrunk_0 rfl (lv_at hl 1 rfl) ?_
  refine lv_aload_n hx hb dX12_shrunk_1 rfl (lv_at hl 0 rfl) ?_
  refine xg_r C hW fg_12_17 KM_0 rfl dX12_shrunk_2 ?_
  refine lv_iconst (v := 1) hx hb dX12_shrunk_5 rfl ?_
  obtain ⟨g1, h⟩ := xgd h
  refine xa_i C hW KM_2 g1 (x := σ.1 2 1) rfl dX12_shrunk_6 ?_
  refine lv_imul hx hb dX12_shrunk_7 ?_
  refine lv_aload_n hx hb dX12_shrunk_8 rfl (lv_at hl 0 rfl) ?_
  refine lv_aload_n hx hb dX12_shrunk_9 rfl (lv_at hl 0 rfl) ?_
  refine xg_r C hW fg_12_73 KM_0 rfl dX12_shrunk_10 ?_
  refine lv_iload_n hx hb dX12_shrunk_13 rfl (lv_at hl 2 rfl) ?_
  obtain ⟨g2, h⟩ := xgd h
  refine xa_i C hW KM_20 g2 (x := σ.1 20 x2.toNatClampNeg) rfl dX12_shrunk_14 ?_
  refine lv_aload_n hx hb dX12_shrunk_15 rfl (lv_at hl 0 rfl) ?_
  refine xg_r C hW fg_12_76 KM_0 rfl dX12_shrunk_16 ?_
  refine lv_iload_n hx hb dX12_shrunk_19 rfl (lv_at hl 2 rfl) ?_
  obtain ⟨g3, h⟩ := xgd h
  refine xa_i C hW KM_21 g3 (x := σ.1 21 x2.toNatClampNeg) rfl dX12_shrunk_20 ?_
  obtain ⟨r4_, e4, h⟩ := xbo h
  refine xc_V (As := [.int (σ.1 20 x2.toNatClampNeg), .int (σ.1 21 x2.toNatClampNeg)]) (rest := [.int (x1 * (σ.1 2 1))]) C hW (m_X12_greatest (σ.1 20 x2.toNatClampNeg) (σ.1 21 x2.toNatClampNeg) _ e4) mf_X12_greatest mv_X12_greatest ml_X12_395 ⟨rfl, rfl⟩ ⟨Nat.le_of_ble_eq_true rfl, Nat.le_of_ble_eq_true rfl⟩ KM_0 rfl hl.1 rfl rfl (Nat.le_of_ble_eq_true rfl) dX12_shrunk_21 (fun H locs hW => W.eq (g2 := F0 m 24 ls [.int r4_, .int (x1 * (σ.1 2 1))]) rfl ?_)
  obtain ⟨g5, h⟩ := xgd h
  refine lv_idiv hx hb dX12_shrunk_24 (of_decide_eq_true g5) ?_
  cases h
  exact xr_i C hW dX12_shrunk_25
end
