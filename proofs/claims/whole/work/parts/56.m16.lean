theorem dX12_fill_0 : decode cX12_fill 0 = .ok (.iload_n 1, 1) := by decide +kernel
theorem dX12_fill_1 : decode cX12_fill 1 = .ok (.iconst 1, 1) := by decide +kernel
theorem dX12_fill_2 : decode cX12_fill 2 = .ok (.sipush 144, 3) := by decide +kernel
theorem dX12_fill_5 : decode cX12_fill 5 = .ok (.invokestatic 295, 3) := by decide +kernel
theorem dX12_fill_8 : decode cX12_fill 8 = .ok (.ifCond .ne 6, 3) := by decide +kernel
theorem dX12_fill_11 : decode cX12_fill 11 = .ok (.bipush (-2), 2) := by decide +kernel
theorem dX12_fill_13 : decode cX12_fill 13 = .ok (.ireturn, 1) := by decide +kernel
theorem dX12_fill_14 : decode cX12_fill 14 = .ok (.aload_n 0, 1) := by decide +kernel
theorem dX12_fill_15 : decode cX12_fill 15 = .ok (.invokevirtual 521, 3) := by decide +kernel
theorem dX12_fill_18 : decode cX12_fill 18 = .ok (.istore_n 2, 1) := by decide +kernel
theorem dX12_fill_19 : decode cX12_fill 19 = .ok (.iload_n 2, 1) := by decide +kernel
theorem dX12_fill_20 : decode cX12_fill 20 = .ok (.ifCond .eq 5, 3) := by decide +kernel
theorem dX12_fill_23 : decode cX12_fill 23 = .ok (.iload_n 2, 1) := by decide +kernel
theorem dX12_fill_24 : decode cX12_fill 24 = .ok (.ireturn, 1) := by decide +kernel
theorem dX12_fill_25 : decode cX12_fill 25 = .ok (.aload_n 0, 1) := by decide +kernel
theorem dX12_fill_26 : decode cX12_fill 26 = .ok (.getfield 197, 3) := by decide +kernel
theorem dX12_fill_29 : decode cX12_fill 29 = .ok (.iload_n 1, 1) := by decide +kernel
theorem dX12_fill_30 : decode cX12_fill 30 = .ok (.iaload, 1) := by decide +kernel
theorem dX12_fill_31 : decode cX12_fill 31 = .ok (.ldc_w 435, 3) := by decide +kernel
theorem dX12_fill_34 : decode cX12_fill 34 = .ok (.if_icmp .lt 5, 3) := by decide +kernel
theorem dX12_fill_37 : decode cX12_fill 37 = .ok (.iconst (-1), 1) := by decide +kernel
theorem dX12_fill_38 : decode cX12_fill 38 = .ok (.ireturn, 1) := by decide +kernel
theorem dX12_fill_39 : decode cX12_fill 39 = .ok (.iload_n 1, 1) := by decide +kernel
theorem dX12_fill_40 : decode cX12_fill 40 = .ok (.istore_n 3, 1) := by decide +kernel
theorem dX12_fill_41 : decode cX12_fill 41 = .ok (.iconst 0, 1) := by decide +kernel
theorem dX12_fill_42 : decode cX12_fill 42 = .ok (.istore 4, 2) := by decide +kernel
theorem dX12_fill_44 : decode cX12_fill 44 = .ok (.iload 4, 2) := by decide +kernel
theorem dX12_fill_46 : decode cX12_fill 46 = .ok (.aload_n 0, 1) := by decide +kernel
theorem dX12_fill_47 : decode cX12_fill 47 = .ok (.getfield 515, 3) := by decide +kernel
theorem dX12_fill_50 : decode cX12_fill 50 = .ok (.if_icmp .ge 194, 3) := by decide +kernel
theorem dX12_fill_53 : decode cX12_fill 53 = .ok (.iconst 1, 1) := by decide +kernel
theorem dX12_fill_54 : decode cX12_fill 54 = .ok (.istore 5, 2) := by decide +kernel
theorem dX12_fill_56 : decode cX12_fill 56 = .ok (.iload 5, 2) := by decide +kernel
theorem dX12_fill_58 : decode cX12_fill 58 = .ok (.iload_n 3, 1) := by decide +kernel
theorem dX12_fill_59 : decode cX12_fill 59 = .ok (.if_icmp .gt 91, 3) := by decide +kernel
theorem dX12_fill_62 : decode cX12_fill 62 = .ok (.aload_n 0, 1) := by decide +kernel
theorem dX12_fill_63 : decode cX12_fill 63 = .ok (.getfield 188, 3) := by decide +kernel
theorem dX12_fill_66 : decode cX12_fill 66 = .ok (.bipush 13, 2) := by decide +kernel
theorem dX12_fill_68 : decode cX12_fill 68 = .ok (.iload 4, 2) := by decide +kernel
theorem dX12_fill_70 : decode cX12_fill 70 = .ok (.imul, 1) := by decide +kernel
theorem dX12_fill_71 : decode cX12_fill 71 = .ok (.iload 5, 2) := by decide +kernel
theorem dX12_fill_73 : decode cX12_fill 73 = .ok (.iadd, 1) := by decide +kernel
theorem dX12_fill_74 : decode cX12_fill 74 = .ok (.iaload, 1) := by decide +kernel
theorem dX12_fill_75 : decode cX12_fill 75 = .ok (.ifCond .eq 75, 3) := by decide +kernel
theorem dX12_fill_78 : decode cX12_fill 78 = .ok (.aload_n 0, 1) := by decide +kernel
theorem dX12_fill_79 : decode cX12_fill 79 = .ok (.getfield 197, 3) := by decide +kernel
theorem dX12_fill_82 : decode cX12_fill 82 = .ok (.sipush 145, 3) := by decide +kernel
theorem dX12_fill_85 : decode cX12_fill 85 = .ok (.iload 4, 2) := by decide +kernel
theorem dX12_fill_87 : decode cX12_fill 87 = .ok (.iconst 1, 1) := by decide +kernel
theorem dX12_fill_88 : decode cX12_fill 88 = .ok (.iadd, 1) := by decide +kernel
theorem dX12_fill_89 : decode cX12_fill 89 = .ok (.imul, 1) := by decide +kernel
theorem dX12_fill_90 : decode cX12_fill 90 = .ok (.iload_n 3, 1) := by decide +kernel
theorem dX12_fill_91 : decode cX12_fill 91 = .ok (.iadd, 1) := by decide +kernel
theorem dX12_fill_92 : decode cX12_fill 92 = .ok (.iload 5, 2) := by decide +kernel
theorem dX12_fill_94 : decode cX12_fill 94 = .ok (.isub, 1) := by decide +kernel
theorem dX12_fill_95 : decode cX12_fill 95 = .ok (.iaload, 1) := by decide +kernel
theorem dX12_fill_96 : decode cX12_fill 96 = .ok (.ldc_w 435, 3) := by decide +kernel
theorem dX12_fill_99 : decode cX12_fill 99 = .ok (.if_icmp .ge 51, 3) := by decide +kernel
theorem dX12_fill_102 : decode cX12_fill 102 = .ok (.aload_n 0, 1) := by decide +kernel
theorem dX12_fill_103 : decode cX12_fill 103 = .ok (.getfield 188, 3) := by decide +kernel
theorem dX12_fill_106 : decode cX12_fill 106 = .ok (.bipush 13, 2) := by decide +kernel
theorem dX12_fill_108 : decode cX12_fill 108 = .ok (.iload 4, 2) := by decide +kernel
theorem dX12_fill_110 : decode cX12_fill 110 = .ok (.imul, 1) := by decide +kernel
theorem dX12_fill_111 : decode cX12_fill 111 = .ok (.iload 5, 2) := by decide +kernel
theorem dX12_fill_113 : decode cX12_fill 113 = .ok (.iadd, 1) := by decide +kernel
theorem dX12_fill_114 : decode cX12_fill 114 = .ok (.iaload, 1) := by decide +kernel
theorem dX12_fill_115 : decode cX12_fill 115 = .ok (.aload_n 0, 1) := by decide +kernel
theorem dX12_fill_116 : decode cX12_fill 116 = .ok (.getfield 197, 3) := by decide +kernel
theorem dX12_fill_119 : decode cX12_fill 119 = .ok (.sipush 145, 3) := by decide +kernel
theorem dX12_fill_122 : decode cX12_fill 122 = .ok (.iload 4, 2) := by decide +kernel
theorem dX12_fill_124 : decode cX12_fill 124 = .ok (.iconst 1, 1) := by decide +kernel
theorem dX12_fill_125 : decode cX12_fill 125 = .ok (.iadd, 1) := by decide +kernel
theorem dX12_fill_126 : decode cX12_fill 126 = .ok (.imul, 1) := by decide +kernel
theorem dX12_fill_127 : decode cX12_fill 127 = .ok (.iload_n 3, 1) := by decide +kernel
theorem dX12_fill_128 : decode cX12_fill 128 = .ok (.iadd, 1) := by decide +kernel
theorem dX12_fill_129 : decode cX12_fill 129 = .ok (.iload 5, 2) := by decide +kernel
theorem dX12_fill_131 : decode cX12_fill 131 = .ok (.isub, 1) := by decide +kernel
theorem dX12_fill_132 : decode cX12_fill 132 = .ok (.iaload, 1) := by decide +kernel
theorem dX12_fill_133 : decode cX12_fill 133 = .ok (.iadd, 1) := by decide +kernel
theorem dX12_fill_134 : decode cX12_fill 134 = .ok (.aload_n 0, 1) := by decide +kernel
theorem dX12_fill_135 : decode cX12_fill 135 = .ok (.getfield 197, 3) := by decide +kernel
theorem dX12_fill_138 : decode cX12_fill 138 = .ok (.sipush 145, 3) := by decide +kernel
theorem dX12_fill_141 : decode cX12_fill 141 = .ok (.iload 4, 2) := by decide +kernel
theorem dX12_fill_143 : decode cX12_fill 143 = .ok (.imul, 1) := by decide +kernel
theorem dX12_fill_144 : decode cX12_fill 144 = .ok (.iload_n 3, 1) := by decide +kernel
theorem dX12_fill_145 : decode cX12_fill 145 = .ok (.iadd, 1) := by decide +kernel
theorem dX12_fill_146 : decode cX12_fill 146 = .ok (.iaload, 1) := by decide +kernel
theorem dX12_fill_147 : decode cX12_fill 147 = .ok (.if_icmp .eq 9, 3) := by decide +kernel
theorem dX12_fill_150 : decode cX12_fill 150 = .ok (.iinc 5 1, 3) := by decide +kernel
theorem dX12_fill_153 : decode cX12_fill 153 = .ok (.goto (-97), 3) := by decide +kernel
theorem dX12_fill_156 : decode cX12_fill 156 = .ok (.aload_n 0, 1) := by decide +kernel
theorem dX12_fill_157 : decode cX12_fill 157 = .ok (.getfield 200, 3) := by decide +kernel
theorem dX12_fill_160 : decode cX12_fill 160 = .ok (.iload 4, 2) := by decide +kernel
theorem dX12_fill_162 : decode cX12_fill 162 = .ok (.iload 5, 2) := by decide +kernel
theorem dX12_fill_164 : decode cX12_fill 164 = .ok (.iastore, 1) := by decide +kernel
theorem dX12_fill_165 : decode cX12_fill 165 = .ok (.aload_n 0, 1) := by decide +kernel
theorem dX12_fill_166 : decode cX12_fill 166 = .ok (.getfield 203, 3) := by decide +kernel
theorem dX12_fill_169 : decode cX12_fill 169 = .ok (.iload 4, 2) := by decide +kernel
theorem dX12_fill_171 : decode cX12_fill 171 = .ok (.aload_n 0, 1) := by decide +kernel
theorem dX12_fill_172 : decode cX12_fill 172 = .ok (.getfield 191, 3) := by decide +kernel
theorem dX12_fill_175 : decode cX12_fill 175 = .ok (.bipush 13, 2) := by decide +kernel
theorem dX12_fill_177 : decode cX12_fill 177 = .ok (.iload 4, 2) := by decide +kernel
theorem dX12_fill_179 : decode cX12_fill 179 = .ok (.imul, 1) := by decide +kernel
theorem dX12_fill_180 : decode cX12_fill 180 = .ok (.iload 5, 2) := by decide +kernel
theorem dX12_fill_182 : decode cX12_fill 182 = .ok (.iadd, 1) := by decide +kernel
theorem dX12_fill_183 : decode cX12_fill 183 = .ok (.iaload, 1) := by decide +kernel
theorem dX12_fill_184 : decode cX12_fill 184 = .ok (.iastore, 1) := by decide +kernel
theorem dX12_fill_185 : decode cX12_fill 185 = .ok (.iconst 0, 1) := by decide +kernel
theorem dX12_fill_186 : decode cX12_fill 186 = .ok (.istore 6, 2) := by decide +kernel
theorem dX12_fill_188 : decode cX12_fill 188 = .ok (.iload 6, 2) := by decide +kernel
theorem dX12_fill_190 : decode cX12_fill 190 = .ok (.bipush 12, 2) := by decide +kernel
theorem dX12_fill_192 : decode cX12_fill 192 = .ok (.if_icmp .ge 41, 3) := by decide +kernel
theorem dX12_fill_195 : decode cX12_fill 195 = .ok (.aload_n 0, 1) := by decide +kernel
theorem dX12_fill_196 : decode cX12_fill 196 = .ok (.getfield 206, 3) := by decide +kernel
theorem dX12_fill_199 : decode cX12_fill 199 = .ok (.bipush 12, 2) := by decide +kernel
theorem dX12_fill_201 : decode cX12_fill 201 = .ok (.iload 4, 2) := by decide +kernel
theorem dX12_fill_203 : decode cX12_fill 203 = .ok (.imul, 1) := by decide +kernel
theorem dX12_fill_204 : decode cX12_fill 204 = .ok (.iload 6, 2) := by decide +kernel
theorem dX12_fill_206 : decode cX12_fill 206 = .ok (.iadd, 1) := by decide +kernel
theorem dX12_fill_207 : decode cX12_fill 207 = .ok (.aload_n 0, 1) := by decide +kernel
theorem dX12_fill_208 : decode cX12_fill 208 = .ok (.getfield 194, 3) := by decide +kernel
theorem dX12_fill_211 : decode cX12_fill 211 = .ok (.bipush 12, 2) := by decide +kernel
theorem dX12_fill_213 : decode cX12_fill 213 = .ok (.bipush 13, 2) := by decide +kernel
theorem dX12_fill_215 : decode cX12_fill 215 = .ok (.iload 4, 2) := by decide +kernel
theorem dX12_fill_217 : decode cX12_fill 217 = .ok (.imul, 1) := by decide +kernel
theorem dX12_fill_218 : decode cX12_fill 218 = .ok (.iload 5, 2) := by decide +kernel
theorem dX12_fill_220 : decode cX12_fill 220 = .ok (.iadd, 1) := by decide +kernel
theorem dX12_fill_221 : decode cX12_fill 221 = .ok (.imul, 1) := by decide +kernel
theorem dX12_fill_222 : decode cX12_fill 222 = .ok (.iload 6, 2) := by decide +kernel
theorem dX12_fill_224 : decode cX12_fill 224 = .ok (.iadd, 1) := by decide +kernel
theorem dX12_fill_225 : decode cX12_fill 225 = .ok (.iaload, 1) := by decide +kernel
theorem dX12_fill_226 : decode cX12_fill 226 = .ok (.iastore, 1) := by decide +kernel
theorem dX12_fill_227 : decode cX12_fill 227 = .ok (.iinc 6 1, 3) := by decide +kernel
theorem dX12_fill_230 : decode cX12_fill 230 = .ok (.goto (-42), 3) := by decide +kernel
theorem dX12_fill_233 : decode cX12_fill 233 = .ok (.iload_n 3, 1) := by decide +kernel
theorem dX12_fill_234 : decode cX12_fill 234 = .ok (.iload 5, 2) := by decide +kernel
theorem dX12_fill_236 : decode cX12_fill 236 = .ok (.isub, 1) := by decide +kernel
theorem dX12_fill_237 : decode cX12_fill 237 = .ok (.istore_n 3, 1) := by decide +kernel
theorem dX12_fill_238 : decode cX12_fill 238 = .ok (.iinc 4 1, 3) := by decide +kernel
theorem dX12_fill_241 : decode cX12_fill 241 = .ok (.goto (-197), 3) := by decide +kernel
theorem dX12_fill_244 : decode cX12_fill 244 = .ok (.aload_n 0, 1) := by decide +kernel
theorem dX12_fill_245 : decode cX12_fill 245 = .ok (.aload_n 0, 1) := by decide +kernel
theorem dX12_fill_246 : decode cX12_fill 246 = .ok (.getfield 515, 3) := by decide +kernel
theorem dX12_fill_249 : decode cX12_fill 249 = .ok (.putfield 347, 3) := by decide +kernel
theorem dX12_fill_252 : decode cX12_fill 252 = .ok (.aload_n 0, 1) := by decide +kernel
theorem dX12_fill_253 : decode cX12_fill 253 = .ok (.getfield 197, 3) := by decide +kernel
theorem dX12_fill_256 : decode cX12_fill 256 = .ok (.iload_n 1, 1) := by decide +kernel
theorem dX12_fill_257 : decode cX12_fill 257 = .ok (.iaload, 1) := by decide +kernel
theorem dX12_fill_258 : decode cX12_fill 258 = .ok (.ireturn, 1) := by decide +kernel
abbrev rm_X12_fill : Room := { frames := 31, cells := 0, slots := 0, locals := 784 }
def f_X12_fill_188 (N : Nat) (k44 : Int32 → Int32 → Int32 → St → Option (Int32 × St)) : Nat → Int32 → Int32 → Int32 → Int32 → Int32 → St → Option (Int32 × St)
  | 0, _, _, _, _, _, _ => none
  | n + 1, x1, x3, x4, x5, x6, σ => (if 12 ≤ x6 then k44 x1 (x3 - x5) (x4 + 1) σ else grd (ib ((12 * ((13 * x4) + x5)) + x6) 1872) (grd (ib ((12 * x4) + x6) 144) (f_X12_fill_188 N k44 n x1 x3 x4 x5 (x6 + 1) (si σ 64 ((12 * x4) + x6).toNatClampNeg (σ.1 60 ((12 * ((13 * x4) + x5)) + x6).toNatClampNeg)))))
def f_X12_fill_56 (N : Nat) (k44 : Int32 → Int32 → Int32 → St → Option (Int32 × St)) : Nat → Int32 → Int32 → Int32 → Int32 → St → Option (Int32 × St)
  | 0, _, _, _, _, _ => none
  | n + 1, x1, x3, x4, x5, σ => (if x3 < x5 then f_X12_fill_56 N k44 n x1 x3 x4 (x5 + 1) σ else grd (ib ((13 * x4) + x5) 156) ((if (σ.1 58 ((13 * x4) + x5).toNatClampNeg) = 0 then f_X12_fill_56 N k44 n x1 x3 x4 (x5 + 1) σ else grd (ib (((145 * (x4 + 1)) + x3) - x5) 1885) ((if 1000000000 ≤ (σ.1 61 (((145 * (x4 + 1)) + x3) - x5).toNatClampNeg) then f_X12_fill_56 N k44 n x1 x3 x4 (x5 + 1) σ else grd (ib ((13 * x4) + x5) 156) (grd (ib (((145 * (x4 + 1)) + x3) - x5) 1885) (grd (ib ((145 * x4) + x3) 1885) ((if ((σ.1 58 ((13 * x4) + x5).toNatClampNeg) + (σ.1 61 (((145 * (x4 + 1)) + x3) - x5).toNatClampNeg)) = (σ.1 61 ((145 * x4) + x3).toNatClampNeg) then grd (ib x4 12) (grd (ib ((13 * x4) + x5) 156) (grd (ib x4 12) (f_X12_fill_188 N k44 N x1 x3 x4 x5 0 (si (si σ 62 x4.toNatClampNeg x5) 63 x4.toNatClampNeg (σ.1 59 ((13 * x4) + x5).toNatClampNeg))))) else f_X12_fill_56 N k44 n x1 x3 x4 (x5 + 1) σ)))))))))
def f_X12_fill_44 (N : Nat) : Nat → Int32 → Int32 → Int32 → St → Option (Int32 × St)
  | 0, _, _, _, _ => none
  | n + 1, x1, x3, x4, σ => (if (σ.1 1085 0) ≤ x4 then grd (ib x1 1885) (some (σ.1 61 x1.toNatClampNeg, (si σ 1086 0 (σ.1 1085 0)))) else f_X12_fill_56 N (f_X12_fill_44 N n) N x1 x3 x4 1 σ)
def f_X12_fill (N : Nat) (x1 : Int32) (σ : St) : Option (Int32 × St) := (if (f_X12_in x1 1 144 σ) = 0 then some ((-2), σ) else bd (f_X12_makeFits N σ) (fun r2_ σ2 => (if r2_ = 0 then grd (ib x1 1885) ((if (σ2.1 61 x1.toNatClampNeg) < 1000000000 then f_X12_fill_44 N N x1 x1 0 σ2 else some ((-1), σ2))) else some (r2_, σ2))))
section
variable {p : Program} {l : Launch} {e : Env} {s : State} {m : MethodId} {args : Array Value} {below : List Frame} {meth : Method} {c : Code} {g : XG}
set_option maxRecDepth 4000 in
theorem w_X12_fill_188 (N : Nat) (k44 : Int32 → Int32 → Int32 → St → Option (Int32 × St)) {r : Int32} {σ' : St} (C : xC KM g RX12 cX12_fill 7 (some .int) p s m args meth c) (hk44 : ∀ (x1 : Int32) (x3 : Int32) (x4 : Int32) (σ : St) (H : Heap) (locs : List Loc) (ls : Array Slot), xW KM g s σ H locs → lv_has ls 7 [(0, .ref (g.q 0)), (1, .int x1), (3, .int x3), (4, .int x4)] → k44 x1 x3 x4 σ = some (r, σ') → W p l e rm_X12_fill s m args below meth c H locs 0 0 (MQ below (xPost KM g (some (.int r)) σ') args s 0 0 (xA KM g.q)) (F0 m 44 ls [])) : ∀ (n : Nat), ∀ (x1 : Int32) (x3 : Int32) (x4 : Int32) (x5 : Int32) (x6 : Int32) (σ : St) (H : Heap) (locs : List Loc) (ls : Array Slot), xW KM g s σ H locs → lv_has ls 7 [(0, .ref (g.q 0)), (1, .int x1), (3, .int x3), (4, .int x4), (5, .int x5), (6, .int x6)] → f_X12_fill_188 N k44 n x1 x3 x4 x5 x6 σ = some (r, σ') → W p l e rm_X12_fill s m args below meth c H locs 0 0 (MQ below (xPost KM g (some (.int r)) σ') args s 0 0 (xA KM g.q)) (F0 m 188 ls []) := by
  have hx := C.1
  have hb := C.2.1
  intro n
  induction n with
  | zero => intro x1 x3 x4 x5 x6 σ H locs ls hW hl h; rw [f_X12_fill_188] at h; cases h
  | succ n ih =>
    intro x1 x3 x4 x5 x6 σ H locs ls hW hl h
    rw [f_X12_fill_188] at h
    refine lv_iload hx hb dX12_fill_188 (lv_at hl 5 rfl) ?_
    refine lv_bipush (v := 12) hx hb dX12_fill_190 rfl ?_
    refine lv_icmp_ge (tgt := 233) hx hb dX12_fill_192 (by decide) (fun c20 => ?_) (fun c20 => ?_)
    · have h := xit c20 h
      refine lv_iload_n hx hb dX12_fill_233 rfl (lv_at hl 2 rfl) ?_
      refine lv_iload hx hb dX12_fill_234 (lv_at hl 4 rfl) ?_
      refine lv_isub hx hb dX12_fill_236 ?_
      refine lv_istore_n (lv' := [(3, .int (x3 - x5)), (0, .ref (g.q 0)), (1, .int x1), (4, .int x4), (5, .int x5), (6, .int x6)]) hx hb dX12_fill_237 rfl hl (Nat.le_of_ble_eq_true rfl) rfl (fun ls hl => ?_)
      refine lv_iinc (v := x4 + 1) (lv' := [(4, .int (x4 + 1)), (3, .int (x3 - x5)), (0, .ref (g.q 0)), (1, .int x1), (5, .int x5), (6, .int x6)]) hx hb dX12_fill_238 hl (k := 3) rfl rfl (Nat.le_of_ble_eq_true rfl) rfl (fun ls hl => ?_)
      refine lv_goto (tgt := 44) hx hb dX12_fill_241 (by decide) ?_
      exact hk44 x1 (x3 - x5) (x4 + 1) _ _ _ _ hW (lv_sub hl [2, 3, 1, 0] rfl) h
    · have h := xif c20 h
      refine lv_aload_n hx hb dX12_fill_195 rfl (lv_at hl 0 rfl) ?_
      refine xg_r C hW fg_12_206 KM_0 rfl dX12_fill_196 ?_
      refine lv_bipush (v := 12) hx hb dX12_fill_199 rfl ?_
      refine lv_iload hx hb dX12_fill_201 (lv_at hl 3 rfl) ?_
      refine lv_imul hx hb dX12_fill_203 ?_
      refine lv_iload hx hb dX12_fill_204 (lv_at hl 5 rfl) ?_
      refine lv_iadd hx hb dX12_fill_206 ?_
      refine lv_aload_n hx hb dX12_fill_207 rfl (lv_at hl 0 rfl) ?_
      refine xg_r C hW fg_12_194 KM_0 rfl dX12_fill_208 ?_
      refine lv_bipush (v := 12) hx hb dX12_fill_211 rfl ?_
      refine lv_bipush (v := 13) hx hb dX12_fill_213 rfl ?_
      refine lv_iload hx hb dX12_fill_215 (lv_at hl 3 rfl) ?_
      refine lv_imul hx hb dX12_fill_217 ?_
      refine lv_iload hx hb dX12_fill_218 (lv_at hl 4 rfl) ?_
      refine lv_iadd hx hb dX12_fill_220 ?_
      refine lv_imul hx hb dX12_fill_221 ?_
      refine lv_iload hx hb dX12_fill_222 (lv_at hl 5 rfl) ?_
      refine lv_iadd hx hb dX12_fill_224 ?_
      obtain ⟨g21, h⟩ := xgd h
      refine xa_i C hW KM_60 g21 (x := σ.1 60 ((12 * ((13 * x4) + x5)) + x6).toNatClampNeg) rfl dX12_fill_225 ?_
      obtain ⟨g22, h⟩ := xgd h
      refine xs_i C hW KM_64 g22 dX12_fill_226 (fun H locs hW => ?_)
      refine lv_iinc (v := x6 + 1) (lv' := [(6, .int (x6 + 1)), (0, .ref (g.q 0)), (1, .int x1), (3, .int x3), (4, .int x4), (5, .int x5)]) hx hb dX12_fill_227 hl (k := 5) rfl rfl (Nat.le_of_ble_eq_true rfl) rfl (fun ls hl => ?_)
      refine lv_goto (tgt := 188) hx hb dX12_fill_230 (by decide) ?_
      exact ih x1 x3 x4 x5 (x6 + 1) _ _ _ _ hW (lv_sub hl [1, 2, 3, 4, 5, 0] rfl) h
set_option maxRecDepth 4000 in
theorem w_X12_fill_56 (N : Nat) (k44 : Int32 → Int32 → Int32 → St → Option (Int32 × St)) {r : Int32} {σ' : St} (C : xC KM g RX12 cX12_fill 7 (some .int) p s m args meth c) (hk44 : ∀ (x1 : Int32) (x3 : Int32) (x4 : Int32) (σ : St) (H : Heap) (locs : List Loc) (ls : Array Slot), xW KM g s σ H locs → lv_has ls 7 [(0, .ref (g.q 0)), (1, .int x1), (3, .int x3), (4, .int x4)] → k44 x1 x3 x4 σ = some (r, σ') → W p l e rm_X12_fill s m args below meth c H locs 0 0 (MQ below (xPost KM g (some (.int r)) σ') args s 0 0 (xA KM g.q)) (F0 m 44 ls [])) : ∀ (n : Nat), ∀ (x1 : Int32) (x3 : Int32) (x4 : Int32) (x5 : Int32) (σ : St) (H : Heap) (locs : List Loc) (ls : Array Slot), xW KM g s σ H locs → lv_has ls 7 [(0, .ref (g.q 0)), (1, .int x1), (3, .int x3), (4, .int x4), (5, .int x5)] → f_X12_fill_56 N k44 n x1 x3 x4 x5 σ = some (r, σ') → W p l e rm_X12_fill s m args below meth c H locs 0 0 (MQ below (xPost KM g (some (.int r)) σ') args s 0 0 (xA KM g.q)) (F0 m 56 ls []) := by
  have hx := C.1
  have hb := C.2.1
  intro n
  induction n with
  | zero => intro x1 x3 x4 x5 σ H locs ls hW hl h; rw [f_X12_fill_56] at h; cases h
  | succ n ih =>
    intro x1 x3 x4 x5 σ H locs ls hW hl h
    rw [f_X12_fill_56] at h
    refine lv_iload hx hb dX12_fill_56 (lv_at hl 4 rfl) ?_
    refine lv_iload_n hx hb dX12_fill_58 rfl (lv_at hl 2 rfl) ?_
    refine lv_icmp_gt (tgt := 150) hx hb dX12_fill_59 (by decide) (fun c8 => ?_) (fun c8 => ?_)
    · have h := xit c8 h
      refine lv_iinc (v := x5 + 1) (lv' := [(5, .int (x5 + 1)), (0, .ref (g.q 0)), (1, .int x1), (3, .int x3), (4, .int x4)]) hx hb dX12_fill_150 hl (k := 4) rfl rfl (Nat.le_of_ble_eq_true rfl) rfl (fun ls hl => ?_)
      refine lv_goto (tgt := 56) hx hb dX12_fill_153 (by decide) ?_
      exact ih x1 x3 x4 (x5 + 1) _ _ _ _ hW (lv_sub hl [1, 2, 3, 4, 0] rfl) h
    · have h := xif c8 h
      refine lv_aload_n hx hb dX12_fill_62 rfl (lv_at hl 0 rfl) ?_
      refine xg_r C hW fg_12_188 KM_0 rfl dX12_fill_63 ?_
      refine lv_bipush (v := 13) hx hb dX12_fill_66 rfl ?_
      refine lv_iload hx hb dX12_fill_68 (lv_at hl 3 rfl) ?_
      refine lv_imul hx hb dX12_fill_70 ?_
      refine lv_iload hx hb dX12_fill_71 (lv_at hl 4 rfl) ?_
      refine lv_iadd hx hb dX12_fill_73 ?_
      obtain ⟨g9, h⟩ := xgd h
      refine xa_i C hW KM_58 g9 (x := σ.1 58 ((13 * x4) + x5).toNatClampNeg) rfl dX12_fill_74 ?_
      refine lv_if_eq (tgt := 150) hx hb dX12_fill_75 (by decide) (fun c10 => ?_) (fun c10 => ?_)
      · have h := xit c10 h
        refine lv_iinc (v := x5 + 1) (lv' := [(5, .int (x5 + 1)), (0, .ref (g.q 0)), (1, .int x1), (3, .int x3), (4, .int x4)]) hx hb dX12_fill_150 hl (k := 4) rfl rfl (Nat.le_of_ble_eq_true rfl) rfl (fun ls hl => ?_)
        refine lv_goto (tgt := 56) hx hb dX12_fill_153 (by decide) ?_
        exact ih x1 x3 x4 (x5 + 1) _ _ _ _ hW (lv_sub hl [1, 2, 3, 4, 0] rfl) h
      · have h := xif c10 h
        refine lv_aload_n hx hb dX12_fill_78 rfl (lv_at hl 0 rfl) ?_
        refine xg_r C hW fg_12_197 KM_0 rfl dX12_fill_79 ?_
        refine lv_sipush (v := 145) hx hb dX12_fill_82 rfl ?_
        refine lv_iload hx hb dX12_fill_85 (lv_at hl 3 rfl) ?_
        refine lv_iconst (v := 1) hx hb dX12_fill_87 rfl ?_
        refine lv_iadd hx hb dX12_fill_88 ?_
        refine lv_imul hx hb dX12_fill_89 ?_
        refine lv_iload_n hx hb dX12_fill_90 rfl (lv_at hl 2 rfl) ?_
        refine lv_iadd hx hb dX12_fill_91 ?_
        refine lv_iload hx hb dX12_fill_92 (lv_at hl 4 rfl) ?_
        refine lv_isub hx hb dX12_fill_94 ?_
        obtain ⟨g11, h⟩ := xgd h
        refine xa_i C hW KM_61 g11 (x := σ.1 61 (((145 * (x4 + 1)) + x3) - x5).toNatClampNeg) rfl dX12_fill_95 ?_
        refine lv_ldcw (v := 1000000000) hx hb C.ow (C.hts _ kc_X12_435) dX12_fill_96 ?_
        refine lv_icmp_ge (tgt := 150) hx hb dX12_fill_99 (by decide) (fun c12 => ?_) (fun c12 => ?_)
        · have h := xit c12 h
          refine lv_iinc (v := x5 + 1) (lv' := [(5, .int (x5 + 1)), (0, .ref (g.q 0)), (1, .int x1), (3, .int x3), (4, .int x4)]) hx hb dX12_fill_150 hl (k := 4) rfl rfl (Nat.le_of_ble_eq_true rfl) rfl (fun ls hl => ?_)
          refine lv_goto (tgt := 56) hx hb dX12_fill_153 (by decide) ?_
          exact ih x1 x3 x4 (x5 + 1) _ _ _ _ hW (lv_sub hl [1, 2, 3, 4, 0] rfl) h
        · have h := xif c12 h
          refine lv_aload_n hx hb dX12_fill_102 rfl (lv_at hl 0 rfl) ?_
          refine xg_r C hW fg_12_188 KM_0 rfl dX12_fill_103 ?_
          refine lv_bipush (v := 13) hx hb dX12_fill_106 rfl ?_
          refine lv_iload hx hb dX12_fill_108 (lv_at hl 3 rfl) ?_
          refine lv_imul hx hb dX12_fill_110 ?_
          refine lv_iload hx hb dX12_fill_111 (lv_at hl 4 rfl) ?_
          refine lv_iadd hx hb dX12_fill_113 ?_
          obtain ⟨g13, h⟩ := xgd h
          refine xa_i C hW KM_58 g13 (x := σ.1 58 ((13 * x4) + x5).toNatClampNeg) rfl dX12_fill_114 ?_
          refine lv_aload_n hx hb dX12_fill_115 rfl (lv_at hl 0 rfl) ?_
          refine xg_r C hW fg_12_197 KM_0 rfl dX12_fill_116 ?_
          refine lv_sipush (v := 145) hx hb dX12_fill_119 rfl ?_
          refine lv_iload hx hb dX12_fill_122 (lv_at hl 3 rfl) ?_
          refine lv_iconst (v := 1) hx hb dX12_fill_124 rfl ?_
          refine lv_iadd hx hb dX12_fill_125 ?_
          refine lv_imul hx hb dX12_fill_126 ?_
          refine lv_iload_n hx hb dX12_fill_127 rfl (lv_at hl 2 rfl) ?_
          refine lv_iadd hx hb dX12_fill_128 ?_
          refine lv_iload hx hb dX12_fill_129 (lv_at hl 4 rfl) ?_
          refine lv_isub hx hb dX12_fill_131 ?_
          obtain ⟨g14, h⟩ := xgd h
          refine xa_i C hW KM_61 g14 (x := σ.1 61 (((145 * (x4 + 1)) + x3) - x5).toNatClampNeg) rfl dX12_fill_132 ?_
          refine lv_iadd hx hb dX12_fill_133 ?_
          refine lv_aload_n hx hb dX12_fill_134 rfl (lv_at hl 0 rfl) ?_
          refine xg_r C hW fg_12_197 KM_0 rfl dX12_fill_135 ?_
          refine lv_sipush (v := 145) hx hb dX12_fill_138 rfl ?_
          refine lv_iload hx hb dX12_fill_141 (lv_at hl 3 rfl) ?_
          refine lv_imul hx hb dX12_fill_143 ?_
          refine lv_iload_n hx hb dX12_fill_144 rfl (lv_at hl 2 rfl) ?_
          refine lv_iadd hx hb dX12_fill_145 ?_
          obtain ⟨g15, h⟩ := xgd h
          refine xa_i C hW KM_61 g15 (x := σ.1 61 ((145 * x4) + x3).toNatClampNeg) rfl dX12_fill_146 ?_
          refine lv_icmp_eq (tgt := 156) hx hb dX12_fill_147 (by decide) (fun c16 => ?_) (fun c16 => ?_)
          · have h := xit c16 h
            refine lv_aload_n hx hb dX12_fill_156 rfl (lv_at hl 0 rfl) ?_
            refine xg_r C hW fg_12_200 KM_0 rfl dX12_fill_157 ?_
            refine lv_iload hx hb dX12_fill_160 (lv_at hl 3 rfl) ?_
            refine lv_iload hx hb dX12_fill_162 (lv_at hl 4 rfl) ?_
            obtain ⟨g17, h⟩ := xgd h
            refine xs_i C hW KM_62 g17 dX12_fill_164 (fun H locs hW => ?_)
            refine lv_aload_n hx hb dX12_fill_165 rfl (lv_at hl 0 rfl) ?_
            refine xg_r C hW fg_12_203 KM_0 rfl dX12_fill_166 ?_
            refine lv_iload hx hb dX12_fill_169 (lv_at hl 3 rfl) ?_
            refine lv_aload_n hx hb dX12_fill_171 rfl (lv_at hl 0 rfl) ?_
            refine xg_r C hW fg_12_191 KM_0 rfl dX12_fill_172 ?_
            refine lv_bipush (v := 13) hx hb dX12_fill_175 rfl ?_
            refine lv_iload hx hb dX12_fill_177 (lv_at hl 3 rfl) ?_
            refine lv_imul hx hb dX12_fill_179 ?_
            refine lv_iload hx hb dX12_fill_180 (lv_at hl 4 rfl) ?_
            refine lv_iadd hx hb dX12_fill_182 ?_
            obtain ⟨g18, h⟩ := xgd h
            refine xa_i C hW KM_59 g18 (x := σ.1 59 ((13 * x4) + x5).toNatClampNeg) rfl dX12_fill_183 ?_
            obtain ⟨g19, h⟩ := xgd h
            refine xs_i C hW KM_63 g19 dX12_fill_184 (fun H locs hW => ?_)
            refine lv_iconst (v := 0) hx hb dX12_fill_185 rfl ?_
            refine lv_istore (lv' := [(6, .int 0), (0, .ref (g.q 0)), (1, .int x1), (3, .int x3), (4, .int x4), (5, .int x5)]) hx hb dX12_fill_186 hl (Nat.le_of_ble_eq_true rfl) rfl (fun ls hl => ?_)
            exact w_X12_fill_188 N k44 C hk44 N x1 x3 x4 x5 0 _ _ _ _ hW (lv_sub hl [1, 2, 3, 4, 5, 0] rfl) h
          · have h := xif c16 h
            refine lv_iinc (v := x5 + 1) (lv' := [(5, .int (x5 + 1)), (0, .ref (g.q 0)), (1, .int x1), (3, .int x3), (4, .int x4)]) hx hb dX12_fill_150 hl (k := 4) rfl rfl (Nat.le_of_ble_eq_true rfl) rfl (fun ls hl => ?_)
            refine lv_goto (tgt := 56) hx hb dX12_fill_153 (by decide) ?_
            exact ih x1 x3 x4 (x5 + 1) _ _ _ _ hW (lv_sub hl [1, 2, 3, 4, 0] rfl) h
set_option maxRecDepth 4000 in
theorem w_X12_fill_44 (N : Nat) {r : Int32} {σ' : St} (C : xC KM g RX12 cX12_fill 7 (some .int) p s m args meth c) : ∀ (n : Nat), ∀ (x1 : Int32) (x3 : Int32) (x4 : Int32) (σ : St) (H : Heap) (locs : List Loc) (ls : Array Slot), xW KM g s σ H locs → lv_has ls 7 [(0, .ref (g.q 0)), (1, .int x1), (3, .int x3), (4, .int x4)] → f_X12_fill_44 N n x1 x3 x4 σ = some (r, σ') → W p l e rm_X12_fill s m args below meth c H locs 0 0 (MQ below (xPost KM g (some (.int r)) σ') args s 0 0 (xA KM g.q)) (F0 m 44 ls []) := by
  have hx := C.1
  have hb := C.2.1
  intro n
  induction n with
  | zero => intro x1 x3 x4 σ H locs ls hW hl h; rw [f_X12_fill_44] at h; cases h
  | succ n ih =>
    intro x1 x3 x4 σ H locs ls hW hl h
    rw [f_X12_fill_44] at h
    refine lv_iload hx hb dX12_fill_44 (lv_at hl 3 rfl) ?_
    refine lv_aload_n hx hb dX12_fill_46 rfl (lv_at hl 0 rfl) ?_
    refine xg_i C hW fg_12_515 KM_0 rfl (v := 1085) rfl (x := σ.1 1085 0) rfl dX12_fill_47 ?_
    refine lv_icmp_ge (tgt := 244) hx hb dX12_fill_50 (by decide) (fun c6 => ?_) (fun c6 => ?_)
    · have h := xit c6 h
      refine lv_aload_n hx hb dX12_fill_244 rfl (lv_at hl 0 rfl) ?_
      refine lv_aload_n hx hb dX12_fill_245 rfl (lv_at hl 0 rfl) ?_
      refine xg_i C hW fg_12_515 KM_0 rfl (v := 1085) rfl (x := σ.1 1085 0) rfl dX12_fill_246 ?_
      refine xp_i C hW fp_12_347 KM_0 rfl (v := 1086) rfl rfl rfl dX12_fill_249 (fun H locs hW => ?_)
      refine lv_aload_n hx hb dX12_fill_252 rfl (lv_at hl 0 rfl) ?_
      refine xg_r C hW fg_12_197 KM_0 rfl dX12_fill_253 ?_
      refine lv_iload_n hx hb dX12_fill_256 rfl (lv_at hl 1 rfl) ?_
      obtain ⟨g7, h⟩ := xgd h
      refine xa_i C hW KM_61 g7 (x := σ.1 61 x1.toNatClampNeg) rfl dX12_fill_257 ?_
      cases h
      exact xr_i C hW dX12_fill_258
    · have h := xif c6 h
      refine lv_iconst (v := 1) hx hb dX12_fill_53 rfl ?_
      refine lv_istore (lv' := [(5, .int 1), (0, .ref (g.q 0)), (1, .int x1), (3, .int x3), (4, .int x4)]) hx hb dX12_fill_54 hl (Nat.le_of_ble_eq_true rfl) rfl (fun ls hl => ?_)
      exact w_X12_fill_56 N (f_X12_fill_44 N n) C ih N x1 x3 x4 1 _ _ _ _ hW (lv_sub hl [1, 2, 3, 4, 0] rfl) h
set_option maxRecDepth 4000 in
theorem m_X12_fill (N : Nat) (x1 : Int32) (σ : St) {r : Int32} {σ' : St} (h : f_X12_fill N x1 σ = some (r, σ')) : xM l KM g yX12_fill cX12_fill 7 (some .int) rm_X12_fill [.ref (g.q 0), .int x1] σ (some (.int r)) σ' := by
  refine xmet pn_X12 rfl (Nat.le_of_ble_eq_true rfl) (lv := [(0, .ref (g.q 0)), (1, .int x1)]) rfl (fun p e s m args below meth c ls C hW hl => ?_)
  have hx := C.1
  have hb := C.2.1
  unfold f_X12_fill at h
  refine lv_iload_n hx hb dX12_fill_0 rfl (lv_at hl 1 rfl) ?_
  refine lv_iconst (v := 1) hx hb dX12_fill_1 rfl ?_
  refine lv_sipush (v := 144) hx hb dX12_fill_2 rfl ?_
  refine xc_S (As := [.int x1, .int 1, .int 144]) (rest := []) C hW (m_X12_in x1 1 144 _ rfl) mf_X12_in mt_X12_in ml_X12_295 ⟨rfl, rfl⟩ ⟨Nat.le_of_ble_eq_true rfl, Nat.le_of_ble_eq_true rfl⟩ hl.1 rfl rfl (Nat.le_of_ble_eq_true rfl) dX12_fill_5 (fun H locs hW => W.eq (g2 := F0 m 8 ls [.int (f_X12_in x1 1 144 σ)]) rfl ?_)
  refine lv_if_ne (tgt := 14) hx hb dX12_fill_8 (by decide) (fun c1 => ?_) (fun c1 => ?_)
  · have h := xif c1 h
    refine lv_aload_n hx hb dX12_fill_14 rfl (lv_at hl 0 rfl) ?_
    obtain ⟨r2_, σ2, e2, h⟩ := xbd h
    refine xc_V (As := []) (rest := []) C hW (m_X12_makeFits N _ e2) mf_X12_makeFits mv_X12_makeFits ml_X12_521 ⟨rfl, rfl⟩ ⟨Nat.le_of_ble_eq_true rfl, Nat.le_of_ble_eq_true rfl⟩ KM_0 rfl hl.1 rfl rfl (Nat.le_of_ble_eq_true rfl) dX12_fill_15 (fun H locs hW => W.eq (g2 := F0 m 18 ls [.int r2_]) rfl ?_)
    refine lv_istore_n (lv' := [(2, .int r2_), (0, .ref (g.q 0)), (1, .int x1)]) hx hb dX12_fill_18 rfl hl (Nat.le_of_ble_eq_true rfl) rfl (fun ls hl => ?_)
    refine lv_iload_n hx hb dX12_fill_19 rfl (lv_at hl 0 rfl) ?_
    refine lv_if_eq (tgt := 25) hx hb dX12_fill_20 (by decide) (fun c3 => ?_) (fun c3 => ?_)
    · have h := xit c3 h
      refine lv_aload_n hx hb dX12_fill_25 rfl (lv_at hl 1 rfl) ?_
      refine xg_r C hW fg_12_197 KM_0 rfl dX12_fill_26 ?_
      refine lv_iload_n hx hb dX12_fill_29 rfl (lv_at hl 2 rfl) ?_
      obtain ⟨g4, h⟩ := xgd h
      refine xa_i C hW KM_61 g4 (x := σ2.1 61 x1.toNatClampNeg) rfl dX12_fill_30 ?_
      refine lv_ldcw (v := 1000000000) hx hb C.ow (C.hts _ kc_X12_435) dX12_fill_31 ?_
      refine lv_icmp_lt (tgt := 39) hx hb dX12_fill_34 (by decide) (fun c5 => ?_) (fun c5 => ?_)
      · have h := xit c5 h
        refine lv_iload_n hx hb dX12_fill_39 rfl (lv_at hl 2 rfl) ?_
        refine lv_istore_n (lv' := [(3, .int x1), (2, .int r2_), (0, .ref (g.q 0)), (1, .int x1)]) hx hb dX12_fill_40 rfl hl (Nat.le_of_ble_eq_true rfl) rfl (fun ls hl => ?_)
        refine lv_iconst (v := 0) hx hb dX12_fill_41 rfl ?_
        refine lv_istore (lv' := [(4, .int 0), (3, .int x1), (2, .int r2_), (0, .ref (g.q 0)), (1, .int x1)]) hx hb dX12_fill_42 hl (Nat.le_of_ble_eq_true rfl) rfl (fun ls hl => ?_)
        exact w_X12_fill_44 N C N x1 x1 0 _ _ _ _ hW (lv_sub hl [3, 4, 1, 0] rfl) h
      · have h := xif c5 h
        refine lv_iconst (v := (-1)) hx hb dX12_fill_37 rfl ?_
        cases h
        exact xr_i C hW dX12_fill_38
    · have h := xif c3 h
      refine lv_iload_n hx hb dX12_fill_23 rfl (lv_at hl 0 rfl) ?_
      cases h
      exact xr_i C hW dX12_fill_24
  · have h := xit c1 h
    refine lv_bipush (v := (-2)) hx hb dX12_fill_11 rfl ?_
    cases h
    exact xr_i C hW dX12_fill_13
end
theorem dX12_filled_0 : decode cX12_filled 0 = .ok (.iload_n 1, 1) := by decide +kernel
theorem dX12_filled_1 : decode cX12_filled 1 = .ok (.iconst 0, 1) := by decide +kernel
theorem dX12_filled_2 : decode cX12_filled 2 = .ok (.aload_n 0, 1) := by decide +kernel
theorem dX12_filled_3 : decode cX12_filled 3 = .ok (.getfield 347, 3) := by decide +kernel
theorem dX12_filled_6 : decode cX12_filled 6 = .ok (.iconst 1, 1) := by decide +kernel
theorem dX12_filled_7 : decode cX12_filled 7 = .ok (.isub, 1) := by decide +kernel
theorem dX12_filled_8 : decode cX12_filled 8 = .ok (.invokestatic 295, 3) := by decide +kernel
theorem dX12_filled_11 : decode cX12_filled 11 = .ok (.ifCond .ne 5, 3) := by decide +kernel
theorem dX12_filled_14 : decode cX12_filled 14 = .ok (.iconst (-1), 1) := by decide +kernel
theorem dX12_filled_15 : decode cX12_filled 15 = .ok (.ireturn, 1) := by decide +kernel
theorem dX12_filled_16 : decode cX12_filled 16 = .ok (.iload_n 2, 1) := by decide +kernel
theorem dX12_filled_17 : decode cX12_filled 17 = .ok (.ifCond .eq 8, 3) := by decide +kernel
theorem dX12_filled_20 : decode cX12_filled 20 = .ok (.iload_n 2, 1) := by decide +kernel
theorem dX12_filled_21 : decode cX12_filled 21 = .ok (.iconst 1, 1) := by decide +kernel
theorem dX12_filled_22 : decode cX12_filled 22 = .ok (.if_icmp .ne 23, 3) := by decide +kernel
theorem dX12_filled_25 : decode cX12_filled 25 = .ok (.iload_n 2, 1) := by decide +kernel
theorem dX12_filled_26 : decode cX12_filled 26 = .ok (.ifCond .ne 12, 3) := by decide +kernel
theorem dX12_filled_29 : decode cX12_filled 29 = .ok (.aload_n 0, 1) := by decide +kernel
theorem dX12_filled_30 : decode cX12_filled 30 = .ok (.getfield 200, 3) := by decide +kernel
theorem dX12_filled_33 : decode cX12_filled 33 = .ok (.iload_n 1, 1) := by decide +kernel
theorem dX12_filled_34 : decode cX12_filled 34 = .ok (.iaload, 1) := by decide +kernel
theorem dX12_filled_35 : decode cX12_filled 35 = .ok (.goto 9, 3) := by decide +kernel
theorem dX12_filled_38 : decode cX12_filled 38 = .ok (.aload_n 0, 1) := by decide +kernel
theorem dX12_filled_39 : decode cX12_filled 39 = .ok (.getfield 203, 3) := by decide +kernel
theorem dX12_filled_42 : decode cX12_filled 42 = .ok (.iload_n 1, 1) := by decide +kernel
theorem dX12_filled_43 : decode cX12_filled 43 = .ok (.iaload, 1) := by decide +kernel
theorem dX12_filled_44 : decode cX12_filled 44 = .ok (.ireturn, 1) := by decide +kernel
theorem dX12_filled_45 : decode cX12_filled 45 = .ok (.iload_n 2, 1) := by decide +kernel
theorem dX12_filled_46 : decode cX12_filled 46 = .ok (.bipush 10, 2) := by decide +kernel
theorem dX12_filled_48 : decode cX12_filled 48 = .ok (.bipush 9, 2) := by decide +kernel
theorem dX12_filled_50 : decode cX12_filled 50 = .ok (.aload_n 0, 1) := by decide +kernel
theorem dX12_filled_51 : decode cX12_filled 51 = .ok (.getfield 203, 3) := by decide +kernel
theorem dX12_filled_54 : decode cX12_filled 54 = .ok (.iload_n 1, 1) := by decide +kernel
theorem dX12_filled_55 : decode cX12_filled 55 = .ok (.iaload, 1) := by decide +kernel
theorem dX12_filled_56 : decode cX12_filled 56 = .ok (.iadd, 1) := by decide +kernel
theorem dX12_filled_57 : decode cX12_filled 57 = .ok (.invokestatic 295, 3) := by decide +kernel
theorem dX12_filled_60 : decode cX12_filled 60 = .ok (.ifCond .eq 20, 3) := by decide +kernel
theorem dX12_filled_63 : decode cX12_filled 63 = .ok (.aload_n 0, 1) := by decide +kernel
theorem dX12_filled_64 : decode cX12_filled 64 = .ok (.getfield 206, 3) := by decide +kernel
theorem dX12_filled_67 : decode cX12_filled 67 = .ok (.bipush 12, 2) := by decide +kernel
theorem dX12_filled_69 : decode cX12_filled 69 = .ok (.iload_n 1, 1) := by decide +kernel
theorem dX12_filled_70 : decode cX12_filled 70 = .ok (.imul, 1) := by decide +kernel
theorem dX12_filled_71 : decode cX12_filled 71 = .ok (.iload_n 2, 1) := by decide +kernel
theorem dX12_filled_72 : decode cX12_filled 72 = .ok (.iadd, 1) := by decide +kernel
theorem dX12_filled_73 : decode cX12_filled 73 = .ok (.bipush 10, 2) := by decide +kernel
theorem dX12_filled_75 : decode cX12_filled 75 = .ok (.isub, 1) := by decide +kernel
theorem dX12_filled_76 : decode cX12_filled 76 = .ok (.iaload, 1) := by decide +kernel
theorem dX12_filled_77 : decode cX12_filled 77 = .ok (.goto 4, 3) := by decide +kernel
theorem dX12_filled_80 : decode cX12_filled 80 = .ok (.iconst (-1), 1) := by decide +kernel
theorem dX12_filled_81 : decode cX12_filled 81 = .ok (.ireturn, 1) := by decide +kernel
abbrev rm_X12_filled : Room := { frames := 1, cells := 0, slots := 0, locals := 22 }
def f_X12_filled_25 (x1 : Int32) (x2 : Int32) (σ : St) : Option Int32 := (if x2 = 0 then grd (ib x1 12) (some (σ.1 62 x1.toNatClampNeg)) else grd (ib x1 12) (some (σ.1 63 x1.toNatClampNeg)))
def f_X12_filled (x1 : Int32) (x2 : Int32) (σ : St) : Option Int32 := (if (f_X12_in x1 0 ((σ.1 1086 0) - 1) σ) = 0 then some ((-1)) else (if x2 = 0 then f_X12_filled_25 x1 x2 σ else (if x2 = 1 then f_X12_filled_25 x1 x2 σ else grd (ib x1 12) ((if (f_X12_in x2 10 (9 + (σ.1 63 x1.toNatClampNeg)) σ) = 0 then some ((-1)) else grd (ib (((12 * x1) + x2) - 10) 144) (some (σ.1 64 (((12 * x1) + x2) - 10).toNatClampNeg)))))))
section
variable {p : Program} {l : Launch} {e : Env} {s : State} {m : MethodId} {args : Array Value} {below : List Frame} {meth : Method} {c : Code} {g : XG}
set_option maxRecDepth 4000 in
theorem w_X12_filled_25 (σ : St) {r : Int32} (C : xC KM g RX12 cX12_filled 3 (some .int) p s m args meth c) : ∀ (x1 : Int32) (x2 : Int32) (H : Heap) (locs : List Loc) (ls : Array Slot), xW KM g s σ H locs → lv_has ls 3 [(0, .ref (g.q 0)), (1, .int x1), (2, .int x2)] → f_X12_filled_25 x1 x2 σ = some r → W p l e rm_X12_filled s m args below meth c H locs 0 0 (MQ below (xPost KM g (some (.int r)) σ) args s 0 0 (xA KM g.q)) (F0 m 25 ls []) := by
  have hx := C.1
  have hb := C.2.1
  intro x1 x2 H locs ls hW hl h
  unfold f_X12_filled_25 at h
  refine lv_iload_n hx hb dX12_filled_25 rfl (lv_at hl 2 rfl) ?_
  refine lv_if_ne (tgt := 38) hx hb dX12_filled_26 (by decide) (fun c7 => ?_) (fun c7 => ?_)
  · have h := xif c7 h
    refine lv_aload_n hx hb dX12_filled_38 rfl (lv_at hl 0 rfl) ?_
    refine xg_r C hW fg_12_203 KM_0 rfl dX12_filled_39 ?_
    refine lv_iload_n hx hb dX12_filled_42 rfl (lv_at hl 1 rfl) ?_
    obtain ⟨g8, h⟩ := xgd h
    refine xa_i C hW KM_63 g8 (x := σ.1 63 x1.toNatClampNeg) rfl dX12_filled_43 ?_
    cases h
    exact xr_i C hW dX12_filled_44
  · have h := xit c7 h
    refine lv_aload_n hx hb dX12_filled_29 rfl (lv_at hl 0 rfl) ?_
    refine xg_r C hW fg_12_200 KM_0 rfl dX12_filled_30 ?_
    refine lv_iload_n hx hb dX12_filled_33 rfl (lv_at hl 1 rfl) ?_
    obtain ⟨g9, h⟩ := xgd h
    refine xa_i C hW KM_62 g9 (x := σ.1 62 x1.toNatClampNeg) rfl dX12_filled_34 ?_
    refine lv_goto (tgt := 44) hx hb dX12_filled_35 (by decide) ?_
    cases h
    exact xr_i C hW dX12_filled_44
set_option maxRecDepth 4000 in
theorem m_X12_filled (x1 : Int32) (x2 : Int32) (σ : St) {r : Int32} (h : f_X12_filled x1 x2 σ = some r) : xM l KM g yX12_filled cX12_filled 3 (some .int) rm_X12_filled [.ref (g.q 0), .int x1, .int x2] σ (some (.int r)) σ := by
  refine xmet pn_X12 rfl (Nat.le_of_ble_eq_true rfl) (lv := [(0, .ref (g.q 0)), (1, .int x1), (2, .int x2)]) rfl (fun p e s m args below meth c ls C hW hl => ?_)
  have hx := C.1
  have hb := C.2.1
  unfold f_X12_filled at h
  refine lv_iload_n hx hb dX12_filled_0 rfl (lv_at hl 1 rfl) ?_
  refine lv_iconst (v := 0) hx hb dX12_filled_1 rfl ?_
  refine lv_aload_n hx hb dX12_filled_2 rfl (lv_at hl 0 rfl) ?_
  refine xg_i C hW fg_12_347 KM_0 rfl (v := 1086) rfl (x := σ.1 1086 0) rfl dX12_filled_3 ?_
  refine lv_iconst (v := 1) hx hb dX12_filled_6 rfl ?_
  refine lv_isub hx hb dX12_filled_7 ?_
  refine xc_S (As := [.int x1, .int 0, .int ((σ.1 1086 0) - 1)]) (rest := []) C hW (m_X12_in x1 0 ((σ.1 1086 0) - 1) _ rfl) mf_X12_in mt_X12_in ml_X12_295 ⟨rfl, rfl⟩ ⟨Nat.le_of_ble_eq_true rfl, Nat.le_of_ble_eq_true rfl⟩ hl.1 rfl rfl (Nat.le_of_ble_eq_true rfl) dX12_filled_8 (fun H locs hW => W.eq (g2 := F0 m 11 ls [.int (f_X12_in x1 0 ((σ.1 1086 0) - 1) σ)]) rfl ?_)
  refine lv_if_ne (tgt := 16) hx hb dX12_filled_11 (by decide) (fun c1 => ?_) (fun c1 => ?_)
  · have h := xif c1 h
    refine lv_iload_n hx hb dX12_filled_16 rfl (lv_at hl 2 rfl) ?_
    refine lv_if_eq (tgt := 25) hx hb dX12_filled_17 (by decide) (fun c2 => ?_) (fun c2 => ?_)
    · have h := xit c2 h
      exact w_X12_filled_25 σ C x1 x2 _ _ _ hW (lv_sub hl [0, 1, 2] rfl) h
    · have h := xif c2 h
      refine lv_iload_n hx hb dX12_filled_20 rfl (lv_at hl 2 rfl) ?_
      refine lv_iconst (v := 1) hx hb dX12_filled_21 rfl ?_
      refine lv_icmp_ne (tgt := 45) hx hb dX12_filled_22 (by decide) (fun c3 => ?_) (fun c3 => ?_)
      · have h := xif c3 h
        refine lv_iload_n hx hb dX12_filled_45 rfl (lv_at hl 2 rfl) ?_
        refine lv_bipush (v := 10) hx hb dX12_filled_46 rfl ?_
        refine lv_bipush (v := 9) hx hb dX12_filled_48 rfl ?_
        refine lv_aload_n hx hb dX12_filled_50 rfl (lv_at hl 0 rfl) ?_
        refine xg_r C hW fg_12_203 KM_0 rfl dX12_filled_51 ?_
        refine lv_iload_n hx hb dX12_filled_54 rfl (lv_at hl 1 rfl) ?_
        obtain ⟨g4, h⟩ := xgd h
        refine xa_i C hW KM_63 g4 (x := σ.1 63 x1.toNatClampNeg) rfl dX12_filled_55 ?_
        refine lv_iadd hx hb dX12_filled_56 ?_
        refine xc_S (As := [.int x2, .int 10, .int (9 + (σ.1 63 x1.toNatClampNeg))]) (rest := []) C hW (m_X12_in x2 10 (9 + (σ.1 63 x1.toNatClampNeg)) _ rfl) mf_X12_in mt_X12_in ml_X12_295 ⟨rfl, rfl⟩ ⟨Nat.le_of_ble_eq_true rfl, Nat.le_of_ble_eq_true rfl⟩ hl.1 rfl rfl (Nat.le_of_ble_eq_true rfl) dX12_filled_57 (fun H locs hW => W.eq (g2 := F0 m 60 ls [.int (f_X12_in x2 10 (9 + (σ.1 63 x1.toNatClampNeg)) σ)]) rfl ?_)
        refine lv_if_eq (tgt := 80) hx hb dX12_filled_60 (by decide) (fun c5 => ?_) (fun c5 => ?_)
        · have h := xit c5 h
          refine lv_iconst (v := (-1)) hx hb dX12_filled_80 rfl ?_
          cases h
          exact xr_i C hW dX12_filled_81
        · have h := xif c5 h
          refine lv_aload_n hx hb dX12_filled_63 rfl (lv_at hl 0 rfl) ?_
          refine xg_r C hW fg_12_206 KM_0 rfl dX12_filled_64 ?_
          refine lv_bipush (v := 12) hx hb dX12_filled_67 rfl ?_
          refine lv_iload_n hx hb dX12_filled_69 rfl (lv_at hl 1 rfl) ?_
          refine lv_imul hx hb dX12_filled_70 ?_
          refine lv_iload_n hx hb dX12_filled_71 rfl (lv_at hl 2 rfl) ?_
          refine lv_iadd hx hb dX12_filled_72 ?_
          refine lv_bipush (v := 10) hx hb dX12_filled_73 rfl ?_
          refine lv_isub hx hb dX12_filled_75 ?_
          obtain ⟨g6, h⟩ := xgd h
          refine xa_i C hW KM_64 g6 (x := σ.1 64 (((12 * x1) + x2) - 10).toNatClampNeg) rfl dX12_filled_76 ?_
          refine lv_goto (tgt := 81) hx hb dX12_filled_77 (by decide) ?_
          cases h
          exact xr_i C hW dX12_filled_81
      · have h := xit c3 h
        exact w_X12_filled_25 σ C x1 x2 _ _ _ hW (lv_sub hl [0, 1, 2] rfl) h
  · have h := xit c1 h
    refine lv_iconst (v := (-1)) hx hb dX12_filled_14 rfl ?_
    cases h
    exact xr_i C hW dX12_filled_15
end
theorem dX12_fills_0 : decode cX12_fills 0 = .ok (.aload_n 0, 1) := by decide +kernel
theorem dX12_fills_1 : decode cX12_fills 1 = .ok (.invokevirtual 521, 3) := by decide +kernel
theorem dX12_fills_4 : decode cX12_fills 4 = .ok (.istore_n 1, 1) := by decide +kernel
theorem dX12_fills_5 : decode cX12_fills 5 = .ok (.iload_n 1, 1) := by decide +kernel
theorem dX12_fills_6 : decode cX12_fills 6 = .ok (.ifCond .eq 5, 3) := by decide +kernel
theorem dX12_fills_9 : decode cX12_fills 9 = .ok (.iload_n 1, 1) := by decide +kernel
theorem dX12_fills_10 : decode cX12_fills 10 = .ok (.ireturn, 1) := by decide +kernel
theorem dX12_fills_11 : decode cX12_fills 11 = .ok (.iconst 0, 1) := by decide +kernel
theorem dX12_fills_12 : decode cX12_fills 12 = .ok (.istore_n 2, 1) := by decide +kernel
theorem dX12_fills_13 : decode cX12_fills 13 = .ok (.iconst 1, 1) := by decide +kernel
theorem dX12_fills_14 : decode cX12_fills 14 = .ok (.istore_n 3, 1) := by decide +kernel
theorem dX12_fills_15 : decode cX12_fills 15 = .ok (.iload_n 3, 1) := by decide +kernel
theorem dX12_fills_16 : decode cX12_fills 16 = .ok (.sipush 144, 3) := by decide +kernel
theorem dX12_fills_19 : decode cX12_fills 19 = .ok (.if_icmp .gt 29, 3) := by decide +kernel
theorem dX12_fills_22 : decode cX12_fills 22 = .ok (.iload_n 2, 1) := by decide +kernel
theorem dX12_fills_23 : decode cX12_fills 23 = .ok (.aload_n 0, 1) := by decide +kernel
theorem dX12_fills_24 : decode cX12_fills 24 = .ok (.getfield 197, 3) := by decide +kernel
theorem dX12_fills_27 : decode cX12_fills 27 = .ok (.iload_n 3, 1) := by decide +kernel
theorem dX12_fills_28 : decode cX12_fills 28 = .ok (.iaload, 1) := by decide +kernel
theorem dX12_fills_29 : decode cX12_fills 29 = .ok (.ldc_w 435, 3) := by decide +kernel
theorem dX12_fills_32 : decode cX12_fills 32 = .ok (.if_icmp .ge 7, 3) := by decide +kernel
theorem dX12_fills_35 : decode cX12_fills 35 = .ok (.iconst 1, 1) := by decide +kernel
theorem dX12_fills_36 : decode cX12_fills 36 = .ok (.goto 4, 3) := by decide +kernel
theorem dX12_fills_39 : decode cX12_fills 39 = .ok (.iconst 0, 1) := by decide +kernel
theorem dX12_fills_40 : decode cX12_fills 40 = .ok (.iadd, 1) := by decide +kernel
theorem dX12_fills_41 : decode cX12_fills 41 = .ok (.istore_n 2, 1) := by decide +kernel
theorem dX12_fills_42 : decode cX12_fills 42 = .ok (.iinc 3 1, 3) := by decide +kernel
theorem dX12_fills_45 : decode cX12_fills 45 = .ok (.goto (-30), 3) := by decide +kernel
theorem dX12_fills_48 : decode cX12_fills 48 = .ok (.iload_n 2, 1) := by decide +kernel
theorem dX12_fills_49 : decode cX12_fills 49 = .ok (.ireturn, 1) := by decide +kernel
abbrev rm_X12_fills : Room := { frames := 31, cells := 0, slots := 0, locals := 784 }
def f_X12_fills_15 (N : Nat) : Nat → Int32 → Int32 → St → Option (Int32 × St)
  | 0, _, _, _ => none
  | n + 1, x2, x3, σ => (if 144 < x3 then some (x2, σ) else grd (ib x3 1885) ((if 1000000000 ≤ (σ.1 61 x3.toNatClampNeg) then f_X12_fills_15 N n (x2 + 0) (x3 + 1) σ else f_X12_fills_15 N n (x2 + 1) (x3 + 1) σ)))
def f_X12_fills (N : Nat) (σ : St) : Option (Int32 × St) := bd (f_X12_makeFits N σ) (fun r1_ σ1 => (if r1_ = 0 then f_X12_fills_15 N N 0 1 σ1 else some (r1_, σ1)))
section
variable {p : Program} {l : Launch} {e : Env} {s : State} {m : MethodId} {args : Array Value} {below : List Frame} {meth : Method} {c : Code} {g : XG}
set_option maxRecDepth 4000 in
theorem w_X12_fills_15 (N : Nat) {r : Int32} {σ' : St} (C : xC KM g RX12 cX12_fills 4 (some .int) p s m args meth c) : ∀ (n : Nat), ∀ (x2 : Int32) (x3 : Int32) (σ : St) (H : Heap) (locs : List Loc) (ls : Array Slot), xW KM g s σ H locs → lv_has ls 4 [(0, .ref (g.q 0)), (2, .int x2), (3, .int x3)] → f_X12_fills_15 N n x2 x3 σ = some (r, σ') → W p l e rm_X12_fills s m args below meth c H locs 0 0 (MQ below (xPost KM g (some (.int r)) σ') args s 0 0 (xA KM g.q)) (F0 m 15 ls []) := by
  have hx := C.1
  have hb := C.2.1
  intro n
  induction n with
  | zero => intro x2 x3 σ H locs ls hW hl h; rw [f_X12_fills_15] at h; cases h
  | succ n ih =>
    intro x2 x3 σ H locs ls hW hl h
    rw [f_X12_fills_15] at h
    refine lv_iload_n hx hb dX12_fills_15 rfl (lv_at hl 2 rfl) ?_
    refine lv_sipush (v := 144) hx hb dX12_fills_16 rfl ?_
    refine lv_icmp_gt (tgt := 48) hx hb dX12_fills_19 (by decide) (fun c3 => ?_) (fun c3 => ?_)
    · have h := xit c3 h
      refine lv_iload_n hx hb dX12_fills_48 rfl (lv_at hl 1 rfl) ?_
      cases h
      exact xr_i C hW dX12_fills_49
    · have h := xif c3 h
      refine lv_iload_n hx hb dX12_fills_22 rfl (lv_at hl 1 rfl) ?_
      refine lv_aload_n hx hb dX12_fills_23 rfl (lv_at hl 0 rfl) ?_
      refine xg_r C hW fg_12_197 KM_0 rfl dX12_fills_24 ?_
      refine lv_iload_n hx hb dX12_fills_27 rfl (lv_at hl 2 rfl) ?_
      obtain ⟨g4, h⟩ := xgd h
      refine xa_i C hW KM_61 g4 (x := σ.1 61 x3.toNatClampNeg) rfl dX12_fills_28 ?_
      refine lv_ldcw (v := 1000000000) hx hb C.ow (C.hts _ kc_X12_435) dX12_fills_29 ?_
      refine lv_icmp_ge (tgt := 39) hx hb dX12_fills_32 (by decide) (fun c5 => ?_) (fun c5 => ?_)
      · have h := xit c5 h
        refine lv_iconst (v := 0) hx hb dX12_fills_39 rfl ?_
        refine lv_iadd hx hb dX12_fills_40 ?_
        refine lv_istore_n (lv' := [(2, .int (x2 + 0)), (0, .ref (g.q 0)), (3, .int x3)]) hx hb dX12_fills_41 rfl hl (Nat.le_of_ble_eq_true rfl) rfl (fun ls hl => ?_)
        refine lv_iinc (v := x3 + 1) (lv' := [(3, .int (x3 + 1)), (2, .int (x2 + 0)), (0, .ref (g.q 0))]) hx hb dX12_fills_42 hl (k := 2) rfl rfl (Nat.le_of_ble_eq_true rfl) rfl (fun ls hl => ?_)
        refine lv_goto (tgt := 15) hx hb dX12_fills_45 (by decide) ?_
        exact ih (x2 + 0) (x3 + 1) _ _ _ _ hW (lv_sub hl [2, 1, 0] rfl) h
      · have h := xif c5 h
        refine lv_iconst (v := 1) hx hb dX12_fills_35 rfl ?_
        refine lv_goto (tgt := 40) hx hb dX12_fills_36 (by decide) ?_
        refine lv_iadd hx hb dX12_fills_40 ?_
        refine lv_istore_n (lv' := [(2, .int (x2 + 1)), (0, .ref (g.q 0)), (3, .int x3)]) hx hb dX12_fills_41 rfl hl (Nat.le_of_ble_eq_true rfl) rfl (fun ls hl => ?_)
        refine lv_iinc (v := x3 + 1) (lv' := [(3, .int (x3 + 1)), (2, .int (x2 + 1)), (0, .ref (g.q 0))]) hx hb dX12_fills_42 hl (k := 2) rfl rfl (Nat.le_of_ble_eq_true rfl) rfl (fun ls hl => ?_)
        refine lv_goto (tgt := 15) hx hb dX12_fills_45 (by decide) ?_
        exact ih (x2 + 1) (x3 + 1) _ _ _ _ hW (lv_sub hl [2, 1, 0] rfl) h
set_option maxRecDepth 4000 in
theorem m_X12_fills (N : Nat) (σ : St) {r : Int32} {σ' : St} (h : f_X12_fills N σ = some (r, σ')) : xM l KM g yX12_fills cX12_fills 4 (some .int) rm_X12_fills [.ref (g.q 0)] σ (some (.int r)) σ' := by
  refine xmet pn_X12 rfl (Nat.le_of_ble_eq_true rfl) (lv := [(0, .ref (g.q 0))]) rfl (fun p e s m args below meth c ls C hW hl => ?_)
  have hx := C.1
  have hb := C.2.1
  unfold f_X12_fills at h
  refine lv_aload_n hx hb dX12_fills_0 rfl (lv_at hl 0 rfl) ?_
  obtain ⟨r1_, σ1, e1, h⟩ := xbd h
  refine xc_V (As := []) (rest := []) C hW (m_X12_makeFits N _ e1) mf_X12_makeFits mv_X12_makeFits ml_X12_521 ⟨rfl, rfl⟩ ⟨Nat.le_of_ble_eq_true rfl, Nat.le_of_ble_eq_true rfl⟩ KM_0 rfl hl.1 rfl rfl (Nat.le_of_ble_eq_true rfl) dX12_fills_1 (fun H locs hW => W.eq (g2 := F0 m 4 ls [.int r1_]) rfl ?_)
  refine lv_istore_n (lv' := [(1, .int r1_), (0, .ref (g.q 0))]) hx hb dX12_fills_4 rfl hl (Nat.le_of_ble_eq_true rfl) rfl (fun ls hl => ?_)
  refine lv_iload_n hx hb dX12_fills_5 rfl (lv_at hl 0 rfl) ?_
  refine lv_if_eq (tgt := 11) hx hb dX12_fills_6 (by decide) (fun c2 => ?_) (fun c2 => ?_)
  · have h := xit c2 h
    refine lv_iconst (v := 0) hx hb dX12_fills_11 rfl ?_
    refine lv_istore_n (lv' := [(2, .int 0), (1, .int r1_), (0, .ref (g.q 0))]) hx hb dX12_fills_12 rfl hl (Nat.le_of_ble_eq_true rfl) rfl (fun ls hl => ?_)
    refine lv_iconst (v := 1) hx hb dX12_fills_13 rfl ?_
    refine lv_istore_n (lv' := [(3, .int 1), (2, .int 0), (1, .int r1_), (0, .ref (g.q 0))]) hx hb dX12_fills_14 rfl hl (Nat.le_of_ble_eq_true rfl) rfl (fun ls hl => ?_)
    exact w_X12_fills_15 N C N 0 1 _ _ _ _ hW (lv_sub hl [3, 1, 0] rfl) h
  · have h := xif c2 h
    refine lv_iload_n hx hb dX12_fills_9 rfl (lv_at hl 0 rfl) ?_
    cases h
    exact xr_i C hW dX12_fills_10
end
theorem dX12_judge_0 : decode cX12_judge 0 = .ok (.aload_n 0, 1) := by decide +kernel
theorem dX12_judge_1 : decode cX12_judge 1 = .ok (.getfield 326, 3) := by decide +kernel
theorem dX12_judge_4 : decode cX12_judge 4 = .ok (.ifCond .eq 10, 3) := by decide +kernel
theorem dX12_judge_7 : decode cX12_judge 7 = .ok (.aload_n 0, 1) := by decide +kernel
theorem dX12_judge_8 : decode cX12_judge 8 = .ok (.getfield 515, 3) := by decide +kernel
theorem dX12_judge_11 : decode cX12_judge 11 = .ok (.ifCond .ne 6, 3) := by decide +kernel
theorem dX12_judge_14 : decode cX12_judge 14 = .ok (.bipush (-4), 2) := by decide +kernel
theorem dX12_judge_16 : decode cX12_judge 16 = .ok (.ireturn, 1) := by decide +kernel
theorem dX12_judge_17 : decode cX12_judge 17 = .ok (.iconst 0, 1) := by decide +kernel
theorem dX12_judge_18 : decode cX12_judge 18 = .ok (.istore_n 1, 1) := by decide +kernel
theorem dX12_judge_19 : decode cX12_judge 19 = .ok (.iload_n 1, 1) := by decide +kernel
theorem dX12_judge_20 : decode cX12_judge 20 = .ok (.aload_n 0, 1) := by decide +kernel
theorem dX12_judge_21 : decode cX12_judge 21 = .ok (.getfield 326, 3) := by decide +kernel
theorem dX12_judge_24 : decode cX12_judge 24 = .ok (.if_icmp .ge 24, 3) := by decide +kernel
theorem dX12_judge_27 : decode cX12_judge 27 = .ok (.aload_n 0, 1) := by decide +kernel
theorem dX12_judge_28 : decode cX12_judge 28 = .ok (.iload_n 1, 1) := by decide +kernel
theorem dX12_judge_29 : decode cX12_judge 29 = .ok (.iconst 4, 1) := by decide +kernel
theorem dX12_judge_30 : decode cX12_judge 30 = .ok (.invokevirtual 524, 3) := by decide +kernel
theorem dX12_judge_33 : decode cX12_judge 33 = .ok (.ifCond .ne 9, 3) := by decide +kernel
theorem dX12_judge_36 : decode cX12_judge 36 = .ok (.sipush 1000, 3) := by decide +kernel
theorem dX12_judge_39 : decode cX12_judge 39 = .ok (.iload_n 1, 1) := by decide +kernel
theorem dX12_judge_40 : decode cX12_judge 40 = .ok (.iadd, 1) := by decide +kernel
theorem dX12_judge_41 : decode cX12_judge 41 = .ok (.ireturn, 1) := by decide +kernel
theorem dX12_judge_42 : decode cX12_judge 42 = .ok (.iinc 1 1, 3) := by decide +kernel
theorem dX12_judge_45 : decode cX12_judge 45 = .ok (.goto (-26), 3) := by decide +kernel
theorem dX12_judge_48 : decode cX12_judge 48 = .ok (.aload_n 0, 1) := by decide +kernel
theorem dX12_judge_49 : decode cX12_judge 49 = .ok (.invokevirtual 462, 3) := by decide +kernel
theorem dX12_judge_52 : decode cX12_judge 52 = .ok (.iconst 1, 1) := by decide +kernel
theorem dX12_judge_53 : decode cX12_judge 53 = .ok (.istore_n 1, 1) := by decide +kernel
theorem dX12_judge_54 : decode cX12_judge 54 = .ok (.iconst 0, 1) := by decide +kernel
theorem dX12_judge_55 : decode cX12_judge 55 = .ok (.istore_n 2, 1) := by decide +kernel
theorem dX12_judge_56 : decode cX12_judge 56 = .ok (.iload_n 2, 1) := by decide +kernel
theorem dX12_judge_57 : decode cX12_judge 57 = .ok (.aload_n 0, 1) := by decide +kernel
theorem dX12_judge_58 : decode cX12_judge 58 = .ok (.getfield 515, 3) := by decide +kernel
theorem dX12_judge_61 : decode cX12_judge 61 = .ok (.if_icmp .ge 100, 3) := by decide +kernel
theorem dX12_judge_64 : decode cX12_judge 64 = .ok (.iconst 0, 1) := by decide +kernel
theorem dX12_judge_65 : decode cX12_judge 65 = .ok (.istore_n 3, 1) := by decide +kernel
theorem dX12_judge_66 : decode cX12_judge 66 = .ok (.iconst 0, 1) := by decide +kernel
theorem dX12_judge_67 : decode cX12_judge 67 = .ok (.istore 4, 2) := by decide +kernel
theorem dX12_judge_69 : decode cX12_judge 69 = .ok (.iload 4, 2) := by decide +kernel
theorem dX12_judge_71 : decode cX12_judge 71 = .ok (.aload_n 0, 1) := by decide +kernel
theorem dX12_judge_72 : decode cX12_judge 72 = .ok (.getfield 329, 3) := by decide +kernel
theorem dX12_judge_75 : decode cX12_judge 75 = .ok (.if_icmp .ge 68, 3) := by decide +kernel
theorem dX12_judge_78 : decode cX12_judge 78 = .ok (.iload 4, 2) := by decide +kernel
theorem dX12_judge_80 : decode cX12_judge 80 = .ok (.iconst 1, 1) := by decide +kernel
theorem dX12_judge_81 : decode cX12_judge 81 = .ok (.iadd, 1) := by decide +kernel
theorem dX12_judge_82 : decode cX12_judge 82 = .ok (.istore 5, 2) := by decide +kernel
theorem dX12_judge_84 : decode cX12_judge 84 = .ok (.iload 5, 2) := by decide +kernel
theorem dX12_judge_86 : decode cX12_judge 86 = .ok (.aload_n 0, 1) := by decide +kernel
theorem dX12_judge_87 : decode cX12_judge 87 = .ok (.getfield 329, 3) := by decide +kernel
theorem dX12_judge_90 : decode cX12_judge 90 = .ok (.if_icmp .gt 47, 3) := by decide +kernel
theorem dX12_judge_93 : decode cX12_judge 93 = .ok (.iload_n 1, 1) := by decide +kernel
theorem dX12_judge_94 : decode cX12_judge 94 = .ok (.iload 4, 2) := by decide +kernel
theorem dX12_judge_96 : decode cX12_judge 96 = .ok (.ishr, 1) := by decide +kernel
theorem dX12_judge_97 : decode cX12_judge 97 = .ok (.iconst 1, 1) := by decide +kernel
theorem dX12_judge_98 : decode cX12_judge 98 = .ok (.iand, 1) := by decide +kernel
theorem dX12_judge_99 : decode cX12_judge 99 = .ok (.iconst 1, 1) := by decide +kernel
theorem dX12_judge_100 : decode cX12_judge 100 = .ok (.if_icmp .ne 37, 3) := by decide +kernel
theorem dX12_judge_103 : decode cX12_judge 103 = .ok (.aload_n 0, 1) := by decide +kernel
theorem dX12_judge_104 : decode cX12_judge 104 = .ok (.aload_n 0, 1) := by decide +kernel
theorem dX12_judge_105 : decode cX12_judge 105 = .ok (.getfield 82, 3) := by decide +kernel
theorem dX12_judge_108 : decode cX12_judge 108 = .ok (.iload 4, 2) := by decide +kernel
theorem dX12_judge_110 : decode cX12_judge 110 = .ok (.iload 5, 2) := by decide +kernel
theorem dX12_judge_112 : decode cX12_judge 112 = .ok (.aload_n 0, 1) := by decide +kernel
theorem dX12_judge_113 : decode cX12_judge 113 = .ok (.getfield 185, 3) := by decide +kernel
theorem dX12_judge_116 : decode cX12_judge 116 = .ok (.iload_n 2, 1) := by decide +kernel
theorem dX12_judge_117 : decode cX12_judge 117 = .ok (.iaload, 1) := by decide +kernel
theorem dX12_judge_118 : decode cX12_judge 118 = .ok (.invokevirtual 482, 3) := by decide +kernel
theorem dX12_judge_121 : decode cX12_judge 121 = .ok (.ifCond .eq 10, 3) := by decide +kernel
theorem dX12_judge_124 : decode cX12_judge 124 = .ok (.iload_n 3, 1) := by decide +kernel
theorem dX12_judge_125 : decode cX12_judge 125 = .ok (.iconst 1, 1) := by decide +kernel
theorem dX12_judge_126 : decode cX12_judge 126 = .ok (.iload 5, 2) := by decide +kernel
theorem dX12_judge_128 : decode cX12_judge 128 = .ok (.ishl, 1) := by decide +kernel
theorem dX12_judge_129 : decode cX12_judge 129 = .ok (.ior, 1) := by decide +kernel
theorem dX12_judge_130 : decode cX12_judge 130 = .ok (.istore_n 3, 1) := by decide +kernel
theorem dX12_judge_131 : decode cX12_judge 131 = .ok (.iinc 5 1, 3) := by decide +kernel
theorem dX12_judge_134 : decode cX12_judge 134 = .ok (.goto (-50), 3) := by decide +kernel
theorem dX12_judge_137 : decode cX12_judge 137 = .ok (.iinc 4 1, 3) := by decide +kernel
theorem dX12_judge_140 : decode cX12_judge 140 = .ok (.goto (-71), 3) := by decide +kernel
theorem dX12_judge_143 : decode cX12_judge 143 = .ok (.iload_n 3, 1) := by decide +kernel
theorem dX12_judge_144 : decode cX12_judge 144 = .ok (.ifCond .ne 9, 3) := by decide +kernel
theorem dX12_judge_147 : decode cX12_judge 147 = .ok (.sipush 2000, 3) := by decide +kernel
theorem dX12_judge_150 : decode cX12_judge 150 = .ok (.iload_n 2, 1) := by decide +kernel
theorem dX12_judge_151 : decode cX12_judge 151 = .ok (.iadd, 1) := by decide +kernel
theorem dX12_judge_152 : decode cX12_judge 152 = .ok (.ireturn, 1) := by decide +kernel
theorem dX12_judge_153 : decode cX12_judge 153 = .ok (.iload_n 3, 1) := by decide +kernel
theorem dX12_judge_154 : decode cX12_judge 154 = .ok (.istore_n 1, 1) := by decide +kernel
theorem dX12_judge_155 : decode cX12_judge 155 = .ok (.iinc 2 1, 3) := by decide +kernel
theorem dX12_judge_158 : decode cX12_judge 158 = .ok (.goto (-102), 3) := by decide +kernel
theorem dX12_judge_161 : decode cX12_judge 161 = .ok (.iload_n 1, 1) := by decide +kernel
theorem dX12_judge_162 : decode cX12_judge 162 = .ok (.aload_n 0, 1) := by decide +kernel
theorem dX12_judge_163 : decode cX12_judge 163 = .ok (.getfield 329, 3) := by decide +kernel
theorem dX12_judge_166 : decode cX12_judge 166 = .ok (.ishr, 1) := by decide +kernel
theorem dX12_judge_167 : decode cX12_judge 167 = .ok (.iconst 1, 1) := by decide +kernel
theorem dX12_judge_168 : decode cX12_judge 168 = .ok (.iand, 1) := by decide +kernel
theorem dX12_judge_169 : decode cX12_judge 169 = .ok (.iconst 1, 1) := by decide +kernel
theorem dX12_judge_170 : decode cX12_judge 170 = .ok (.if_icmp .ne 7, 3) := by decide +kernel
theorem dX12_judge_173 : decode cX12_judge 173 = .ok (.iconst 0, 1) := by decide +kernel
theorem dX12_judge_174 : decode cX12_judge 174 = .ok (.goto 6, 3) := by decide +kernel
theorem dX12_judge_177 : decode cX12_judge 177 = .ok (.sipush 3000, 3) := by decide +kernel
theorem dX12_judge_180 : decode cX12_judge 180 = .ok (.ireturn, 1) := by decide +kernel
abbrev rm_X12_judge : Room := { frames := 4, cells := 0, slots := 0, locals := 87 }
def f_X12_judge_84 (N : Nat) (k56 : Int32 → Int32 → St → Option (Int32 × St)) (k69 : Int32 → Int32 → Int32 → Int32 → St → Option (Int32 × St)) : Nat → Int32 → Int32 → Int32 → Int32 → Int32 → St → Option (Int32 × St)
  | 0, _, _, _, _, _, _ => none
  | n + 1, x1, x2, x3, x4, x5, σ => (if (σ.1 1036 0) < x5 then k69 x1 x2 x3 (x4 + 1) σ else (if ((x1 >>> (x4 &&& 31)) &&& 1) = 1 then grd (ib x2 12) (bd (f_X12_isSpelling 23 24 N x4 x5 (σ.1 57 x2.toNatClampNeg) σ) (fun r14_ σ14 => (if r14_ = 0 then f_X12_judge_84 N k56 k69 n x1 x2 x3 x4 (x5 + 1) σ14 else f_X12_judge_84 N k56 k69 n x1 x2 (x3 ||| (1 <<< (x5 &&& 31))) x4 (x5 + 1) σ14))) else k69 x1 x2 x3 (x4 + 1) σ))
def f_X12_judge_69 (N : Nat) (k56 : Int32 → Int32 → St → Option (Int32 × St)) : Nat → Int32 → Int32 → Int32 → Int32 → St → Option (Int32 × St)
  | 0, _, _, _, _, _ => none
  | n + 1, x1, x2, x3, x4, σ => (if (σ.1 1036 0) ≤ x4 then (if x3 = 0 then some (2000 + x2, σ) else k56 x3 (x2 + 1) σ) else f_X12_judge_84 N k56 (f_X12_judge_69 N k56 n) N x1 x2 x3 x4 (x4 + 1) σ)
def f_X12_judge_56 (N : Nat) : Nat → Int32 → Int32 → St → Option (Int32 × St)
  | 0, _, _, _ => none
  | n + 1, x1, x2, σ => (if (σ.1 1085 0) ≤ x2 then (if ((x1 >>> ((σ.1 1036 0) &&& 31)) &&& 1) = 1 then some (0, σ) else some (3000, σ)) else f_X12_judge_69 N (f_X12_judge_56 N n) N x1 x2 0 0 σ)
def f_X12_judge_19 (N : Nat) : Nat → Int32 → St → Option (Int32 × St)
  | 0, _, _ => none
  | n + 1, x1, σ => (if (σ.1 1035 0) ≤ x1 then bo (f_X12_asListed N σ) (fun σ4 => f_X12_judge_56 N N 1 0 σ4) else bo (f_X12_block x1 4 σ) (fun r5_ => (if r5_ = 0 then some (1000 + x1, σ) else f_X12_judge_19 N n (x1 + 1) σ)))
def f_X12_judge (N : Nat) (σ : St) : Option (Int32 × St) := (if (σ.1 1035 0) = 0 then some ((-4), σ) else (if (σ.1 1085 0) = 0 then some ((-4), σ) else f_X12_judge_19 N N 0 σ))
section
variable {p : Program} {l : Launch} {e : Env} {s : State} {m : MethodId} {args : Array Value} {below : List Frame} {meth : Method} {c : Code} {g : XG}
set_option maxRecDepth 4000 in
theorem w_X12_judge_84 (N : Nat) (k56 : Int32 → Int32 → St → Option (Int32 × St)) (k69 : Int32 → Int32 → Int32 → Int32 → St → Option (Int32 × St)) {r : Int32} {σ' : St} (C : xC KM g RX12 cX12_judge 6 (some .int) p s m args meth c) (hk56 : ∀ (x1 : Int32) (x2 : Int32) (σ : St) (H : Heap) (locs : List Loc) (ls : Array Slot), xW KM g s σ H locs → lv_has ls 6 [(0, .ref (g.q 0)), (1, .int x1), (2, .int x2)] → k56 x1 x2 σ = some (r, σ') → W p l e rm_X12_judge s m args below meth c H locs 0 0 (MQ below (xPost KM g (some (.int r)) σ') args s 0 0 (xA KM g.q)) (F0 m 56 ls [])) (hk69 : ∀ (x1 : Int32) (x2 : Int32) (x3 : Int32) (x4 : Int32) (σ : St) (H : Heap) (locs : List Loc) (ls : Array Slot), xW KM g s σ H locs → lv_has ls 6 [(0, .ref (g.q 0)), (1, .int x1), (2, .int x2), (3, .int x3), (4, .int x4)] → k69 x1 x2 x3 x4 σ = some (r, σ') → W p l e rm_X12_judge s m args below meth c H locs 0 0 (MQ below (xPost KM g (some (.int r)) σ') args s 0 0 (xA KM g.q)) (F0 m 69 ls [])) : ∀ (n : Nat), ∀ (x1 : Int32) (x2 : Int32) (x3 : Int32) (x4 : Int32) (x5 : Int32) (σ : St) (H : Heap) (locs : List Loc) (ls : Array Slot), xW KM g s σ H locs → lv_has ls 6 [(0, .ref (g.q 0)), (1, .int x1), (2, .int x2), (3, .int x3), (4, .int x4), (5, .int x5)] → f_X12_judge_84 N k56 k69 n x1 x2 x3 x4 x5 σ = some (r, σ') → W p l e rm_X12_judge s m args below meth c H locs 0 0 (MQ below (xPost KM g (some (.int r)) σ') args s 0 0 (xA KM g.q)) (F0 m 84 ls []) := by
  have hx := C.1
  have hb := C.2.1
  intro n
  induction n with
  | zero => intro x1 x2 x3 x4 x5 σ H locs ls hW hl h; rw [f_X12_judge_84] at h; cases h
  | succ n ih =>
    intro x1 x2 x3 x4 x5 σ H locs ls hW hl h
    rw [f_X12_judge_84] at h
    refine lv_iload hx hb dX12_judge_84 (lv_at hl 5 rfl) ?_
    refine lv_aload_n hx hb dX12_judge_86 rfl (lv_at hl 0 rfl) ?_
    refine xg_i C hW fg_12_329 KM_0 rfl (v := 1036) rfl (x := σ.1 1036 0) rfl dX12_judge_87 ?_
    refine lv_icmp_gt (tgt := 137) hx hb dX12_judge_90 (by decide) (fun c11 => ?_) (fun c11 => ?_)
    · have h := xit c11 h
      refine lv_iinc (v := x4 + 1) (lv' := [(4, .int (x4 + 1)), (0, .ref (g.q 0)), (1, .int x1), (2, .int x2), (3, .int x3), (5, .int x5)]) hx hb dX12_judge_137 hl (k := 4) rfl rfl (Nat.le_of_ble_eq_true rfl) rfl (fun ls hl => ?_)
      refine lv_goto (tgt := 69) hx hb dX12_judge_140 (by decide) ?_
      exact hk69 x1 x2 x3 (x4 + 1) _ _ _ _ hW (lv_sub hl [1, 2, 3, 4, 0] rfl) h
    · have h := xif c11 h
      refine lv_iload_n hx hb dX12_judge_93 rfl (lv_at hl 1 rfl) ?_
      refine lv_iload hx hb dX12_judge_94 (lv_at hl 4 rfl) ?_
      refine lv_ishr hx hb dX12_judge_96 ?_
      refine lv_iconst (v := 1) hx hb dX12_judge_97 rfl ?_
      refine lv_iand hx hb dX12_judge_98 ?_
      refine lv_iconst (v := 1) hx hb dX12_judge_99 rfl ?_
      refine lv_icmp_ne (tgt := 137) hx hb dX12_judge_100 (by decide) (fun c12 => ?_) (fun c12 => ?_)
      · have h := xif c12 h
        refine lv_iinc (v := x4 + 1) (lv' := [(4, .int (x4 + 1)), (0, .ref (g.q 0)), (1, .int x1), (2, .int x2), (3, .int x3), (5, .int x5)]) hx hb dX12_judge_137 hl (k := 4) rfl rfl (Nat.le_of_ble_eq_true rfl) rfl (fun ls hl => ?_)
        refine lv_goto (tgt := 69) hx hb dX12_judge_140 (by decide) ?_
        exact hk69 x1 x2 x3 (x4 + 1) _ _ _ _ hW (lv_sub hl [1, 2, 3, 4, 0] rfl) h
      · have h := xit c12 h
        refine lv_aload_n hx hb dX12_judge_103 rfl (lv_at hl 0 rfl) ?_
        refine lv_aload_n hx hb dX12_judge_104 rfl (lv_at hl 0 rfl) ?_
        refine xg_r C hW fg_12_82 KM_0 rfl dX12_judge_105 ?_
        refine lv_iload hx hb dX12_judge_108 (lv_at hl 4 rfl) ?_
        refine lv_iload hx hb dX12_judge_110 (lv_at hl 5 rfl) ?_
        refine lv_aload_n hx hb dX12_judge_112 rfl (lv_at hl 0 rfl) ?_
        refine xg_r C hW fg_12_185 KM_0 rfl dX12_judge_113 ?_
        refine lv_iload_n hx hb dX12_judge_116 rfl (lv_at hl 2 rfl) ?_
        obtain ⟨g13, h⟩ := xgd h
        refine xa_i C hW KM_57 g13 (x := σ.1 57 x2.toNatClampNeg) rfl dX12_judge_117 ?_
        obtain ⟨r14_, σ14, e14, h⟩ := xbd h
        refine xc_V (As := [.ref (g.q 23), .int x4, .int x5, .int (σ.1 57 x2.toNatClampNeg)]) (rest := []) C hW (m_X12_isSpelling 23 24 KM_23 N x4 x5 (σ.1 57 x2.toNatClampNeg) _ e14) mf_X12_isSpelling mv_X12_isSpelling ml_X12_482 ⟨rfl, rfl⟩ ⟨Nat.le_of_ble_eq_true rfl, Nat.le_of_ble_eq_true rfl⟩ KM_0 rfl hl.1 rfl rfl (Nat.le_of_ble_eq_true rfl) dX12_judge_118 (fun H locs hW => W.eq (g2 := F0 m 121 ls [.int r14_]) rfl ?_)
        refine lv_if_eq (tgt := 131) hx hb dX12_judge_121 (by decide) (fun c15 => ?_) (fun c15 => ?_)
        · have h := xit c15 h
          refine lv_iinc (v := x5 + 1) (lv' := [(5, .int (x5 + 1)), (0, .ref (g.q 0)), (1, .int x1), (2, .int x2), (3, .int x3), (4, .int x4)]) hx hb dX12_judge_131 hl (k := 5) rfl rfl (Nat.le_of_ble_eq_true rfl) rfl (fun ls hl => ?_)
          refine lv_goto (tgt := 84) hx hb dX12_judge_134 (by decide) ?_
          exact ih x1 x2 x3 x4 (x5 + 1) _ _ _ _ hW (lv_sub hl [1, 2, 3, 4, 5, 0] rfl) h
        · have h := xif c15 h
          refine lv_iload_n hx hb dX12_judge_124 rfl (lv_at hl 3 rfl) ?_
          refine lv_iconst (v := 1) hx hb dX12_judge_125 rfl ?_
          refine lv_iload hx hb dX12_judge_126 (lv_at hl 5 rfl) ?_
          refine lv_ishl hx hb dX12_judge_128 ?_
          refine lv_ior hx hb dX12_judge_129 ?_
          refine lv_istore_n (lv' := [(3, .int (x3 ||| (1 <<< (x5 &&& 31)))), (0, .ref (g.q 0)), (1, .int x1), (2, .int x2), (4, .int x4), (5, .int x5)]) hx hb dX12_judge_130 rfl hl (Nat.le_of_ble_eq_true rfl) rfl (fun ls hl => ?_)
          refine lv_iinc (v := x5 + 1) (lv' := [(5, .int (x5 + 1)), (3, .int (x3 ||| (1 <<< (x5 &&& 31)))), (0, .ref (g.q 0)), (1, .int x1), (2, .int x2), (4, .int x4)]) hx hb dX12_judge_131 hl (k := 5) rfl rfl (Nat.le_of_ble_eq_true rfl) rfl (fun ls hl => ?_)
          refine lv_goto (tgt := 84) hx hb dX12_judge_134 (by decide) ?_
          exact ih x1 x2 (x3 ||| (1 <<< (x5 &&& 31))) x4 (x5 + 1) _ _ _ _ hW (lv_sub hl [2, 3, 4, 1, 5, 0] rfl) h
set_option maxRecDepth 4000 in
theorem w_X12_judge_69 (N : Nat) (k56 : Int32 → Int32 → St → Option (Int32 × St)) {r : Int32} {σ' : St} (C : xC KM g RX12 cX12_judge 6 (some .int) p s m args meth c) (hk56 : ∀ (x1 : Int32) (x2 : Int32) (σ : St) (H : Heap) (locs : List Loc) (ls : Array Slot), xW KM g s σ H locs → lv_has ls 6 [(0, .ref (g.q 0)), (1, .int x1), (2, .int x2)] → k56 x1 x2 σ = some (r, σ') → W p l e rm_X12_judge s m args below meth c H locs 0 0 (MQ below (xPost KM g (some (.int r)) σ') args s 0 0 (xA KM g.q)) (F0 m 56 ls [])) : ∀ (n : Nat), ∀ (x1 : Int32) (x2 : Int32) (x3 : Int32) (x4 : Int32) (σ : St) (H : Heap) (locs : List Loc) (ls : Array Slot), xW KM g s σ H locs → lv_has ls 6 [(0, .ref (g.q 0)), (1, .int x1), (2, .int x2), (3, .int x3), (4, .int x4)] → f_X12_judge_69 N k56 n x1 x2 x3 x4 σ = some (r, σ') → W p l e rm_X12_judge s m args below meth c H locs 0 0 (MQ below (xPost KM g (some (.int r)) σ') args s 0 0 (xA KM g.q)) (F0 m 69 ls []) := by
  have hx := C.1
  have hb := C.2.1
  intro n
  induction n with
  | zero => intro x1 x2 x3 x4 σ H locs ls hW hl h; rw [f_X12_judge_69] at h; cases h
  | succ n ih =>
    intro x1 x2 x3 x4 σ H locs ls hW hl h
    rw [f_X12_judge_69] at h
    refine lv_iload hx hb dX12_judge_69 (lv_at hl 4 rfl) ?_
    refine lv_aload_n hx hb dX12_judge_71 rfl (lv_at hl 0 rfl) ?_
    refine xg_i C hW fg_12_329 KM_0 rfl (v := 1036) rfl (x := σ.1 1036 0) rfl dX12_judge_72 ?_
    refine lv_icmp_ge (tgt := 143) hx hb dX12_judge_75 (by decide) (fun c9 => ?_) (fun c9 => ?_)
    · have h := xit c9 h
      refine lv_iload_n hx hb dX12_judge_143 rfl (lv_at hl 3 rfl) ?_
      refine lv_if_ne (tgt := 153) hx hb dX12_judge_144 (by decide) (fun c10 => ?_) (fun c10 => ?_)
      · have h := xif c10 h
        refine lv_iload_n hx hb dX12_judge_153 rfl (lv_at hl 3 rfl) ?_
        refine lv_istore_n (lv' := [(1, .int x3), (0, .ref (g.q 0)), (2, .int x2), (3, .int x3), (4, .int x4)]) hx hb dX12_judge_154 rfl hl (Nat.le_of_ble_eq_true rfl) rfl (fun ls hl => ?_)
        refine lv_iinc (v := x2 + 1) (lv' := [(2, .int (x2 + 1)), (1, .int x3), (0, .ref (g.q 0)), (3, .int x3), (4, .int x4)]) hx hb dX12_judge_155 hl (k := 2) rfl rfl (Nat.le_of_ble_eq_true rfl) rfl (fun ls hl => ?_)
        refine lv_goto (tgt := 56) hx hb dX12_judge_158 (by decide) ?_
        exact hk56 x3 (x2 + 1) _ _ _ _ hW (lv_sub hl [2, 1, 0] rfl) h
      · have h := xit c10 h
        refine lv_sipush (v := 2000) hx hb dX12_judge_147 rfl ?_
        refine lv_iload_n hx hb dX12_judge_150 rfl (lv_at hl 2 rfl) ?_
        refine lv_iadd hx hb dX12_judge_151 ?_
        cases h
        exact xr_i C hW dX12_judge_152
    · have h := xif c9 h
      refine lv_iload hx hb dX12_judge_78 (lv_at hl 4 rfl) ?_
      refine lv_iconst (v := 1) hx hb dX12_judge_80 rfl ?_
      refine lv_iadd hx hb dX12_judge_81 ?_
      refine lv_istore (lv' := [(5, .int (x4 + 1)), (0, .ref (g.q 0)), (1, .int x1), (2, .int x2), (3, .int x3), (4, .int x4)]) hx hb dX12_judge_82 hl (Nat.le_of_ble_eq_true rfl) rfl (fun ls hl => ?_)
      exact w_X12_judge_84 N k56 (f_X12_judge_69 N k56 n) C hk56 ih N x1 x2 x3 x4 (x4 + 1) _ _ _ _ hW (lv_sub hl [1, 2, 3, 4, 5, 0] rfl) h
set_option maxRecDepth 4000 in
theorem w_X12_judge_56 (N : Nat) {r : Int32} {σ' : St} (C : xC KM g RX12 cX12_judge 6 (some .int) p s m args meth c) : ∀ (n : Nat), ∀ (x1 : Int32) (x2 : Int32) (σ : St) (H : Heap) (locs : List Loc) (ls : Array Slot), xW KM g s σ H locs → lv_has ls 6 [(0, .ref (g.q 0)), (1, .int x1), (2, .int x2)] → f_X12_judge_56 N n x1 x2 σ = some (r, σ') → W p l e rm_X12_judge s m args below meth c H locs 0 0 (MQ below (xPost KM g (some (.int r)) σ') args s 0 0 (xA KM g.q)) (F0 m 56 ls []) := by
  have hx := C.1
  have hb := C.2.1
  intro n
  induction n with
  | zero => intro x1 x2 σ H locs ls hW hl h; rw [f_X12_judge_56] at h; cases h
  | succ n ih =>
    intro x1 x2 σ H locs ls hW hl h
    rw [f_X12_judge_56] at h
    refine lv_iload_n hx hb dX12_judge_56 rfl (lv_at hl 2 rfl) ?_
    refine lv_aload_n hx hb dX12_judge_57 rfl (lv_at hl 0 rfl) ?_
    refine xg_i C hW fg_12_515 KM_0 rfl (v := 1085) rfl (x := σ.1 1085 0) rfl dX12_judge_58 ?_
    refine lv_icmp_ge (tgt := 161) hx hb dX12_judge_61 (by decide) (fun c7 => ?_) (fun c7 => ?_)
    · have h := xit c7 h
      refine lv_iload_n hx hb dX12_judge_161 rfl (lv_at hl 1 rfl) ?_
      refine lv_aload_n hx hb dX12_judge_162 rfl (lv_at hl 0 rfl) ?_
      refine xg_i C hW fg_12_329 KM_0 rfl (v := 1036) rfl (x := σ.1 1036 0) rfl dX12_judge_163 ?_
      refine lv_ishr hx hb dX12_judge_166 ?_
      refine lv_iconst (v := 1) hx hb dX12_judge_167 rfl ?_
      refine lv_iand hx hb dX12_judge_168 ?_
      refine lv_iconst (v := 1) hx hb dX12_judge_169 rfl ?_
      refine lv_icmp_ne (tgt := 177) hx hb dX12_judge_170 (by decide) (fun c8 => ?_) (fun c8 => ?_)
      · have h := xif c8 h
        refine lv_sipush (v := 3000) hx hb dX12_judge_177 rfl ?_
        cases h
        exact xr_i C hW dX12_judge_180
      · have h := xit c8 h
        refine lv_iconst (v := 0) hx hb dX12_judge_173 rfl ?_
        refine lv_goto (tgt := 180) hx hb dX12_judge_174 (by decide) ?_
        cases h
        exact xr_i C hW dX12_judge_180
    · have h := xif c7 h
      refine lv_iconst (v := 0) hx hb dX12_judge_64 rfl ?_
      refine lv_istore_n (lv' := [(3, .int 0), (0, .ref (g.q 0)), (1, .int x1), (2, .int x2)]) hx hb dX12_judge_65 rfl hl (Nat.le_of_ble_eq_true rfl) rfl (fun ls hl => ?_)
      refine lv_iconst (v := 0) hx hb dX12_judge_66 rfl ?_
      refine lv_istore (lv' := [(4, .int 0), (3, .int 0), (0, .ref (g.q 0)), (1, .int x1), (2, .int x2)]) hx hb dX12_judge_67 hl (Nat.le_of_ble_eq_true rfl) rfl (fun ls hl => ?_)
      exact w_X12_judge_69 N (f_X12_judge_56 N n) C ih N x1 x2 0 0 _ _ _ _ hW (lv_sub hl [2, 3, 4, 1, 0] rfl) h
set_option maxRecDepth 4000 in
theorem w_X12_judge_19 (N : Nat) {r : Int32} {σ' : St} (C : xC KM g RX12 cX12_judge 6 (some .int) p s m args meth c) : ∀ (n : Nat), ∀ (x1 : Int32) (σ : St) (H : Heap) (locs : List Loc) (ls : Array Slot), xW KM g s σ H locs → lv_has ls 6 [(0, .ref (g.q 0)), (1, .int x1)] → f_X12_judge_19 N n x1 σ = some (r, σ') → W p l e rm_X12_judge s m args below meth c H locs 0 0 (MQ below (xPost KM g (some (.int r)) σ') args s 0 0 (xA KM g.q)) (F0 m 19 ls []) := by
  have hx := C.1
  have hb := C.2.1
  intro n
  induction n with
  | zero => intro x1 σ H locs ls hW hl h; rw [f_X12_judge_19] at h; cases h
  | succ n ih =>
    intro x1 σ H locs ls hW hl h
    rw [f_X12_judge_19] at h
    refine lv_iload_n hx hb dX12_judge_19 rfl (lv_at hl 1 rfl) ?_
    refine lv_aload_n hx hb dX12_judge_20 rfl (lv_at hl 0 rfl) ?_
    refine xg_i C hW fg_12_326 KM_0 rfl (v := 1035) rfl (x := σ.1 1035 0) rfl dX12_judge_21 ?_
    refine lv_icmp_ge (tgt := 48) hx hb dX12_judge_24 (by decide) (fun c3 => ?_) (fun c3 => ?_)
    · have h := xit c3 h
      refine lv_aload_n hx hb dX12_judge_48 rfl (lv_at hl 0 rfl) ?_
      obtain ⟨σ4, e4, h⟩ := xbo h
      refine xc_V (As := []) (rest := []) C hW (m_X12_asListed N _ e4) mf_X12_asListed mv_X12_asListed ml_X12_462 ⟨rfl, rfl⟩ ⟨Nat.le_of_ble_eq_true rfl, Nat.le_of_ble_eq_true rfl⟩ KM_0 rfl hl.1 rfl rfl (Nat.le_of_ble_eq_true rfl) dX12_judge_49 (fun H locs hW => W.eq (g2 := F0 m 52 ls []) rfl ?_)
      refine lv_iconst (v := 1) hx hb dX12_judge_52 rfl ?_
      refine lv_istore_n (lv' := [(1, .int 1), (0, .ref (g.q 0))]) hx hb dX12_judge_53 rfl hl (Nat.le_of_ble_eq_true rfl) rfl (fun ls hl => ?_)
      refine lv_iconst (v := 0) hx hb dX12_judge_54 rfl ?_
      refine lv_istore_n (lv' := [(2, .int 0), (1, .int 1), (0, .ref (g.q 0))]) hx hb dX12_judge_55 rfl hl (Nat.le_of_ble_eq_true rfl) rfl (fun ls hl => ?_)
      exact w_X12_judge_56 N C N 1 0 _ _ _ _ hW (lv_sub hl [2, 1, 0] rfl) h
    · have h := xif c3 h
      refine lv_aload_n hx hb dX12_judge_27 rfl (lv_at hl 0 rfl) ?_
      refine lv_iload_n hx hb dX12_judge_28 rfl (lv_at hl 1 rfl) ?_
      refine lv_iconst (v := 4) hx hb dX12_judge_29 rfl ?_
      obtain ⟨r5_, e5, h⟩ := xbo h
      refine xc_V (As := [.int x1, .int 4]) (rest := []) C hW (m_X12_block x1 4 _ e5) mf_X12_block mv_X12_block ml_X12_524 ⟨rfl, rfl⟩ ⟨Nat.le_of_ble_eq_true rfl, Nat.le_of_ble_eq_true rfl⟩ KM_0 rfl hl.1 rfl rfl (Nat.le_of_ble_eq_true rfl) dX12_judge_30 (fun H locs hW => W.eq (g2 := F0 m 33 ls [.int r5_]) rfl ?_)
      refine lv_if_ne (tgt := 42) hx hb dX12_judge_33 (by decide) (fun c6 => ?_) (fun c6 => ?_)
      · have h := xif c6 h
        refine lv_iinc (v := x1 + 1) (lv' := [(1, .int (x1 + 1)), (0, .ref (g.q 0))]) hx hb dX12_judge_42 hl (k := 1) rfl rfl (Nat.le_of_ble_eq_true rfl) rfl (fun ls hl => ?_)
        refine lv_goto (tgt := 19) hx hb dX12_judge_45 (by decide) ?_
        exact ih (x1 + 1) _ _ _ _ hW (lv_sub hl [1, 0] rfl) h
      · have h := xit c6 h
        refine lv_sipush (v := 1000) hx hb dX12_judge_36 rfl ?_
        refine lv_iload_n hx hb dX12_judge_39 rfl (lv_at hl 1 rfl) ?_
        refine lv_iadd hx hb dX12_judge_40 ?_
        cases h
        exact xr_i C hW dX12_judge_41
set_option maxRecDepth 4000 in
theorem m_X12_judge (N : Nat) (σ : St) {r : Int32} {σ' : St} (h : f_X12_judge N σ = some (r, σ')) : xM l KM g yX12_judge cX12_judge 6 (some .int) rm_X12_judge [.ref (g.q 0)] σ (some (.int r)) σ' := by
  refine xmet pn_X12 rfl (Nat.le_of_ble_eq_true rfl) (lv := [(0, .ref (g.q 0))]) rfl (fun p e s m args below meth c ls C hW hl => ?_)
  have hx := C.1
  have hb := C.2.1
  unfold f_X12_judge at h
  refine lv_aload_n hx hb dX12_judge_0 rfl (lv_at hl 0 rfl) ?_
  refine xg_i C hW fg_12_326 KM_0 rfl (v := 1035) rfl (x := σ.1 1035 0) rfl dX12_judge_1 ?_
  refine lv_if_eq (tgt := 14) hx hb dX12_judge_4 (by decide) (fun c1 => ?_) (fun c1 => ?_)
  · have h := xit c1 h
    refine lv_bipush (v := (-4)) hx hb dX12_judge_14 rfl ?_
    cases h
    exact xr_i C hW dX12_judge_16
  · have h := xif c1 h
    refine lv_aload_n hx hb dX12_judge_7 rfl (lv_at hl 0 rfl) ?_
    refine xg_i C hW fg_12_515 KM_0 rfl (v := 1085) rfl (x := σ.1 1085 0) rfl dX12_judge_8 ?_
    refine lv_if_ne (tgt := 17) hx hb dX12_judge_11 (by decide) (fun c2 => ?_) (fun c2 => ?_)
    · have h := xif c2 h
      refine lv_iconst (v := 0) hx hb dX12_judge_17 rfl ?_
      refine lv_istore_n (lv' := [(1, .int 0), (0, .ref (g.q 0))]) hx hb dX12_judge_18 rfl hl (Nat.le_of_ble_eq_true rfl) rfl (fun ls hl => ?_)
      exact w_X12_judge_19 N C N 0 _ _ _ _ hW (lv_sub hl [1, 0] rfl) h
    · have h := xit c2 h
      refine lv_bipush (v := (-4)) hx hb dX12_judge_14 rfl ?_
      cases h
      exact xr_i C hW dX12_judge_16
end
