theorem dX12_value_0 : decode cX12_value 0 = .ok (.aload_n 0, 1) := by decide +kernel
theorem dX12_value_1 : decode cX12_value 1 = .ok (.invokevirtual 320, 3) := by decide +kernel
theorem dX12_value_4 : decode cX12_value 4 = .ok (.iload_n 1, 1) := by decide +kernel
theorem dX12_value_5 : decode cX12_value 5 = .ok (.iconst 0, 1) := by decide +kernel
theorem dX12_value_6 : decode cX12_value 6 = .ok (.aload_n 0, 1) := by decide +kernel
theorem dX12_value_7 : decode cX12_value 7 = .ok (.getfield 21, 3) := by decide +kernel
theorem dX12_value_10 : decode cX12_value 10 = .ok (.iconst 0, 1) := by decide +kernel
theorem dX12_value_11 : decode cX12_value 11 = .ok (.iaload, 1) := by decide +kernel
theorem dX12_value_12 : decode cX12_value 12 = .ok (.iconst 1, 1) := by decide +kernel
theorem dX12_value_13 : decode cX12_value 13 = .ok (.isub, 1) := by decide +kernel
theorem dX12_value_14 : decode cX12_value 14 = .ok (.invokestatic 295, 3) := by decide +kernel
theorem dX12_value_17 : decode cX12_value 17 = .ok (.ifCond .eq 24, 3) := by decide +kernel
theorem dX12_value_20 : decode cX12_value 20 = .ok (.iload_n 2, 1) := by decide +kernel
theorem dX12_value_21 : decode cX12_value 21 = .ok (.invokestatic 495, 3) := by decide +kernel
theorem dX12_value_24 : decode cX12_value 24 = .ok (.ifCond .eq 17, 3) := by decide +kernel
theorem dX12_value_27 : decode cX12_value 27 = .ok (.iload_n 3, 1) := by decide +kernel
theorem dX12_value_28 : decode cX12_value 28 = .ok (.aload_n 0, 1) := by decide +kernel
theorem dX12_value_29 : decode cX12_value 29 = .ok (.getfield 338, 3) := by decide +kernel
theorem dX12_value_32 : decode cX12_value 32 = .ok (.sipush 999, 3) := by decide +kernel
theorem dX12_value_35 : decode cX12_value 35 = .ok (.invokestatic 295, 3) := by decide +kernel
theorem dX12_value_38 : decode cX12_value 38 = .ok (.ifCond .ne 6, 3) := by decide +kernel
theorem dX12_value_41 : decode cX12_value 41 = .ok (.bipush (-2), 2) := by decide +kernel
theorem dX12_value_43 : decode cX12_value 43 = .ok (.ireturn, 1) := by decide +kernel
theorem dX12_value_44 : decode cX12_value 44 = .ok (.aload_n 0, 1) := by decide +kernel
theorem dX12_value_45 : decode cX12_value 45 = .ok (.getfield 258, 3) := by decide +kernel
theorem dX12_value_48 : decode cX12_value 48 = .ok (.istore 4, 2) := by decide +kernel
theorem dX12_value_50 : decode cX12_value 50 = .ok (.aload_n 0, 1) := by decide +kernel
theorem dX12_value_51 : decode cX12_value 51 = .ok (.getfield 236, 3) := by decide +kernel
theorem dX12_value_54 : decode cX12_value 54 = .ok (.aload_n 0, 1) := by decide +kernel
theorem dX12_value_55 : decode cX12_value 55 = .ok (.getfield 258, 3) := by decide +kernel
theorem dX12_value_58 : decode cX12_value 58 = .ok (.isub, 1) := by decide +kernel
theorem dX12_value_59 : decode cX12_value 59 = .ok (.istore 5, 2) := by decide +kernel
theorem dX12_value_61 : decode cX12_value 61 = .ok (.aload_n 0, 1) := by decide +kernel
theorem dX12_value_62 : decode cX12_value 62 = .ok (.invokevirtual 310, 3) := by decide +kernel
theorem dX12_value_65 : decode cX12_value 65 = .ok (.ifCond .eq 13, 3) := by decide +kernel
theorem dX12_value_68 : decode cX12_value 68 = .ok (.iload 5, 2) := by decide +kernel
theorem dX12_value_70 : decode cX12_value 70 = .ok (.iconst 4, 1) := by decide +kernel
theorem dX12_value_71 : decode cX12_value 71 = .ok (.if_icmp .ge 7, 3) := by decide +kernel
theorem dX12_value_74 : decode cX12_value 74 = .ok (.iconst 1, 1) := by decide +kernel
theorem dX12_value_75 : decode cX12_value 75 = .ok (.goto 4, 3) := by decide +kernel
theorem dX12_value_78 : decode cX12_value 78 = .ok (.iconst 0, 1) := by decide +kernel
theorem dX12_value_79 : decode cX12_value 79 = .ok (.istore 6, 2) := by decide +kernel
theorem dX12_value_81 : decode cX12_value 81 = .ok (.iload 6, 2) := by decide +kernel
theorem dX12_value_83 : decode cX12_value 83 = .ok (.ifCond .eq 7, 3) := by decide +kernel
theorem dX12_value_86 : decode cX12_value 86 = .ok (.aload_n 0, 1) := by decide +kernel
theorem dX12_value_87 : decode cX12_value 87 = .ok (.invokevirtual 239, 3) := by decide +kernel
theorem dX12_value_90 : decode cX12_value 90 = .ok (.iload 6, 2) := by decide +kernel
theorem dX12_value_92 : decode cX12_value 92 = .ok (.ifCond .eq 12, 3) := by decide +kernel
theorem dX12_value_95 : decode cX12_value 95 = .ok (.aload_n 0, 1) := by decide +kernel
theorem dX12_value_96 : decode cX12_value 96 = .ok (.getfield 264, 3) := by decide +kernel
theorem dX12_value_99 : decode cX12_value 99 = .ok (.bipush 10, 2) := by decide +kernel
theorem dX12_value_101 : decode cX12_value 101 = .ok (.if_icmp .eq 5, 3) := by decide +kernel
theorem dX12_value_104 : decode cX12_value 104 = .ok (.iconst (-1), 1) := by decide +kernel
theorem dX12_value_105 : decode cX12_value 105 = .ok (.ireturn, 1) := by decide +kernel
theorem dX12_value_106 : decode cX12_value 106 = .ok (.aload_n 0, 1) := by decide +kernel
theorem dX12_value_107 : decode cX12_value 107 = .ok (.getfield 335, 3) := by decide +kernel
theorem dX12_value_110 : decode cX12_value 110 = .ok (.bipush 60, 2) := by decide +kernel
theorem dX12_value_112 : decode cX12_value 112 = .ok (.if_icmp .ne 6, 3) := by decide +kernel
theorem dX12_value_115 : decode cX12_value 115 = .ok (.bipush (-3), 2) := by decide +kernel
theorem dX12_value_117 : decode cX12_value 117 = .ok (.ireturn, 1) := by decide +kernel
theorem dX12_value_118 : decode cX12_value 118 = .ok (.aload_n 0, 1) := by decide +kernel
theorem dX12_value_119 : decode cX12_value 119 = .ok (.getfield 209, 3) := by decide +kernel
theorem dX12_value_122 : decode cX12_value 122 = .ok (.aload_n 0, 1) := by decide +kernel
theorem dX12_value_123 : decode cX12_value 123 = .ok (.getfield 335, 3) := by decide +kernel
theorem dX12_value_126 : decode cX12_value 126 = .ok (.iload_n 1, 1) := by decide +kernel
theorem dX12_value_127 : decode cX12_value 127 = .ok (.iastore, 1) := by decide +kernel
theorem dX12_value_128 : decode cX12_value 128 = .ok (.aload_n 0, 1) := by decide +kernel
theorem dX12_value_129 : decode cX12_value 129 = .ok (.getfield 212, 3) := by decide +kernel
theorem dX12_value_132 : decode cX12_value 132 = .ok (.aload_n 0, 1) := by decide +kernel
theorem dX12_value_133 : decode cX12_value 133 = .ok (.getfield 335, 3) := by decide +kernel
theorem dX12_value_136 : decode cX12_value 136 = .ok (.iload_n 2, 1) := by decide +kernel
theorem dX12_value_137 : decode cX12_value 137 = .ok (.iastore, 1) := by decide +kernel
theorem dX12_value_138 : decode cX12_value 138 = .ok (.aload_n 0, 1) := by decide +kernel
theorem dX12_value_139 : decode cX12_value 139 = .ok (.getfield 215, 3) := by decide +kernel
theorem dX12_value_142 : decode cX12_value 142 = .ok (.aload_n 0, 1) := by decide +kernel
theorem dX12_value_143 : decode cX12_value 143 = .ok (.getfield 335, 3) := by decide +kernel
theorem dX12_value_146 : decode cX12_value 146 = .ok (.iload_n 3, 1) := by decide +kernel
theorem dX12_value_147 : decode cX12_value 147 = .ok (.iastore, 1) := by decide +kernel
theorem dX12_value_148 : decode cX12_value 148 = .ok (.aload_n 0, 1) := by decide +kernel
theorem dX12_value_149 : decode cX12_value 149 = .ok (.getfield 218, 3) := by decide +kernel
theorem dX12_value_152 : decode cX12_value 152 = .ok (.aload_n 0, 1) := by decide +kernel
theorem dX12_value_153 : decode cX12_value 153 = .ok (.getfield 335, 3) := by decide +kernel
theorem dX12_value_156 : decode cX12_value 156 = .ok (.iload 5, 2) := by decide +kernel
theorem dX12_value_158 : decode cX12_value 158 = .ok (.iastore, 1) := by decide +kernel
theorem dX12_value_159 : decode cX12_value 159 = .ok (.iconst 0, 1) := by decide +kernel
theorem dX12_value_160 : decode cX12_value 160 = .ok (.istore 7, 2) := by decide +kernel
theorem dX12_value_162 : decode cX12_value 162 = .ok (.iload 7, 2) := by decide +kernel
theorem dX12_value_164 : decode cX12_value 164 = .ok (.iload 5, 2) := by decide +kernel
theorem dX12_value_166 : decode cX12_value 166 = .ok (.if_icmp .ge 35, 3) := by decide +kernel
theorem dX12_value_169 : decode cX12_value 169 = .ok (.aload_n 0, 1) := by decide +kernel
theorem dX12_value_170 : decode cX12_value 170 = .ok (.getfield 221, 3) := by decide +kernel
theorem dX12_value_173 : decode cX12_value 173 = .ok (.iconst 3, 1) := by decide +kernel
theorem dX12_value_174 : decode cX12_value 174 = .ok (.aload_n 0, 1) := by decide +kernel
theorem dX12_value_175 : decode cX12_value 175 = .ok (.getfield 335, 3) := by decide +kernel
theorem dX12_value_178 : decode cX12_value 178 = .ok (.imul, 1) := by decide +kernel
theorem dX12_value_179 : decode cX12_value 179 = .ok (.iload 7, 2) := by decide +kernel
theorem dX12_value_181 : decode cX12_value 181 = .ok (.iadd, 1) := by decide +kernel
theorem dX12_value_182 : decode cX12_value 182 = .ok (.aload_n 0, 1) := by decide +kernel
theorem dX12_value_183 : decode cX12_value 183 = .ok (.iload 4, 2) := by decide +kernel
theorem dX12_value_185 : decode cX12_value 185 = .ok (.iload 7, 2) := by decide +kernel
theorem dX12_value_187 : decode cX12_value 187 = .ok (.iadd, 1) := by decide +kernel
theorem dX12_value_188 : decode cX12_value 188 = .ok (.invokevirtual 254, 3) := by decide +kernel
theorem dX12_value_191 : decode cX12_value 191 = .ok (.bipush 97, 2) := by decide +kernel
theorem dX12_value_193 : decode cX12_value 193 = .ok (.isub, 1) := by decide +kernel
theorem dX12_value_194 : decode cX12_value 194 = .ok (.iastore, 1) := by decide +kernel
theorem dX12_value_195 : decode cX12_value 195 = .ok (.iinc 7 1, 3) := by decide +kernel
theorem dX12_value_198 : decode cX12_value 198 = .ok (.goto (-36), 3) := by decide +kernel
theorem dX12_value_201 : decode cX12_value 201 = .ok (.aload_n 0, 1) := by decide +kernel
theorem dX12_value_202 : decode cX12_value 202 = .ok (.iload_n 3, 1) := by decide +kernel
theorem dX12_value_203 : decode cX12_value 203 = .ok (.putfield 338, 3) := by decide +kernel
theorem dX12_value_206 : decode cX12_value 206 = .ok (.aload_n 0, 1) := by decide +kernel
theorem dX12_value_207 : decode cX12_value 207 = .ok (.dup, 1) := by decide +kernel
theorem dX12_value_208 : decode cX12_value 208 = .ok (.getfield 335, 3) := by decide +kernel
theorem dX12_value_211 : decode cX12_value 211 = .ok (.iconst 1, 1) := by decide +kernel
theorem dX12_value_212 : decode cX12_value 212 = .ok (.iadd, 1) := by decide +kernel
theorem dX12_value_213 : decode cX12_value 213 = .ok (.putfield 335, 3) := by decide +kernel
theorem dX12_value_216 : decode cX12_value 216 = .ok (.aload_n 0, 1) := by decide +kernel
theorem dX12_value_217 : decode cX12_value 217 = .ok (.getfield 335, 3) := by decide +kernel
theorem dX12_value_220 : decode cX12_value 220 = .ok (.ireturn, 1) := by decide +kernel
abbrev rm_X12_value : Room := { frames := 7, cells := 0, slots := 0, locals := 190 }
def f_X12_value_162 (N : Nat) : Nat → Int32 → Int32 → Int32 → Int32 → St → Option (Int32 × St)
  | 0, _, _, _, _, _ => none
  | n + 1, x3, x4, x5, x7, σ => (if x5 ≤ x7 then some ((σ.1 1096 0) + 1, (si (si σ 1097 0 x3) 1096 0 ((σ.1 1096 0) + 1))) else bo (f_X12_see (x4 + x7) σ) (fun r20_ => grd (ib ((3 * (σ.1 1096 0)) + x7) 180) (f_X12_value_162 N n x3 x4 x5 (x7 + 1) (si σ 69 ((3 * (σ.1 1096 0)) + x7).toNatClampNeg (r20_ - 97)))))
def f_X12_value_90 (N : Nat) (x1 : Int32) (x2 : Int32) (x3 : Int32) (x4 : Int32) (x5 : Int32) (x6 : Int32) (σ : St) : Option (Int32 × St) := (if x6 = 0 then some ((-1), σ) else (if (σ.1 1003 0) = 10 then (if (σ.1 1096 0) = 60 then some ((-3), σ) else grd (ib (σ.1 1096 0) 60) (grd (ib (σ.1 1096 0) 60) (grd (ib (σ.1 1096 0) 60) (grd (ib (σ.1 1096 0) 60) (f_X12_value_162 N N x3 x4 x5 0 (si (si (si (si σ 65 (σ.1 1096 0).toNatClampNeg x1) 66 (σ.1 1096 0).toNatClampNeg x2) 67 (σ.1 1096 0).toNatClampNeg x3) 68 (σ.1 1096 0).toNatClampNeg x5)))))) else some ((-1), σ)))
def f_X12_value_79 (N : Nat) (x1 : Int32) (x2 : Int32) (x3 : Int32) (x4 : Int32) (x5 : Int32) (t0 : Int32) (σ : St) : Option (Int32 × St) := (if t0 = 0 then f_X12_value_90 N x1 x2 x3 x4 x5 t0 σ else bo (f_X12_scan N σ) (fun σ11 => f_X12_value_90 N x1 x2 x3 x4 x5 t0 σ11))
def f_X12_value (N : Nat) (x1 : Int32) (x2 : Int32) (x3 : Int32) (σ : St) : Option (Int32 × St) := bo (f_X12_take N σ) (fun σ1 => grd (ib 0 2) ((if (f_X12_in x1 0 ((σ1.1 3 0) - 1) σ1) = 0 then some ((-2), σ1) else bo (f_X12_isDay x2 σ1) (fun r4_ => (if r4_ = 0 then some ((-2), σ1) else (if (f_X12_in x3 (σ1.1 1097 0) 999 σ1) = 0 then some ((-2), σ1) else bo (f_X12_isRow N σ1) (fun r7_ => (if r7_ = 0 then f_X12_value_79 N x1 x2 x3 (σ1.1 1005 0) ((σ1.1 1006 0) - (σ1.1 1005 0)) 0 σ1 else (if 4 ≤ ((σ1.1 1006 0) - (σ1.1 1005 0)) then f_X12_value_79 N x1 x2 x3 (σ1.1 1005 0) ((σ1.1 1006 0) - (σ1.1 1005 0)) 0 σ1 else f_X12_value_79 N x1 x2 x3 (σ1.1 1005 0) ((σ1.1 1006 0) - (σ1.1 1005 0)) 1 σ1)))))))))
section
variable {p : Program} {l : Launch} {e : Env} {s : State} {m : MethodId} {args : Array Value} {below : List Frame} {meth : Method} {c : Code} {g : XG}
set_option maxRecDepth 4000 in
theorem w_X12_value_162 (N : Nat) {r : Int32} {σ' : St} (C : xC KM g RX12 cX12_value 8 (some .int) p s m args meth c) : ∀ (n : Nat), ∀ (x3 : Int32) (x4 : Int32) (x5 : Int32) (x7 : Int32) (σ : St) (H : Heap) (locs : List Loc) (ls : Array Slot), xW KM g s σ H locs → lv_has ls 8 [(0, .ref (g.q 0)), (3, .int x3), (4, .int x4), (5, .int x5), (7, .int x7)] → f_X12_value_162 N n x3 x4 x5 x7 σ = some (r, σ') → W p l e rm_X12_value s m args below meth c H locs 0 0 (MQ below (xPost KM g (some (.int r)) σ') args s 0 0 (xA KM g.q)) (F0 m 162 ls []) := by
  have hx := C.1
  have hb := C.2.1
  intro n
  induction n with
  | zero => intro x3 x4 x5 x7 σ H locs ls hW hl h; rw [f_X12_value_162] at h; cases h
  | succ n ih =>
    intro x3 x4 x5 x7 σ H locs ls hW hl h
    rw [f_X12_value_162] at h
    refine lv_iload hx hb dX12_value_162 (lv_at hl 4 rfl) ?_
    refine lv_iload hx hb dX12_value_164 (lv_at hl 3 rfl) ?_
    refine lv_icmp_ge (tgt := 201) hx hb dX12_value_166 (by decide) (fun c19 => ?_) (fun c19 => ?_)
    · have h := xit c19 h
      refine lv_aload_n hx hb dX12_value_201 rfl (lv_at hl 0 rfl) ?_
      refine lv_iload_n hx hb dX12_value_202 rfl (lv_at hl 1 rfl) ?_
      refine xp_i C hW fp_12_338 KM_0 rfl (v := 1097) rfl rfl rfl dX12_value_203 (fun H locs hW => ?_)
      refine lv_aload_n hx hb dX12_value_206 rfl (lv_at hl 0 rfl) ?_
      refine lv_dup hx hb dX12_value_207 rfl ?_
      refine xg_i C hW fg_12_335 KM_0 rfl (v := 1096) rfl (x := σ.1 1096 0) rfl dX12_value_208 ?_
      refine lv_iconst (v := 1) hx hb dX12_value_211 rfl ?_
      refine lv_iadd hx hb dX12_value_212 ?_
      refine xp_i C hW fp_12_335 KM_0 rfl (v := 1096) rfl rfl rfl dX12_value_213 (fun H locs hW => ?_)
      refine lv_aload_n hx hb dX12_value_216 rfl (lv_at hl 0 rfl) ?_
      refine xg_i C hW fg_12_335 KM_0 rfl (v := 1096) rfl (x := (σ.1 1096 0) + 1) rfl dX12_value_217 ?_
      cases h
      exact xr_i C hW dX12_value_220
    · have h := xif c19 h
      refine lv_aload_n hx hb dX12_value_169 rfl (lv_at hl 0 rfl) ?_
      refine xg_r C hW fg_12_221 KM_0 rfl dX12_value_170 ?_
      refine lv_iconst (v := 3) hx hb dX12_value_173 rfl ?_
      refine lv_aload_n hx hb dX12_value_174 rfl (lv_at hl 0 rfl) ?_
      refine xg_i C hW fg_12_335 KM_0 rfl (v := 1096) rfl (x := σ.1 1096 0) rfl dX12_value_175 ?_
      refine lv_imul hx hb dX12_value_178 ?_
      refine lv_iload hx hb dX12_value_179 (lv_at hl 4 rfl) ?_
      refine lv_iadd hx hb dX12_value_181 ?_
      refine lv_aload_n hx hb dX12_value_182 rfl (lv_at hl 0 rfl) ?_
      refine lv_iload hx hb dX12_value_183 (lv_at hl 2 rfl) ?_
      refine lv_iload hx hb dX12_value_185 (lv_at hl 4 rfl) ?_
      refine lv_iadd hx hb dX12_value_187 ?_
      obtain ⟨r20_, e20, h⟩ := xbo h
      refine xc_V (As := [.int (x4 + x7)]) (rest := [.int ((3 * (σ.1 1096 0)) + x7), .ref (g.q 69)]) C hW (m_X12_see (x4 + x7) _ e20) mf_X12_see mv_X12_see ml_X12_254 ⟨rfl, rfl⟩ ⟨Nat.le_of_ble_eq_true rfl, Nat.le_of_ble_eq_true rfl⟩ KM_0 rfl hl.1 rfl rfl (Nat.le_of_ble_eq_true rfl) dX12_value_188 (fun H locs hW => W.eq (g2 := F0 m 191 ls [.int r20_, .int ((3 * (σ.1 1096 0)) + x7), .ref (g.q 69)]) rfl ?_)
      refine lv_bipush (v := 97) hx hb dX12_value_191 rfl ?_
      refine lv_isub hx hb dX12_value_193 ?_
      obtain ⟨g21, h⟩ := xgd h
      refine xs_i C hW KM_69 g21 dX12_value_194 (fun H locs hW => ?_)
      refine lv_iinc (v := x7 + 1) (lv' := [(7, .int (x7 + 1)), (0, .ref (g.q 0)), (3, .int x3), (4, .int x4), (5, .int x5)]) hx hb dX12_value_195 hl (k := 4) rfl rfl (Nat.le_of_ble_eq_true rfl) rfl (fun ls hl => ?_)
      refine lv_goto (tgt := 162) hx hb dX12_value_198 (by decide) ?_
      exact ih x3 x4 x5 (x7 + 1) _ _ _ _ hW (lv_sub hl [1, 2, 3, 4, 0] rfl) h
set_option maxRecDepth 4000 in
theorem w_X12_value_90 (N : Nat) {r : Int32} {σ' : St} (C : xC KM g RX12 cX12_value 8 (some .int) p s m args meth c) : ∀ (x1 : Int32) (x2 : Int32) (x3 : Int32) (x4 : Int32) (x5 : Int32) (x6 : Int32) (σ : St) (H : Heap) (locs : List Loc) (ls : Array Slot), xW KM g s σ H locs → lv_has ls 8 [(0, .ref (g.q 0)), (1, .int x1), (2, .int x2), (3, .int x3), (4, .int x4), (5, .int x5), (6, .int x6)] → f_X12_value_90 N x1 x2 x3 x4 x5 x6 σ = some (r, σ') → W p l e rm_X12_value s m args below meth c H locs 0 0 (MQ below (xPost KM g (some (.int r)) σ') args s 0 0 (xA KM g.q)) (F0 m 90 ls []) := by
  have hx := C.1
  have hb := C.2.1
  intro x1 x2 x3 x4 x5 x6 σ H locs ls hW hl h
  unfold f_X12_value_90 at h
  refine lv_iload hx hb dX12_value_90 (lv_at hl 6 rfl) ?_
  refine lv_if_eq (tgt := 104) hx hb dX12_value_92 (by decide) (fun c12 => ?_) (fun c12 => ?_)
  · have h := xit c12 h
    refine lv_iconst (v := (-1)) hx hb dX12_value_104 rfl ?_
    cases h
    exact xr_i C hW dX12_value_105
  · have h := xif c12 h
    refine lv_aload_n hx hb dX12_value_95 rfl (lv_at hl 0 rfl) ?_
    refine xg_i C hW fg_12_264 KM_0 rfl (v := 1003) rfl (x := σ.1 1003 0) rfl dX12_value_96 ?_
    refine lv_bipush (v := 10) hx hb dX12_value_99 rfl ?_
    refine lv_icmp_eq (tgt := 106) hx hb dX12_value_101 (by decide) (fun c13 => ?_) (fun c13 => ?_)
    · have h := xit c13 h
      refine lv_aload_n hx hb dX12_value_106 rfl (lv_at hl 0 rfl) ?_
      refine xg_i C hW fg_12_335 KM_0 rfl (v := 1096) rfl (x := σ.1 1096 0) rfl dX12_value_107 ?_
      refine lv_bipush (v := 60) hx hb dX12_value_110 rfl ?_
      refine lv_icmp_ne (tgt := 118) hx hb dX12_value_112 (by decide) (fun c14 => ?_) (fun c14 => ?_)
      · have h := xif c14 h
        refine lv_aload_n hx hb dX12_value_118 rfl (lv_at hl 0 rfl) ?_
        refine xg_r C hW fg_12_209 KM_0 rfl dX12_value_119 ?_
        refine lv_aload_n hx hb dX12_value_122 rfl (lv_at hl 0 rfl) ?_
        refine xg_i C hW fg_12_335 KM_0 rfl (v := 1096) rfl (x := σ.1 1096 0) rfl dX12_value_123 ?_
        refine lv_iload_n hx hb dX12_value_126 rfl (lv_at hl 1 rfl) ?_
        obtain ⟨g15, h⟩ := xgd h
        refine xs_i C hW KM_65 g15 dX12_value_127 (fun H locs hW => ?_)
        refine lv_aload_n hx hb dX12_value_128 rfl (lv_at hl 0 rfl) ?_
        refine xg_r C hW fg_12_212 KM_0 rfl dX12_value_129 ?_
        refine lv_aload_n hx hb dX12_value_132 rfl (lv_at hl 0 rfl) ?_
        refine xg_i C hW fg_12_335 KM_0 rfl (v := 1096) rfl (x := σ.1 1096 0) rfl dX12_value_133 ?_
        refine lv_iload_n hx hb dX12_value_136 rfl (lv_at hl 2 rfl) ?_
        obtain ⟨g16, h⟩ := xgd h
        refine xs_i C hW KM_66 g16 dX12_value_137 (fun H locs hW => ?_)
        refine lv_aload_n hx hb dX12_value_138 rfl (lv_at hl 0 rfl) ?_
        refine xg_r C hW fg_12_215 KM_0 rfl dX12_value_139 ?_
        refine lv_aload_n hx hb dX12_value_142 rfl (lv_at hl 0 rfl) ?_
        refine xg_i C hW fg_12_335 KM_0 rfl (v := 1096) rfl (x := σ.1 1096 0) rfl dX12_value_143 ?_
        refine lv_iload_n hx hb dX12_value_146 rfl (lv_at hl 3 rfl) ?_
        obtain ⟨g17, h⟩ := xgd h
        refine xs_i C hW KM_67 g17 dX12_value_147 (fun H locs hW => ?_)
        refine lv_aload_n hx hb dX12_value_148 rfl (lv_at hl 0 rfl) ?_
        refine xg_r C hW fg_12_218 KM_0 rfl dX12_value_149 ?_
        refine lv_aload_n hx hb dX12_value_152 rfl (lv_at hl 0 rfl) ?_
        refine xg_i C hW fg_12_335 KM_0 rfl (v := 1096) rfl (x := σ.1 1096 0) rfl dX12_value_153 ?_
        refine lv_iload hx hb dX12_value_156 (lv_at hl 5 rfl) ?_
        obtain ⟨g18, h⟩ := xgd h
        refine xs_i C hW KM_68 g18 dX12_value_158 (fun H locs hW => ?_)
        refine lv_iconst (v := 0) hx hb dX12_value_159 rfl ?_
        refine lv_istore (lv' := [(7, .int 0), (0, .ref (g.q 0)), (1, .int x1), (2, .int x2), (3, .int x3), (4, .int x4), (5, .int x5), (6, .int x6)]) hx hb dX12_value_160 hl (Nat.le_of_ble_eq_true rfl) rfl (fun ls hl => ?_)
        exact w_X12_value_162 N C N x3 x4 x5 0 _ _ _ _ hW (lv_sub hl [1, 4, 5, 6, 0] rfl) h
      · have h := xit c14 h
        refine lv_bipush (v := (-3)) hx hb dX12_value_115 rfl ?_
        cases h
        exact xr_i C hW dX12_value_117
    · have h := xif c13 h
      refine lv_iconst (v := (-1)) hx hb dX12_value_104 rfl ?_
      cases h
      exact xr_i C hW dX12_value_105
set_option maxRecDepth 4000 in
theorem w_X12_value_79 (N : Nat) {r : Int32} {σ' : St} (C : xC KM g RX12 cX12_value 8 (some .int) p s m args meth c) : ∀ (x1 : Int32) (x2 : Int32) (x3 : Int32) (x4 : Int32) (x5 : Int32) (t0 : Int32) (σ : St) (H : Heap) (locs : List Loc) (ls : Array Slot), xW KM g s σ H locs → lv_has ls 8 [(0, .ref (g.q 0)), (1, .int x1), (2, .int x2), (3, .int x3), (4, .int x4), (5, .int x5)] → f_X12_value_79 N x1 x2 x3 x4 x5 t0 σ = some (r, σ') → W p l e rm_X12_value s m args below meth c H locs 0 0 (MQ below (xPost KM g (some (.int r)) σ') args s 0 0 (xA KM g.q)) (F0 m 79 ls [.int t0]) := by
  have hx := C.1
  have hb := C.2.1
  intro x1 x2 x3 x4 x5 t0 σ H locs ls hW hl h
  unfold f_X12_value_79 at h
  refine lv_istore (lv' := [(6, .int t0), (0, .ref (g.q 0)), (1, .int x1), (2, .int x2), (3, .int x3), (4, .int x4), (5, .int x5)]) hx hb dX12_value_79 hl (Nat.le_of_ble_eq_true rfl) rfl (fun ls hl => ?_)
  refine lv_iload hx hb dX12_value_81 (lv_at hl 0 rfl) ?_
  refine lv_if_eq (tgt := 90) hx hb dX12_value_83 (by decide) (fun c10 => ?_) (fun c10 => ?_)
  · have h := xit c10 h
    exact w_X12_value_90 N C x1 x2 x3 x4 x5 t0 _ _ _ _ hW (lv_sub hl [1, 2, 3, 4, 5, 6, 0] rfl) h
  · have h := xif c10 h
    refine lv_aload_n hx hb dX12_value_86 rfl (lv_at hl 1 rfl) ?_
    obtain ⟨σ11, e11, h⟩ := xbo h
    refine xc_V (As := []) (rest := []) C hW (m_X12_scan N _ e11) mf_X12_scan mv_X12_scan ml_X12_239 ⟨rfl, rfl⟩ ⟨Nat.le_of_ble_eq_true rfl, Nat.le_of_ble_eq_true rfl⟩ KM_0 rfl hl.1 rfl rfl (Nat.le_of_ble_eq_true rfl) dX12_value_87 (fun H locs hW => W.eq (g2 := F0 m 90 ls []) rfl ?_)
    exact w_X12_value_90 N C x1 x2 x3 x4 x5 t0 _ _ _ _ hW (lv_sub hl [1, 2, 3, 4, 5, 6, 0] rfl) h
set_option maxRecDepth 4000 in
theorem m_X12_value (N : Nat) (x1 : Int32) (x2 : Int32) (x3 : Int32) (σ : St) {r : Int32} {σ' : St} (h : f_X12_value N x1 x2 x3 σ = some (r, σ')) : xM l KM g yX12_value cX12_value 8 (some .int) rm_X12_value [.ref (g.q 0), .int x1, .int x2, .int x3] σ (some (.int r)) σ' := by
  refine xmet pn_X12 rfl (Nat.le_of_ble_eq_true rfl) (lv := [(0, .ref (g.q 0)), (1, .int x1), (2, .int x2), (3, .int x3)]) rfl (fun p e s m args below meth c ls C hW hl => ?_)
  have hx := C.1
  have hb := C.2.1
  unfold f_X12_value at h
  refine lv_aload_n hx hb dX12_value_0 rfl (lv_at hl 0 rfl) ?_
  obtain ⟨σ1, e1, h⟩ := xbo h
  refine xc_V (As := []) (rest := []) C hW (m_X12_take N _ e1) mf_X12_take mv_X12_take ml_X12_320 ⟨rfl, rfl⟩ ⟨Nat.le_of_ble_eq_true rfl, Nat.le_of_ble_eq_true rfl⟩ KM_0 rfl hl.1 rfl rfl (Nat.le_of_ble_eq_true rfl) dX12_value_1 (fun H locs hW => W.eq (g2 := F0 m 4 ls []) rfl ?_)
  refine lv_iload_n hx hb dX12_value_4 rfl (lv_at hl 1 rfl) ?_
  refine lv_iconst (v := 0) hx hb dX12_value_5 rfl ?_
  refine lv_aload_n hx hb dX12_value_6 rfl (lv_at hl 0 rfl) ?_
  refine xg_r C hW fg_12_21 KM_0 rfl dX12_value_7 ?_
  refine lv_iconst (v := 0) hx hb dX12_value_10 rfl ?_
  obtain ⟨g2, h⟩ := xgd h
  refine xa_i C hW KM_3 g2 (x := σ1.1 3 0) rfl dX12_value_11 ?_
  refine lv_iconst (v := 1) hx hb dX12_value_12 rfl ?_
  refine lv_isub hx hb dX12_value_13 ?_
  refine xc_S (As := [.int x1, .int 0, .int ((σ1.1 3 0) - 1)]) (rest := []) C hW (m_X12_in x1 0 ((σ1.1 3 0) - 1) _ rfl) mf_X12_in mt_X12_in ml_X12_295 ⟨rfl, rfl⟩ ⟨Nat.le_of_ble_eq_true rfl, Nat.le_of_ble_eq_true rfl⟩ hl.1 rfl rfl (Nat.le_of_ble_eq_true rfl) dX12_value_14 (fun H locs hW => W.eq (g2 := F0 m 17 ls [.int (f_X12_in x1 0 ((σ1.1 3 0) - 1) σ1)]) rfl ?_)
  refine lv_if_eq (tgt := 41) hx hb dX12_value_17 (by decide) (fun c3 => ?_) (fun c3 => ?_)
  · have h := xit c3 h
    refine lv_bipush (v := (-2)) hx hb dX12_value_41 rfl ?_
    cases h
    exact xr_i C hW dX12_value_43
  · have h := xif c3 h
    refine lv_iload_n hx hb dX12_value_20 rfl (lv_at hl 2 rfl) ?_
    obtain ⟨r4_, e4, h⟩ := xbo h
    refine xc_S (As := [.int x2]) (rest := []) C hW (m_X12_isDay x2 _ e4) mf_X12_isDay mt_X12_isDay ml_X12_495 ⟨rfl, rfl⟩ ⟨Nat.le_of_ble_eq_true rfl, Nat.le_of_ble_eq_true rfl⟩ hl.1 rfl rfl (Nat.le_of_ble_eq_true rfl) dX12_value_21 (fun H locs hW => W.eq (g2 := F0 m 24 ls [.int r4_]) rfl ?_)
    refine lv_if_eq (tgt := 41) hx hb dX12_value_24 (by decide) (fun c5 => ?_) (fun c5 => ?_)
    · have h := xit c5 h
      refine lv_bipush (v := (-2)) hx hb dX12_value_41 rfl ?_
      cases h
      exact xr_i C hW dX12_value_43
    · have h := xif c5 h
      refine lv_iload_n hx hb dX12_value_27 rfl (lv_at hl 3 rfl) ?_
      refine lv_aload_n hx hb dX12_value_28 rfl (lv_at hl 0 rfl) ?_
      refine xg_i C hW fg_12_338 KM_0 rfl (v := 1097) rfl (x := σ1.1 1097 0) rfl dX12_value_29 ?_
      refine lv_sipush (v := 999) hx hb dX12_value_32 rfl ?_
      refine xc_S (As := [.int x3, .int (σ1.1 1097 0), .int 999]) (rest := []) C hW (m_X12_in x3 (σ1.1 1097 0) 999 _ rfl) mf_X12_in mt_X12_in ml_X12_295 ⟨rfl, rfl⟩ ⟨Nat.le_of_ble_eq_true rfl, Nat.le_of_ble_eq_true rfl⟩ hl.1 rfl rfl (Nat.le_of_ble_eq_true rfl) dX12_value_35 (fun H locs hW => W.eq (g2 := F0 m 38 ls [.int (f_X12_in x3 (σ1.1 1097 0) 999 σ1)]) rfl ?_)
      refine lv_if_ne (tgt := 44) hx hb dX12_value_38 (by decide) (fun c6 => ?_) (fun c6 => ?_)
      · have h := xif c6 h
        refine lv_aload_n hx hb dX12_value_44 rfl (lv_at hl 0 rfl) ?_
        refine xg_i C hW fg_12_258 KM_0 rfl (v := 1005) rfl (x := σ1.1 1005 0) rfl dX12_value_45 ?_
        refine lv_istore (lv' := [(4, .int (σ1.1 1005 0)), (0, .ref (g.q 0)), (1, .int x1), (2, .int x2), (3, .int x3)]) hx hb dX12_value_48 hl (Nat.le_of_ble_eq_true rfl) rfl (fun ls hl => ?_)
        refine lv_aload_n hx hb dX12_value_50 rfl (lv_at hl 1 rfl) ?_
        refine xg_i C hW fg_12_236 KM_0 rfl (v := 1006) rfl (x := σ1.1 1006 0) rfl dX12_value_51 ?_
        refine lv_aload_n hx hb dX12_value_54 rfl (lv_at hl 1 rfl) ?_
        refine xg_i C hW fg_12_258 KM_0 rfl (v := 1005) rfl (x := σ1.1 1005 0) rfl dX12_value_55 ?_
        refine lv_isub hx hb dX12_value_58 ?_
        refine lv_istore (lv' := [(5, .int ((σ1.1 1006 0) - (σ1.1 1005 0))), (4, .int (σ1.1 1005 0)), (0, .ref (g.q 0)), (1, .int x1), (2, .int x2), (3, .int x3)]) hx hb dX12_value_59 hl (Nat.le_of_ble_eq_true rfl) rfl (fun ls hl => ?_)
        refine lv_aload_n hx hb dX12_value_61 rfl (lv_at hl 2 rfl) ?_
        obtain ⟨r7_, e7, h⟩ := xbo h
        refine xc_V (As := []) (rest := []) C hW (m_X12_isRow N _ e7) mf_X12_isRow mv_X12_isRow ml_X12_310 ⟨rfl, rfl⟩ ⟨Nat.le_of_ble_eq_true rfl, Nat.le_of_ble_eq_true rfl⟩ KM_0 rfl hl.1 rfl rfl (Nat.le_of_ble_eq_true rfl) dX12_value_62 (fun H locs hW => W.eq (g2 := F0 m 65 ls [.int r7_]) rfl ?_)
        refine lv_if_eq (tgt := 78) hx hb dX12_value_65 (by decide) (fun c8 => ?_) (fun c8 => ?_)
        · have h := xit c8 h
          refine lv_iconst (v := 0) hx hb dX12_value_78 rfl ?_
          exact w_X12_value_79 N C x1 x2 x3 (σ1.1 1005 0) ((σ1.1 1006 0) - (σ1.1 1005 0)) 0 _ _ _ _ hW (lv_sub hl [2, 3, 4, 5, 1, 0] rfl) h
        · have h := xif c8 h
          refine lv_iload hx hb dX12_value_68 (lv_at hl 0 rfl) ?_
          refine lv_iconst (v := 4) hx hb dX12_value_70 rfl ?_
          refine lv_icmp_ge (tgt := 78) hx hb dX12_value_71 (by decide) (fun c9 => ?_) (fun c9 => ?_)
          · have h := xit c9 h
            refine lv_iconst (v := 0) hx hb dX12_value_78 rfl ?_
            exact w_X12_value_79 N C x1 x2 x3 (σ1.1 1005 0) ((σ1.1 1006 0) - (σ1.1 1005 0)) 0 _ _ _ _ hW (lv_sub hl [2, 3, 4, 5, 1, 0] rfl) h
          · have h := xif c9 h
            refine lv_iconst (v := 1) hx hb dX12_value_74 rfl ?_
            refine lv_goto (tgt := 79) hx hb dX12_value_75 (by decide) ?_
            exact w_X12_value_79 N C x1 x2 x3 (σ1.1 1005 0) ((σ1.1 1006 0) - (σ1.1 1005 0)) 1 _ _ _ _ hW (lv_sub hl [2, 3, 4, 5, 1, 0] rfl) h
      · have h := xit c6 h
        refine lv_bipush (v := (-2)) hx hb dX12_value_41 rfl ?_
        cases h
        exact xr_i C hW dX12_value_43
end
theorem dX12_valueOn_0 : decode cX12_valueOn 0 = .ok (.iload_n 1, 1) := by decide +kernel
theorem dX12_valueOn_1 : decode cX12_valueOn 1 = .ok (.iconst 0, 1) := by decide +kernel
theorem dX12_valueOn_2 : decode cX12_valueOn 2 = .ok (.aload_n 0, 1) := by decide +kernel
theorem dX12_valueOn_3 : decode cX12_valueOn 3 = .ok (.getfield 21, 3) := by decide +kernel
theorem dX12_valueOn_6 : decode cX12_valueOn 6 = .ok (.iconst 0, 1) := by decide +kernel
theorem dX12_valueOn_7 : decode cX12_valueOn 7 = .ok (.iaload, 1) := by decide +kernel
theorem dX12_valueOn_8 : decode cX12_valueOn 8 = .ok (.iconst 1, 1) := by decide +kernel
theorem dX12_valueOn_9 : decode cX12_valueOn 9 = .ok (.isub, 1) := by decide +kernel
theorem dX12_valueOn_10 : decode cX12_valueOn 10 = .ok (.invokestatic 295, 3) := by decide +kernel
theorem dX12_valueOn_13 : decode cX12_valueOn 13 = .ok (.ifCond .eq 17, 3) := by decide +kernel
theorem dX12_valueOn_16 : decode cX12_valueOn 16 = .ok (.iload_n 2, 1) := by decide +kernel
theorem dX12_valueOn_17 : decode cX12_valueOn 17 = .ok (.invokestatic 495, 3) := by decide +kernel
theorem dX12_valueOn_20 : decode cX12_valueOn 20 = .ok (.ifCond .eq 10, 3) := by decide +kernel
theorem dX12_valueOn_23 : decode cX12_valueOn 23 = .ok (.iload_n 3, 1) := by decide +kernel
theorem dX12_valueOn_24 : decode cX12_valueOn 24 = .ok (.invokestatic 495, 3) := by decide +kernel
theorem dX12_valueOn_27 : decode cX12_valueOn 27 = .ok (.ifCond .ne 6, 3) := by decide +kernel
theorem dX12_valueOn_30 : decode cX12_valueOn 30 = .ok (.bipush (-2), 2) := by decide +kernel
theorem dX12_valueOn_32 : decode cX12_valueOn 32 = .ok (.ireturn, 1) := by decide +kernel
theorem dX12_valueOn_33 : decode cX12_valueOn 33 = .ok (.aload_n 0, 1) := by decide +kernel
theorem dX12_valueOn_34 : decode cX12_valueOn 34 = .ok (.iload_n 1, 1) := by decide +kernel
theorem dX12_valueOn_35 : decode cX12_valueOn 35 = .ok (.iload_n 2, 1) := by decide +kernel
theorem dX12_valueOn_36 : decode cX12_valueOn 36 = .ok (.iload_n 3, 1) := by decide +kernel
theorem dX12_valueOn_37 : decode cX12_valueOn 37 = .ok (.invokevirtual 498, 3) := by decide +kernel
theorem dX12_valueOn_40 : decode cX12_valueOn 40 = .ok (.istore 5, 2) := by decide +kernel
theorem dX12_valueOn_42 : decode cX12_valueOn 42 = .ok (.iload 5, 2) := by decide +kernel
theorem dX12_valueOn_44 : decode cX12_valueOn 44 = .ok (.iconst (-1), 1) := by decide +kernel
theorem dX12_valueOn_45 : decode cX12_valueOn 45 = .ok (.if_icmp .ne 12, 3) := by decide +kernel
theorem dX12_valueOn_48 : decode cX12_valueOn 48 = .ok (.aload_n 0, 1) := by decide +kernel
theorem dX12_valueOn_49 : decode cX12_valueOn 49 = .ok (.getfield 37, 3) := by decide +kernel
theorem dX12_valueOn_52 : decode cX12_valueOn 52 = .ok (.iload_n 1, 1) := by decide +kernel
theorem dX12_valueOn_53 : decode cX12_valueOn 53 = .ok (.iaload, 1) := by decide +kernel
theorem dX12_valueOn_54 : decode cX12_valueOn 54 = .ok (.goto 10, 3) := by decide +kernel
theorem dX12_valueOn_57 : decode cX12_valueOn 57 = .ok (.aload_n 0, 1) := by decide +kernel
theorem dX12_valueOn_58 : decode cX12_valueOn 58 = .ok (.getfield 218, 3) := by decide +kernel
theorem dX12_valueOn_61 : decode cX12_valueOn 61 = .ok (.iload 5, 2) := by decide +kernel
theorem dX12_valueOn_63 : decode cX12_valueOn 63 = .ok (.iaload, 1) := by decide +kernel
theorem dX12_valueOn_64 : decode cX12_valueOn 64 = .ok (.istore 6, 2) := by decide +kernel
theorem dX12_valueOn_66 : decode cX12_valueOn 66 = .ok (.iload 4, 2) := by decide +kernel
theorem dX12_valueOn_68 : decode cX12_valueOn 68 = .ok (.ifCond .ne 6, 3) := by decide +kernel
theorem dX12_valueOn_71 : decode cX12_valueOn 71 = .ok (.iload 6, 2) := by decide +kernel
theorem dX12_valueOn_73 : decode cX12_valueOn 73 = .ok (.ireturn, 1) := by decide +kernel
theorem dX12_valueOn_74 : decode cX12_valueOn 74 = .ok (.iload 4, 2) := by decide +kernel
theorem dX12_valueOn_76 : decode cX12_valueOn 76 = .ok (.bipush 10, 2) := by decide +kernel
theorem dX12_valueOn_78 : decode cX12_valueOn 78 = .ok (.bipush 9, 2) := by decide +kernel
theorem dX12_valueOn_80 : decode cX12_valueOn 80 = .ok (.iload 6, 2) := by decide +kernel
theorem dX12_valueOn_82 : decode cX12_valueOn 82 = .ok (.iadd, 1) := by decide +kernel
theorem dX12_valueOn_83 : decode cX12_valueOn 83 = .ok (.invokestatic 295, 3) := by decide +kernel
theorem dX12_valueOn_86 : decode cX12_valueOn 86 = .ok (.ifCond .eq 44, 3) := by decide +kernel
theorem dX12_valueOn_89 : decode cX12_valueOn 89 = .ok (.iload 5, 2) := by decide +kernel
theorem dX12_valueOn_91 : decode cX12_valueOn 91 = .ok (.iconst (-1), 1) := by decide +kernel
theorem dX12_valueOn_92 : decode cX12_valueOn 92 = .ok (.if_icmp .ne 20, 3) := by decide +kernel
theorem dX12_valueOn_95 : decode cX12_valueOn 95 = .ok (.aload_n 0, 1) := by decide +kernel
theorem dX12_valueOn_96 : decode cX12_valueOn 96 = .ok (.getfield 40, 3) := by decide +kernel
theorem dX12_valueOn_99 : decode cX12_valueOn 99 = .ok (.iconst 3, 1) := by decide +kernel
theorem dX12_valueOn_100 : decode cX12_valueOn 100 = .ok (.iload_n 1, 1) := by decide +kernel
theorem dX12_valueOn_101 : decode cX12_valueOn 101 = .ok (.imul, 1) := by decide +kernel
theorem dX12_valueOn_102 : decode cX12_valueOn 102 = .ok (.iload 4, 2) := by decide +kernel
theorem dX12_valueOn_104 : decode cX12_valueOn 104 = .ok (.iadd, 1) := by decide +kernel
theorem dX12_valueOn_105 : decode cX12_valueOn 105 = .ok (.bipush 10, 2) := by decide +kernel
theorem dX12_valueOn_107 : decode cX12_valueOn 107 = .ok (.isub, 1) := by decide +kernel
theorem dX12_valueOn_108 : decode cX12_valueOn 108 = .ok (.iaload, 1) := by decide +kernel
theorem dX12_valueOn_109 : decode cX12_valueOn 109 = .ok (.goto 22, 3) := by decide +kernel
theorem dX12_valueOn_112 : decode cX12_valueOn 112 = .ok (.aload_n 0, 1) := by decide +kernel
theorem dX12_valueOn_113 : decode cX12_valueOn 113 = .ok (.getfield 221, 3) := by decide +kernel
theorem dX12_valueOn_116 : decode cX12_valueOn 116 = .ok (.iconst 3, 1) := by decide +kernel
theorem dX12_valueOn_117 : decode cX12_valueOn 117 = .ok (.iload 5, 2) := by decide +kernel
theorem dX12_valueOn_119 : decode cX12_valueOn 119 = .ok (.imul, 1) := by decide +kernel
theorem dX12_valueOn_120 : decode cX12_valueOn 120 = .ok (.iload 4, 2) := by decide +kernel
theorem dX12_valueOn_122 : decode cX12_valueOn 122 = .ok (.iadd, 1) := by decide +kernel
theorem dX12_valueOn_123 : decode cX12_valueOn 123 = .ok (.bipush 10, 2) := by decide +kernel
theorem dX12_valueOn_125 : decode cX12_valueOn 125 = .ok (.isub, 1) := by decide +kernel
theorem dX12_valueOn_126 : decode cX12_valueOn 126 = .ok (.iaload, 1) := by decide +kernel
theorem dX12_valueOn_127 : decode cX12_valueOn 127 = .ok (.goto 4, 3) := by decide +kernel
theorem dX12_valueOn_130 : decode cX12_valueOn 130 = .ok (.iconst (-1), 1) := by decide +kernel
theorem dX12_valueOn_131 : decode cX12_valueOn 131 = .ok (.ireturn, 1) := by decide +kernel
abbrev rm_X12_valueOn : Room := { frames := 2, cells := 0, slots := 0, locals := 42 }
def f_X12_valueOn_64 (N : Nat) (x1 : Int32) (x4 : Int32) (x5 : Int32) (t0 : Int32) (σ : St) : Option Int32 := (if x4 = 0 then some t0 else (if (f_X12_in x4 10 (9 + t0) σ) = 0 then some ((-1)) else (if x5 = ((-1)) then grd (ib (((3 * x1) + x4) - 10) 240) (some (σ.1 9 (((3 * x1) + x4) - 10).toNatClampNeg)) else grd (ib (((3 * x5) + x4) - 10) 180) (some (σ.1 69 (((3 * x5) + x4) - 10).toNatClampNeg)))))
def f_X12_valueOn (N : Nat) (x1 : Int32) (x2 : Int32) (x3 : Int32) (x4 : Int32) (σ : St) : Option Int32 := grd (ib 0 2) ((if (f_X12_in x1 0 ((σ.1 3 0) - 1) σ) = 0 then some ((-2)) else bo (f_X12_isDay x2 σ) (fun r3_ => (if r3_ = 0 then some ((-2)) else bo (f_X12_isDay x3 σ) (fun r5_ => (if r5_ = 0 then some ((-2)) else bo (f_X12_valueAt N x1 x2 x3 σ) (fun r7_ => (if r7_ = ((-1)) then grd (ib x1 80) (f_X12_valueOn_64 N x1 x4 r7_ (σ.1 8 x1.toNatClampNeg) σ) else grd (ib r7_ 60) (f_X12_valueOn_64 N x1 x4 r7_ (σ.1 68 r7_.toNatClampNeg) σ)))))))))
section
variable {p : Program} {l : Launch} {e : Env} {s : State} {m : MethodId} {args : Array Value} {below : List Frame} {meth : Method} {c : Code} {g : XG}
set_option maxRecDepth 4000 in
theorem w_X12_valueOn_64 (N : Nat) (σ : St) {r : Int32} (C : xC KM g RX12 cX12_valueOn 7 (some .int) p s m args meth c) : ∀ (x1 : Int32) (x4 : Int32) (x5 : Int32) (t0 : Int32) (H : Heap) (locs : List Loc) (ls : Array Slot), xW KM g s σ H locs → lv_has ls 7 [(0, .ref (g.q 0)), (1, .int x1), (4, .int x4), (5, .int x5)] → f_X12_valueOn_64 N x1 x4 x5 t0 σ = some r → W p l e rm_X12_valueOn s m args below meth c H locs 0 0 (MQ below (xPost KM g (some (.int r)) σ) args s 0 0 (xA KM g.q)) (F0 m 64 ls [.int t0]) := by
  have hx := C.1
  have hb := C.2.1
  intro x1 x4 x5 t0 H locs ls hW hl h
  unfold f_X12_valueOn_64 at h
  refine lv_istore (lv' := [(6, .int t0), (0, .ref (g.q 0)), (1, .int x1), (4, .int x4), (5, .int x5)]) hx hb dX12_valueOn_64 hl (Nat.le_of_ble_eq_true rfl) rfl (fun ls hl => ?_)
  refine lv_iload hx hb dX12_valueOn_66 (lv_at hl 3 rfl) ?_
  refine lv_if_ne (tgt := 74) hx hb dX12_valueOn_68 (by decide) (fun c11 => ?_) (fun c11 => ?_)
  · have h := xif c11 h
    refine lv_iload hx hb dX12_valueOn_74 (lv_at hl 3 rfl) ?_
    refine lv_bipush (v := 10) hx hb dX12_valueOn_76 rfl ?_
    refine lv_bipush (v := 9) hx hb dX12_valueOn_78 rfl ?_
    refine lv_iload hx hb dX12_valueOn_80 (lv_at hl 0 rfl) ?_
    refine lv_iadd hx hb dX12_valueOn_82 ?_
    refine xc_S (As := [.int x4, .int 10, .int (9 + t0)]) (rest := []) C hW (m_X12_in x4 10 (9 + t0) _ rfl) mf_X12_in mt_X12_in ml_X12_295 ⟨rfl, rfl⟩ ⟨Nat.le_of_ble_eq_true rfl, Nat.le_of_ble_eq_true rfl⟩ hl.1 rfl rfl (Nat.le_of_ble_eq_true rfl) dX12_valueOn_83 (fun H locs hW => W.eq (g2 := F0 m 86 ls [.int (f_X12_in x4 10 (9 + t0) σ)]) rfl ?_)
    refine lv_if_eq (tgt := 130) hx hb dX12_valueOn_86 (by decide) (fun c12 => ?_) (fun c12 => ?_)
    · have h := xit c12 h
      refine lv_iconst (v := (-1)) hx hb dX12_valueOn_130 rfl ?_
      cases h
      exact xr_i C hW dX12_valueOn_131
    · have h := xif c12 h
      refine lv_iload hx hb dX12_valueOn_89 (lv_at hl 4 rfl) ?_
      refine lv_iconst (v := (-1)) hx hb dX12_valueOn_91 rfl ?_
      refine lv_icmp_ne (tgt := 112) hx hb dX12_valueOn_92 (by decide) (fun c13 => ?_) (fun c13 => ?_)
      · have h := xif c13 h
        refine lv_aload_n hx hb dX12_valueOn_112 rfl (lv_at hl 1 rfl) ?_
        refine xg_r C hW fg_12_221 KM_0 rfl dX12_valueOn_113 ?_
        refine lv_iconst (v := 3) hx hb dX12_valueOn_116 rfl ?_
        refine lv_iload hx hb dX12_valueOn_117 (lv_at hl 4 rfl) ?_
        refine lv_imul hx hb dX12_valueOn_119 ?_
        refine lv_iload hx hb dX12_valueOn_120 (lv_at hl 3 rfl) ?_
        refine lv_iadd hx hb dX12_valueOn_122 ?_
        refine lv_bipush (v := 10) hx hb dX12_valueOn_123 rfl ?_
        refine lv_isub hx hb dX12_valueOn_125 ?_
        obtain ⟨g14, h⟩ := xgd h
        refine xa_i C hW KM_69 g14 (x := σ.1 69 (((3 * x5) + x4) - 10).toNatClampNeg) rfl dX12_valueOn_126 ?_
        refine lv_goto (tgt := 131) hx hb dX12_valueOn_127 (by decide) ?_
        cases h
        exact xr_i C hW dX12_valueOn_131
      · have h := xit c13 h
        refine lv_aload_n hx hb dX12_valueOn_95 rfl (lv_at hl 1 rfl) ?_
        refine xg_r C hW fg_12_40 KM_0 rfl dX12_valueOn_96 ?_
        refine lv_iconst (v := 3) hx hb dX12_valueOn_99 rfl ?_
        refine lv_iload_n hx hb dX12_valueOn_100 rfl (lv_at hl 2 rfl) ?_
        refine lv_imul hx hb dX12_valueOn_101 ?_
        refine lv_iload hx hb dX12_valueOn_102 (lv_at hl 3 rfl) ?_
        refine lv_iadd hx hb dX12_valueOn_104 ?_
        refine lv_bipush (v := 10) hx hb dX12_valueOn_105 rfl ?_
        refine lv_isub hx hb dX12_valueOn_107 ?_
        obtain ⟨g15, h⟩ := xgd h
        refine xa_i C hW KM_9 g15 (x := σ.1 9 (((3 * x1) + x4) - 10).toNatClampNeg) rfl dX12_valueOn_108 ?_
        refine lv_goto (tgt := 131) hx hb dX12_valueOn_109 (by decide) ?_
        cases h
        exact xr_i C hW dX12_valueOn_131
  · have h := xit c11 h
    refine lv_iload hx hb dX12_valueOn_71 (lv_at hl 0 rfl) ?_
    cases h
    exact xr_i C hW dX12_valueOn_73
set_option maxRecDepth 4000 in
theorem m_X12_valueOn (N : Nat) (x1 : Int32) (x2 : Int32) (x3 : Int32) (x4 : Int32) (σ : St) {r : Int32} (h : f_X12_valueOn N x1 x2 x3 x4 σ = some r) : xM l KM g yX12_valueOn cX12_valueOn 7 (some .int) rm_X12_valueOn [.ref (g.q 0), .int x1, .int x2, .int x3, .int x4] σ (some (.int r)) σ := by
  refine xmet pn_X12 rfl (Nat.le_of_ble_eq_true rfl) (lv := [(0, .ref (g.q 0)), (1, .int x1), (2, .int x2), (3, .int x3), (4, .int x4)]) rfl (fun p e s m args below meth c ls C hW hl => ?_)
  have hx := C.1
  have hb := C.2.1
  unfold f_X12_valueOn at h
  refine lv_iload_n hx hb dX12_valueOn_0 rfl (lv_at hl 1 rfl) ?_
  refine lv_iconst (v := 0) hx hb dX12_valueOn_1 rfl ?_
  refine lv_aload_n hx hb dX12_valueOn_2 rfl (lv_at hl 0 rfl) ?_
  refine xg_r C hW fg_12_21 KM_0 rfl dX12_valueOn_3 ?_
  refine lv_iconst (v := 0) hx hb dX12_valueOn_6 rfl ?_
  obtain ⟨g1, h⟩ := xgd h
  refine xa_i C hW KM_3 g1 (x := σ.1 3 0) rfl dX12_valueOn_7 ?_
  refine lv_iconst (v := 1) hx hb dX12_valueOn_8 rfl ?_
  refine lv_isub hx hb dX12_valueOn_9 ?_
  refine xc_S (As := [.int x1, .int 0, .int ((σ.1 3 0) - 1)]) (rest := []) C hW (m_X12_in x1 0 ((σ.1 3 0) - 1) _ rfl) mf_X12_in mt_X12_in ml_X12_295 ⟨rfl, rfl⟩ ⟨Nat.le_of_ble_eq_true rfl, Nat.le_of_ble_eq_true rfl⟩ hl.1 rfl rfl (Nat.le_of_ble_eq_true rfl) dX12_valueOn_10 (fun H locs hW => W.eq (g2 := F0 m 13 ls [.int (f_X12_in x1 0 ((σ.1 3 0) - 1) σ)]) rfl ?_)
  refine lv_if_eq (tgt := 30) hx hb dX12_valueOn_13 (by decide) (fun c2 => ?_) (fun c2 => ?_)
  · have h := xit c2 h
    refine lv_bipush (v := (-2)) hx hb dX12_valueOn_30 rfl ?_
    cases h
    exact xr_i C hW dX12_valueOn_32
  · have h := xif c2 h
    refine lv_iload_n hx hb dX12_valueOn_16 rfl (lv_at hl 2 rfl) ?_
    obtain ⟨r3_, e3, h⟩ := xbo h
    refine xc_S (As := [.int x2]) (rest := []) C hW (m_X12_isDay x2 _ e3) mf_X12_isDay mt_X12_isDay ml_X12_495 ⟨rfl, rfl⟩ ⟨Nat.le_of_ble_eq_true rfl, Nat.le_of_ble_eq_true rfl⟩ hl.1 rfl rfl (Nat.le_of_ble_eq_true rfl) dX12_valueOn_17 (fun H locs hW => W.eq (g2 := F0 m 20 ls [.int r3_]) rfl ?_)
    refine lv_if_eq (tgt := 30) hx hb dX12_valueOn_20 (by decide) (fun c4 => ?_) (fun c4 => ?_)
    · have h := xit c4 h
      refine lv_bipush (v := (-2)) hx hb dX12_valueOn_30 rfl ?_
      cases h
      exact xr_i C hW dX12_valueOn_32
    · have h := xif c4 h
      refine lv_iload_n hx hb dX12_valueOn_23 rfl (lv_at hl 3 rfl) ?_
      obtain ⟨r5_, e5, h⟩ := xbo h
      refine xc_S (As := [.int x3]) (rest := []) C hW (m_X12_isDay x3 _ e5) mf_X12_isDay mt_X12_isDay ml_X12_495 ⟨rfl, rfl⟩ ⟨Nat.le_of_ble_eq_true rfl, Nat.le_of_ble_eq_true rfl⟩ hl.1 rfl rfl (Nat.le_of_ble_eq_true rfl) dX12_valueOn_24 (fun H locs hW => W.eq (g2 := F0 m 27 ls [.int r5_]) rfl ?_)
      refine lv_if_ne (tgt := 33) hx hb dX12_valueOn_27 (by decide) (fun c6 => ?_) (fun c6 => ?_)
      · have h := xif c6 h
        refine lv_aload_n hx hb dX12_valueOn_33 rfl (lv_at hl 0 rfl) ?_
        refine lv_iload_n hx hb dX12_valueOn_34 rfl (lv_at hl 1 rfl) ?_
        refine lv_iload_n hx hb dX12_valueOn_35 rfl (lv_at hl 2 rfl) ?_
        refine lv_iload_n hx hb dX12_valueOn_36 rfl (lv_at hl 3 rfl) ?_
        obtain ⟨r7_, e7, h⟩ := xbo h
        refine xc_V (As := [.int x1, .int x2, .int x3]) (rest := []) C hW (m_X12_valueAt N x1 x2 x3 _ e7) mf_X12_valueAt mv_X12_valueAt ml_X12_498 ⟨rfl, rfl⟩ ⟨Nat.le_of_ble_eq_true rfl, Nat.le_of_ble_eq_true rfl⟩ KM_0 rfl hl.1 rfl rfl (Nat.le_of_ble_eq_true rfl) dX12_valueOn_37 (fun H locs hW => W.eq (g2 := F0 m 40 ls [.int r7_]) rfl ?_)
        refine lv_istore (lv' := [(5, .int r7_), (0, .ref (g.q 0)), (1, .int x1), (2, .int x2), (3, .int x3), (4, .int x4)]) hx hb dX12_valueOn_40 hl (Nat.le_of_ble_eq_true rfl) rfl (fun ls hl => ?_)
        refine lv_iload hx hb dX12_valueOn_42 (lv_at hl 0 rfl) ?_
        refine lv_iconst (v := (-1)) hx hb dX12_valueOn_44 rfl ?_
        refine lv_icmp_ne (tgt := 57) hx hb dX12_valueOn_45 (by decide) (fun c8 => ?_) (fun c8 => ?_)
        · have h := xif c8 h
          refine lv_aload_n hx hb dX12_valueOn_57 rfl (lv_at hl 1 rfl) ?_
          refine xg_r C hW fg_12_218 KM_0 rfl dX12_valueOn_58 ?_
          refine lv_iload hx hb dX12_valueOn_61 (lv_at hl 0 rfl) ?_
          obtain ⟨g9, h⟩ := xgd h
          refine xa_i C hW KM_68 g9 (x := σ.1 68 r7_.toNatClampNeg) rfl dX12_valueOn_63 ?_
          exact w_X12_valueOn_64 N σ C x1 x4 r7_ (σ.1 68 r7_.toNatClampNeg) _ _ _ hW (lv_sub hl [1, 2, 5, 0] rfl) h
        · have h := xit c8 h
          refine lv_aload_n hx hb dX12_valueOn_48 rfl (lv_at hl 1 rfl) ?_
          refine xg_r C hW fg_12_37 KM_0 rfl dX12_valueOn_49 ?_
          refine lv_iload_n hx hb dX12_valueOn_52 rfl (lv_at hl 2 rfl) ?_
          obtain ⟨g10, h⟩ := xgd h
          refine xa_i C hW KM_8 g10 (x := σ.1 8 x1.toNatClampNeg) rfl dX12_valueOn_53 ?_
          refine lv_goto (tgt := 64) hx hb dX12_valueOn_54 (by decide) ?_
          exact w_X12_valueOn_64 N σ C x1 x4 r7_ (σ.1 8 x1.toNatClampNeg) _ _ _ hW (lv_sub hl [1, 2, 5, 0] rfl) h
      · have h := xit c6 h
        refine lv_bipush (v := (-2)) hx hb dX12_valueOn_30 rfl ?_
        cases h
        exact xr_i C hW dX12_valueOn_32
end
theorem dX12_count_0 : decode cX12_count 0 = .ok (.iload_n 1, 1) := by decide +kernel
theorem dX12_count_1 : decode cX12_count 1 = .ok (.tableswitch 89 0 7 #[47, 54, 59, 64, 69, 74, 79, 84], 47) := by decide +kernel
theorem dX12_count_48 : decode cX12_count 48 = .ok (.aload_n 0, 1) := by decide +kernel
theorem dX12_count_49 : decode cX12_count 49 = .ok (.getfield 21, 3) := by decide +kernel
theorem dX12_count_52 : decode cX12_count 52 = .ok (.iconst 0, 1) := by decide +kernel
theorem dX12_count_53 : decode cX12_count 53 = .ok (.iaload, 1) := by decide +kernel
theorem dX12_count_54 : decode cX12_count 54 = .ok (.ireturn, 1) := by decide +kernel
theorem dX12_count_55 : decode cX12_count 55 = .ok (.aload_n 0, 1) := by decide +kernel
theorem dX12_count_56 : decode cX12_count 56 = .ok (.getfield 408, 3) := by decide +kernel
theorem dX12_count_59 : decode cX12_count 59 = .ok (.ireturn, 1) := by decide +kernel
theorem dX12_count_60 : decode cX12_count 60 = .ok (.aload_n 0, 1) := by decide +kernel
theorem dX12_count_61 : decode cX12_count 61 = .ok (.getfield 326, 3) := by decide +kernel
theorem dX12_count_64 : decode cX12_count 64 = .ok (.ireturn, 1) := by decide +kernel
theorem dX12_count_65 : decode cX12_count 65 = .ok (.aload_n 0, 1) := by decide +kernel
theorem dX12_count_66 : decode cX12_count 66 = .ok (.getfield 329, 3) := by decide +kernel
theorem dX12_count_69 : decode cX12_count 69 = .ok (.ireturn, 1) := by decide +kernel
theorem dX12_count_70 : decode cX12_count 70 = .ok (.aload_n 0, 1) := by decide +kernel
theorem dX12_count_71 : decode cX12_count 71 = .ok (.getfield 332, 3) := by decide +kernel
theorem dX12_count_74 : decode cX12_count 74 = .ok (.ireturn, 1) := by decide +kernel
theorem dX12_count_75 : decode cX12_count 75 = .ok (.aload_n 0, 1) := by decide +kernel
theorem dX12_count_76 : decode cX12_count 76 = .ok (.getfield 515, 3) := by decide +kernel
theorem dX12_count_79 : decode cX12_count 79 = .ok (.ireturn, 1) := by decide +kernel
theorem dX12_count_80 : decode cX12_count 80 = .ok (.aload_n 0, 1) := by decide +kernel
theorem dX12_count_81 : decode cX12_count 81 = .ok (.getfield 335, 3) := by decide +kernel
theorem dX12_count_84 : decode cX12_count 84 = .ok (.ireturn, 1) := by decide +kernel
theorem dX12_count_85 : decode cX12_count 85 = .ok (.aload_n 0, 1) := by decide +kernel
theorem dX12_count_86 : decode cX12_count 86 = .ok (.getfield 230, 3) := by decide +kernel
theorem dX12_count_89 : decode cX12_count 89 = .ok (.ireturn, 1) := by decide +kernel
theorem dX12_count_90 : decode cX12_count 90 = .ok (.iconst (-1), 1) := by decide +kernel
theorem dX12_count_91 : decode cX12_count 91 = .ok (.ireturn, 1) := by decide +kernel
abbrev rm_X12_count : Room := { frames := 0, cells := 0, slots := 0, locals := 0 }
def f_X12_count (x1 : Int32) (σ : St) : Option Int32 := (if x1 = 0 then grd (ib 0 2) (some (σ.1 3 0)) else (if x1 = 1 then some (σ.1 1049 0) else (if x1 = 2 then some (σ.1 1035 0) else (if x1 = 3 then some (σ.1 1036 0) else (if x1 = 4 then some (σ.1 1069 0) else (if x1 = 5 then some (σ.1 1085 0) else (if x1 = 6 then some (σ.1 1096 0) else (if x1 = 7 then some (σ.1 1001 0) else some ((-1))))))))))
section
variable {p : Program} {l : Launch} {e : Env} {s : State} {m : MethodId} {args : Array Value} {below : List Frame} {meth : Method} {c : Code} {g : XG}
set_option maxRecDepth 4000 in
theorem m_X12_count (x1 : Int32) (σ : St) {r : Int32} (h : f_X12_count x1 σ = some r) : xM l KM g yX12_count cX12_count 2 (some .int) rm_X12_count [.ref (g.q 0), .int x1] σ (some (.int r)) σ := by
  refine xmet pn_X12 rfl (Nat.le_of_ble_eq_true rfl) (lv := [(0, .ref (g.q 0)), (1, .int x1)]) rfl (fun p e s m args below meth c ls C hW hl => ?_)
  have hx := C.1
  have hb := C.2.1
  unfold f_X12_count at h
  refine lv_iload_n hx hb dX12_count_0 rfl (lv_at hl 1 rfl) ?_
  by_cases c1 : x1 = 0
  · have h := xit c1 h
    refine lv_tableIn (off := 47) (tgt := 48) hx hb dX12_count_1 (by rw [c1]; decide) (by rw [c1]; decide) (by rw [c1]; rfl) (by decide) ?_
    refine lv_aload_n hx hb dX12_count_48 rfl (lv_at hl 0 rfl) ?_
    refine xg_r C hW fg_12_21 KM_0 rfl dX12_count_49 ?_
    refine lv_iconst (v := 0) hx hb dX12_count_52 rfl ?_
    obtain ⟨g2, h⟩ := xgd h
    refine xa_i C hW KM_3 g2 (x := σ.1 3 0) rfl dX12_count_53 ?_
    cases h
    exact xr_i C hW dX12_count_54
  · have h := xif c1 h
    by_cases c3 : x1 = 1
    · have h := xit c3 h
      refine lv_tableIn (off := 54) (tgt := 55) hx hb dX12_count_1 (by rw [c3]; decide) (by rw [c3]; decide) (by rw [c3]; rfl) (by decide) ?_
      refine lv_aload_n hx hb dX12_count_55 rfl (lv_at hl 0 rfl) ?_
      refine xg_i C hW fg_12_408 KM_0 rfl (v := 1049) rfl (x := σ.1 1049 0) rfl dX12_count_56 ?_
      cases h
      exact xr_i C hW dX12_count_59
    · have h := xif c3 h
      by_cases c4 : x1 = 2
      · have h := xit c4 h
        refine lv_tableIn (off := 59) (tgt := 60) hx hb dX12_count_1 (by rw [c4]; decide) (by rw [c4]; decide) (by rw [c4]; rfl) (by decide) ?_
        refine lv_aload_n hx hb dX12_count_60 rfl (lv_at hl 0 rfl) ?_
        refine xg_i C hW fg_12_326 KM_0 rfl (v := 1035) rfl (x := σ.1 1035 0) rfl dX12_count_61 ?_
        cases h
        exact xr_i C hW dX12_count_64
      · have h := xif c4 h
        by_cases c5 : x1 = 3
        · have h := xit c5 h
          refine lv_tableIn (off := 64) (tgt := 65) hx hb dX12_count_1 (by rw [c5]; decide) (by rw [c5]; decide) (by rw [c5]; rfl) (by decide) ?_
          refine lv_aload_n hx hb dX12_count_65 rfl (lv_at hl 0 rfl) ?_
          refine xg_i C hW fg_12_329 KM_0 rfl (v := 1036) rfl (x := σ.1 1036 0) rfl dX12_count_66 ?_
          cases h
          exact xr_i C hW dX12_count_69
        · have h := xif c5 h
          by_cases c6 : x1 = 4
          · have h := xit c6 h
            refine lv_tableIn (off := 69) (tgt := 70) hx hb dX12_count_1 (by rw [c6]; decide) (by rw [c6]; decide) (by rw [c6]; rfl) (by decide) ?_
            refine lv_aload_n hx hb dX12_count_70 rfl (lv_at hl 0 rfl) ?_
            refine xg_i C hW fg_12_332 KM_0 rfl (v := 1069) rfl (x := σ.1 1069 0) rfl dX12_count_71 ?_
            cases h
            exact xr_i C hW dX12_count_74
          · have h := xif c6 h
            by_cases c7 : x1 = 5
            · have h := xit c7 h
              refine lv_tableIn (off := 74) (tgt := 75) hx hb dX12_count_1 (by rw [c7]; decide) (by rw [c7]; decide) (by rw [c7]; rfl) (by decide) ?_
              refine lv_aload_n hx hb dX12_count_75 rfl (lv_at hl 0 rfl) ?_
              refine xg_i C hW fg_12_515 KM_0 rfl (v := 1085) rfl (x := σ.1 1085 0) rfl dX12_count_76 ?_
              cases h
              exact xr_i C hW dX12_count_79
            · have h := xif c7 h
              by_cases c8 : x1 = 6
              · have h := xit c8 h
                refine lv_tableIn (off := 79) (tgt := 80) hx hb dX12_count_1 (by rw [c8]; decide) (by rw [c8]; decide) (by rw [c8]; rfl) (by decide) ?_
                refine lv_aload_n hx hb dX12_count_80 rfl (lv_at hl 0 rfl) ?_
                refine xg_i C hW fg_12_335 KM_0 rfl (v := 1096) rfl (x := σ.1 1096 0) rfl dX12_count_81 ?_
                cases h
                exact xr_i C hW dX12_count_84
              · have h := xif c8 h
                by_cases c9 : x1 = 7
                · have h := xit c9 h
                  refine lv_tableIn (off := 84) (tgt := 85) hx hb dX12_count_1 (by rw [c9]; decide) (by rw [c9]; decide) (by rw [c9]; rfl) (by decide) ?_
                  refine lv_aload_n hx hb dX12_count_85 rfl (lv_at hl 0 rfl) ?_
                  refine xg_i C hW fg_12_230 KM_0 rfl (v := 1001) rfl (x := σ.1 1001 0) rfl dX12_count_86 ?_
                  cases h
                  exact xr_i C hW dX12_count_89
                · have h := xif c9 h
                  refine lv_tableOut (tgt := 90) hx hb dX12_count_1 (xsw_out (fun k h1 h2 => ?_)) (by decide) ?_
                  · rcases (show k = 0 ∨ k = 1 ∨ k = 2 ∨ k = 3 ∨ k = 4 ∨ k = 5 ∨ k = 6 ∨ k = 7 by omega) with rfl | rfl | rfl | rfl | rfl | rfl | rfl | rfl
                    · exact c1
                    · exact c3
                    · exact c4
                    · exact c5
                    · exact c6
                    · exact c7
                    · exact c8
                    · exact c9
                  · refine lv_iconst (v := (-1)) hx hb dX12_count_90 rfl ?_
                    cases h
                    exact xr_i C hW dX12_count_91
end
