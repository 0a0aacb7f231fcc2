theorem dX12_readClause_0 : decode cX12_readClause 0 = .ok (.aload_n 0, 1) := by decide +kernel
theorem dX12_readClause_1 : decode cX12_readClause 1 = .ok (.getfield 264, 3) := by decide +kernel
theorem dX12_readClause_4 : decode cX12_readClause 4 = .ok (.iconst 1, 1) := by decide +kernel
theorem dX12_readClause_5 : decode cX12_readClause 5 = .ok (.if_icmp .ne 15, 3) := by decide +kernel
theorem dX12_readClause_8 : decode cX12_readClause 8 = .ok (.aload_n 0, 1) := by decide +kernel
theorem dX12_readClause_9 : decode cX12_readClause 9 = .ok (.getfield 261, 3) := by decide +kernel
theorem dX12_readClause_12 : decode cX12_readClause 12 = .ok (.iconst 0, 1) := by decide +kernel
theorem dX12_readClause_13 : decode cX12_readClause 13 = .ok (.iconst 4, 1) := by decide +kernel
theorem dX12_readClause_14 : decode cX12_readClause 14 = .ok (.invokestatic 295, 3) := by decide +kernel
theorem dX12_readClause_17 : decode cX12_readClause 17 = .ok (.ifCond .ne 9, 3) := by decide +kernel
theorem dX12_readClause_20 : decode cX12_readClause 20 = .ok (.aload_n 0, 1) := by decide +kernel
theorem dX12_readClause_21 : decode cX12_readClause 21 = .ok (.iconst 1, 1) := by decide +kernel
theorem dX12_readClause_22 : decode cX12_readClause 22 = .ok (.invokevirtual 292, 3) := by decide +kernel
theorem dX12_readClause_25 : decode cX12_readClause 25 = .ok (.ireturn, 1) := by decide +kernel
theorem dX12_readClause_26 : decode cX12_readClause 26 = .ok (.aload_n 0, 1) := by decide +kernel
theorem dX12_readClause_27 : decode cX12_readClause 27 = .ok (.getfield 261, 3) := by decide +kernel
theorem dX12_readClause_30 : decode cX12_readClause 30 = .ok (.istore_n 1, 1) := by decide +kernel
theorem dX12_readClause_31 : decode cX12_readClause 31 = .ok (.iload_n 1, 1) := by decide +kernel
theorem dX12_readClause_32 : decode cX12_readClause 32 = .ok (.ifCond .ne 32, 3) := by decide +kernel
theorem dX12_readClause_35 : decode cX12_readClause 35 = .ok (.aload_n 0, 1) := by decide +kernel
theorem dX12_readClause_36 : decode cX12_readClause 36 = .ok (.getfield 21, 3) := by decide +kernel
theorem dX12_readClause_39 : decode cX12_readClause 39 = .ok (.iconst 1, 1) := by decide +kernel
theorem dX12_readClause_40 : decode cX12_readClause 40 = .ok (.iaload, 1) := by decide +kernel
theorem dX12_readClause_41 : decode cX12_readClause 41 = .ok (.bipush 40, 2) := by decide +kernel
theorem dX12_readClause_43 : decode cX12_readClause 43 = .ok (.if_icmp .ne 9, 3) := by decide +kernel
theorem dX12_readClause_46 : decode cX12_readClause 46 = .ok (.aload_n 0, 1) := by decide +kernel
theorem dX12_readClause_47 : decode cX12_readClause 47 = .ok (.iconst 4, 1) := by decide +kernel
theorem dX12_readClause_48 : decode cX12_readClause 48 = .ok (.invokevirtual 292, 3) := by decide +kernel
theorem dX12_readClause_51 : decode cX12_readClause 51 = .ok (.ireturn, 1) := by decide +kernel
theorem dX12_readClause_52 : decode cX12_readClause 52 = .ok (.aload_n 0, 1) := by decide +kernel
theorem dX12_readClause_53 : decode cX12_readClause 53 = .ok (.invokevirtual 239, 3) := by decide +kernel
theorem dX12_readClause_56 : decode cX12_readClause 56 = .ok (.aload_n 0, 1) := by decide +kernel
theorem dX12_readClause_57 : decode cX12_readClause 57 = .ok (.invokevirtual 314, 3) := by decide +kernel
theorem dX12_readClause_60 : decode cX12_readClause 60 = .ok (.istore_n 2, 1) := by decide +kernel
theorem dX12_readClause_61 : decode cX12_readClause 61 = .ok (.goto 111, 3) := by decide +kernel
theorem dX12_readClause_64 : decode cX12_readClause 64 = .ok (.aload_n 0, 1) := by decide +kernel
theorem dX12_readClause_65 : decode cX12_readClause 65 = .ok (.getfield 317, 3) := by decide +kernel
theorem dX12_readClause_68 : decode cX12_readClause 68 = .ok (.iload_n 1, 1) := by decide +kernel
theorem dX12_readClause_69 : decode cX12_readClause 69 = .ok (.ishr, 1) := by decide +kernel
theorem dX12_readClause_70 : decode cX12_readClause 70 = .ok (.iconst 1, 1) := by decide +kernel
theorem dX12_readClause_71 : decode cX12_readClause 71 = .ok (.iand, 1) := by decide +kernel
theorem dX12_readClause_72 : decode cX12_readClause 72 = .ok (.iconst 1, 1) := by decide +kernel
theorem dX12_readClause_73 : decode cX12_readClause 73 = .ok (.if_icmp .ne 9, 3) := by decide +kernel
theorem dX12_readClause_76 : decode cX12_readClause 76 = .ok (.aload_n 0, 1) := by decide +kernel
theorem dX12_readClause_77 : decode cX12_readClause 77 = .ok (.iconst 3, 1) := by decide +kernel
theorem dX12_readClause_78 : decode cX12_readClause 78 = .ok (.invokevirtual 292, 3) := by decide +kernel
theorem dX12_readClause_81 : decode cX12_readClause 81 = .ok (.ireturn, 1) := by decide +kernel
theorem dX12_readClause_82 : decode cX12_readClause 82 = .ok (.aload_n 0, 1) := by decide +kernel
theorem dX12_readClause_83 : decode cX12_readClause 83 = .ok (.dup, 1) := by decide +kernel
theorem dX12_readClause_84 : decode cX12_readClause 84 = .ok (.getfield 317, 3) := by decide +kernel
theorem dX12_readClause_87 : decode cX12_readClause 87 = .ok (.iconst 1, 1) := by decide +kernel
theorem dX12_readClause_88 : decode cX12_readClause 88 = .ok (.iload_n 1, 1) := by decide +kernel
theorem dX12_readClause_89 : decode cX12_readClause 89 = .ok (.ishl, 1) := by decide +kernel
theorem dX12_readClause_90 : decode cX12_readClause 90 = .ok (.ior, 1) := by decide +kernel
theorem dX12_readClause_91 : decode cX12_readClause 91 = .ok (.putfield 317, 3) := by decide +kernel
theorem dX12_readClause_94 : decode cX12_readClause 94 = .ok (.aload_n 0, 1) := by decide +kernel
theorem dX12_readClause_95 : decode cX12_readClause 95 = .ok (.invokevirtual 239, 3) := by decide +kernel
theorem dX12_readClause_98 : decode cX12_readClause 98 = .ok (.aload_n 0, 1) := by decide +kernel
theorem dX12_readClause_99 : decode cX12_readClause 99 = .ok (.iload_n 1, 1) := by decide +kernel
theorem dX12_readClause_100 : decode cX12_readClause 100 = .ok (.iconst 2, 1) := by decide +kernel
theorem dX12_readClause_101 : decode cX12_readClause 101 = .ok (.if_icmp .ne 8, 3) := by decide +kernel
theorem dX12_readClause_104 : decode cX12_readClause 104 = .ok (.bipush 8, 2) := by decide +kernel
theorem dX12_readClause_106 : decode cX12_readClause 106 = .ok (.goto 13, 3) := by decide +kernel
theorem dX12_readClause_109 : decode cX12_readClause 109 = .ok (.iload_n 1, 1) := by decide +kernel
theorem dX12_readClause_110 : decode cX12_readClause 110 = .ok (.iconst 3, 1) := by decide +kernel
theorem dX12_readClause_111 : decode cX12_readClause 111 = .ok (.if_icmp .ne 7, 3) := by decide +kernel
theorem dX12_readClause_114 : decode cX12_readClause 114 = .ok (.iconst 1, 1) := by decide +kernel
theorem dX12_readClause_115 : decode cX12_readClause 115 = .ok (.goto 4, 3) := by decide +kernel
theorem dX12_readClause_118 : decode cX12_readClause 118 = .ok (.iconst 0, 1) := by decide +kernel
theorem dX12_readClause_119 : decode cX12_readClause 119 = .ok (.iload_n 1, 1) := by decide +kernel
theorem dX12_readClause_120 : decode cX12_readClause 120 = .ok (.iconst 1, 1) := by decide +kernel
theorem dX12_readClause_121 : decode cX12_readClause 121 = .ok (.if_icmp .ne 8, 3) := by decide +kernel
theorem dX12_readClause_124 : decode cX12_readClause 124 = .ok (.bipush 9, 2) := by decide +kernel
theorem dX12_readClause_126 : decode cX12_readClause 126 = .ok (.goto 24, 3) := by decide +kernel
theorem dX12_readClause_129 : decode cX12_readClause 129 = .ok (.iload_n 1, 1) := by decide +kernel
theorem dX12_readClause_130 : decode cX12_readClause 130 = .ok (.iconst 2, 1) := by decide +kernel
theorem dX12_readClause_131 : decode cX12_readClause 131 = .ok (.if_icmp .ne 8, 3) := by decide +kernel
theorem dX12_readClause_134 : decode cX12_readClause 134 = .ok (.bipush 99, 2) := by decide +kernel
theorem dX12_readClause_136 : decode cX12_readClause 136 = .ok (.goto 14, 3) := by decide +kernel
theorem dX12_readClause_139 : decode cX12_readClause 139 = .ok (.iload_n 1, 1) := by decide +kernel
theorem dX12_readClause_140 : decode cX12_readClause 140 = .ok (.iconst 3, 1) := by decide +kernel
theorem dX12_readClause_141 : decode cX12_readClause 141 = .ok (.if_icmp .ne 8, 3) := by decide +kernel
theorem dX12_readClause_144 : decode cX12_readClause 144 = .ok (.bipush 100, 2) := by decide +kernel
theorem dX12_readClause_146 : decode cX12_readClause 146 = .ok (.goto 4, 3) := by decide +kernel
theorem dX12_readClause_149 : decode cX12_readClause 149 = .ok (.iconst 3, 1) := by decide +kernel
theorem dX12_readClause_150 : decode cX12_readClause 150 = .ok (.invokevirtual 306, 3) := by decide +kernel
theorem dX12_readClause_153 : decode cX12_readClause 153 = .ok (.istore_n 2, 1) := by decide +kernel
theorem dX12_readClause_154 : decode cX12_readClause 154 = .ok (.iload_n 2, 1) := by decide +kernel
theorem dX12_readClause_155 : decode cX12_readClause 155 = .ok (.ifCond .eq 17, 3) := by decide +kernel
theorem dX12_readClause_158 : decode cX12_readClause 158 = .ok (.aload_n 0, 1) := by decide +kernel
theorem dX12_readClause_159 : decode cX12_readClause 159 = .ok (.getfield 17, 3) := by decide +kernel
theorem dX12_readClause_162 : decode cX12_readClause 162 = .ok (.iconst 4, 1) := by decide +kernel
theorem dX12_readClause_163 : decode cX12_readClause 163 = .ok (.iload_n 1, 1) := by decide +kernel
theorem dX12_readClause_164 : decode cX12_readClause 164 = .ok (.iadd, 1) := by decide +kernel
theorem dX12_readClause_165 : decode cX12_readClause 165 = .ok (.iconst 1, 1) := by decide +kernel
theorem dX12_readClause_166 : decode cX12_readClause 166 = .ok (.isub, 1) := by decide +kernel
theorem dX12_readClause_167 : decode cX12_readClause 167 = .ok (.aload_n 0, 1) := by decide +kernel
theorem dX12_readClause_168 : decode cX12_readClause 168 = .ok (.getfield 299, 3) := by decide +kernel
theorem dX12_readClause_171 : decode cX12_readClause 171 = .ok (.iastore, 1) := by decide +kernel
theorem dX12_readClause_172 : decode cX12_readClause 172 = .ok (.iload_n 2, 1) := by decide +kernel
theorem dX12_readClause_173 : decode cX12_readClause 173 = .ok (.ifCond .ne 5, 3) := by decide +kernel
theorem dX12_readClause_176 : decode cX12_readClause 176 = .ok (.iconst 0, 1) := by decide +kernel
theorem dX12_readClause_177 : decode cX12_readClause 177 = .ok (.ireturn, 1) := by decide +kernel
theorem dX12_readClause_178 : decode cX12_readClause 178 = .ok (.aload_n 0, 1) := by decide +kernel
theorem dX12_readClause_179 : decode cX12_readClause 179 = .ok (.getfield 264, 3) := by decide +kernel
theorem dX12_readClause_182 : decode cX12_readClause 182 = .ok (.iconst 3, 1) := by decide +kernel
theorem dX12_readClause_183 : decode cX12_readClause 183 = .ok (.if_icmp .eq 9, 3) := by decide +kernel
theorem dX12_readClause_186 : decode cX12_readClause 186 = .ok (.aload_n 0, 1) := by decide +kernel
theorem dX12_readClause_187 : decode cX12_readClause 187 = .ok (.iconst 1, 1) := by decide +kernel
theorem dX12_readClause_188 : decode cX12_readClause 188 = .ok (.invokevirtual 292, 3) := by decide +kernel
theorem dX12_readClause_191 : decode cX12_readClause 191 = .ok (.ireturn, 1) := by decide +kernel
theorem dX12_readClause_192 : decode cX12_readClause 192 = .ok (.aload_n 0, 1) := by decide +kernel
theorem dX12_readClause_193 : decode cX12_readClause 193 = .ok (.invokevirtual 239, 3) := by decide +kernel
theorem dX12_readClause_196 : decode cX12_readClause 196 = .ok (.iconst 1, 1) := by decide +kernel
theorem dX12_readClause_197 : decode cX12_readClause 197 = .ok (.ireturn, 1) := by decide +kernel
abbrev rm_X12_readClause : Room := { frames := 8, cells := 0, slots := 0, locals := 215 }
def f_X12_readClause_20 (N : Nat) (σ : St) : Option (Int32 × St) := bd (f_X12_fails 1 σ) (fun r27_ σ27 => grd (zbb r27_) (some (r27_, σ27)))
def f_X12_readClause_172 (N : Nat) (x2 : Int32) (σ : St) : Option (Int32 × St) := (if x2 = 0 then some (0, σ) else (if (σ.1 1003 0) = 3 then bo (f_X12_scan N σ) (fun σ18 => some (1, σ18)) else bd (f_X12_fails 1 σ) (fun r19_ σ19 => grd (zbb r19_) (some (r19_, σ19)))))
def f_X12_readClause_150 (N : Nat) (x1 : Int32) (t1 : Int32) (t2 : Int32) (σ : St) : Option (Int32 × St) := bd (f_X12_readNumber N t1 t2 σ) (fun r24_ σ24 => (if r24_ = 0 then f_X12_readClause_172 N r24_ σ24 else grd (ib ((4 + x1) - 1) 8) (f_X12_readClause_172 N r24_ (si σ24 2 ((4 + x1) - 1).toNatClampNeg (σ24.1 1011 0)))))
def f_X12_readClause_119 (N : Nat) (x1 : Int32) (t1 : Int32) (σ : St) : Option (Int32 × St) := (if x1 = 1 then f_X12_readClause_150 N x1 t1 9 σ else (if x1 = 2 then f_X12_readClause_150 N x1 t1 99 σ else (if x1 = 3 then f_X12_readClause_150 N x1 t1 100 σ else f_X12_readClause_150 N x1 t1 3 σ)))
def f_X12_readClause (N : Nat) (σ : St) : Option (Int32 × St) := (if (σ.1 1003 0) = 1 then (if (f_X12_in (σ.1 1004 0) 0 4 σ) = 0 then f_X12_readClause_20 N σ else (if (σ.1 1004 0) = 0 then grd (ib 1 2) ((if (σ.1 3 1) = 40 then bd (f_X12_fails 4 σ) (fun r14_ σ14 => grd (zbb r14_) (some (r14_, σ14))) else bo (f_X12_scan N σ) (fun σ12 => bd (f_X12_readSign N σ12) (fun r13_ σ13 => f_X12_readClause_172 N r13_ σ13)))) else (if (((σ.1 1021 0) >>> ((σ.1 1004 0) &&& 31)) &&& 1) = 1 then bd (f_X12_fails 3 σ) (fun r8_ σ8 => grd (zbb r8_) (some (r8_, σ8))) else bo (f_X12_scan N (si σ 1021 0 ((σ.1 1021 0) ||| (1 <<< ((σ.1 1004 0) &&& 31))))) (fun σ5 => (if (σ.1 1004 0) = 2 then f_X12_readClause_119 N (σ.1 1004 0) 8 σ5 else (if (σ.1 1004 0) = 3 then f_X12_readClause_119 N (σ.1 1004 0) 1 σ5 else f_X12_readClause_119 N (σ.1 1004 0) 0 σ5)))))) else f_X12_readClause_20 N σ)
section
variable {p : Program} {l : Launch} {e : Env} {s : State} {m : MethodId} {args : Array Value} {below : List Frame} {meth : Method} {c : Code} {g : XG}
set_option maxRecDepth 4000 in
theorem w_X12_readClause_20 (N : Nat) {r : Int32} {σ' : St} (C : xC KM g RX12 cX12_readClause 3 (some .boolean) p s m args meth c) : ∀ (σ : St) (H : Heap) (locs : List Loc) (ls : Array Slot), xW KM g s σ H locs → lv_has ls 3 [(0, .ref (g.q 0))] → f_X12_readClause_20 N σ = some (r, σ') → W p l e rm_X12_readClause s m args below meth c H locs 0 0 (MQ below (xPost KM g (some (.int r)) σ') args s 0 0 (xA KM g.q)) (F0 m 20 ls []) := by
  have hx := C.1
  have hb := C.2.1
  intro σ H locs ls hW hl h
  unfold f_X12_readClause_20 at h
  refine lv_aload_n hx hb dX12_readClause_20 rfl (lv_at hl 0 rfl) ?_
  refine lv_iconst (v := 1) hx hb dX12_readClause_21 rfl ?_
  obtain ⟨r27_, σ27, e27, h⟩ := xbd h
  refine xc_V (As := [.int 1]) (rest := []) C hW (m_X12_fails 1 _ e27) mf_X12_fails mv_X12_fails ml_X12_292 ⟨rfl, rfl⟩ ⟨Nat.le_of_ble_eq_true rfl, Nat.le_of_ble_eq_true rfl⟩ KM_0 rfl hl.1 rfl rfl (Nat.le_of_ble_eq_true rfl) dX12_readClause_22 (fun H locs hW => W.eq (g2 := F0 m 25 ls [.int r27_]) rfl ?_)
  obtain ⟨g28, h⟩ := xgd h
  cases h
  exact xr_z C hW g28 dX12_readClause_25
set_option maxRecDepth 4000 in
theorem w_X12_readClause_172 (N : Nat) {r : Int32} {σ' : St} (C : xC KM g RX12 cX12_readClause 3 (some .boolean) p s m args meth c) : ∀ (x2 : Int32) (σ : St) (H : Heap) (locs : List Loc) (ls : Array Slot), xW KM g s σ H locs → lv_has ls 3 [(0, .ref (g.q 0)), (2, .int x2)] → f_X12_readClause_172 N x2 σ = some (r, σ') → W p l e rm_X12_readClause s m args below meth c H locs 0 0 (MQ below (xPost KM g (some (.int r)) σ') args s 0 0 (xA KM g.q)) (F0 m 172 ls []) := by
  have hx := C.1
  have hb := C.2.1
  intro x2 σ H locs ls hW hl h
  unfold f_X12_readClause_172 at h
  refine lv_iload_n hx hb dX12_readClause_172 rfl (lv_at hl 1 rfl) ?_
  refine lv_if_ne (tgt := 178) hx hb dX12_readClause_173 (by decide) (fun c16 => ?_) (fun c16 => ?_)
  · have h := xif c16 h
    refine lv_aload_n hx hb dX12_readClause_178 rfl (lv_at hl 0 rfl) ?_
    refine xg_i C hW fg_12_264 KM_0 rfl (v := 1003) rfl (x := σ.1 1003 0) rfl dX12_readClause_179 ?_
    refine lv_iconst (v := 3) hx hb dX12_readClause_182 rfl ?_
    refine lv_icmp_eq (tgt := 192) hx hb dX12_readClause_183 (by decide) (fun c17 => ?_) (fun c17 => ?_)
    · have h := xit c17 h
      refine lv_aload_n hx hb dX12_readClause_192 rfl (lv_at hl 0 rfl) ?_
      obtain ⟨σ18, e18, h⟩ := xbo h
      refine xc_V (As := []) (rest := []) C hW (m_X12_scan N _ e18) mf_X12_scan mv_X12_scan ml_X12_239 ⟨rfl, rfl⟩ ⟨Nat.le_of_ble_eq_true rfl, Nat.le_of_ble_eq_true rfl⟩ KM_0 rfl hl.1 rfl rfl (Nat.le_of_ble_eq_true rfl) dX12_readClause_193 (fun H locs hW => W.eq (g2 := F0 m 196 ls []) rfl ?_)
      refine lv_iconst (v := 1) hx hb dX12_readClause_196 rfl ?_
      cases h
      exact xr_z C hW (by decide) dX12_readClause_197
    · have h := xif c17 h
      refine lv_aload_n hx hb dX12_readClause_186 rfl (lv_at hl 0 rfl) ?_
      refine lv_iconst (v := 1) hx hb dX12_readClause_187 rfl ?_
      obtain ⟨r19_, σ19, e19, h⟩ := xbd h
      refine xc_V (As := [.int 1]) (rest := []) C hW (m_X12_fails 1 _ e19) mf_X12_fails mv_X12_fails ml_X12_292 ⟨rfl, rfl⟩ ⟨Nat.le_of_ble_eq_true rfl, Nat.le_of_ble_eq_true rfl⟩ KM_0 rfl hl.1 rfl rfl (Nat.le_of_ble_eq_true rfl) dX12_readClause_188 (fun H locs hW => W.eq (g2 := F0 m 191 ls [.int r19_]) rfl ?_)
      obtain ⟨g20, h⟩ := xgd h
      cases h
      exact xr_z C hW g20 dX12_readClause_191
  · have h := xit c16 h
    refine lv_iconst (v := 0) hx hb dX12_readClause_176 rfl ?_
    cases h
    exact xr_z C hW (by decide) dX12_readClause_177
set_option maxRecDepth 4000 in
theorem w_X12_readClause_150 (N : Nat) {r : Int32} {σ' : St} (C : xC KM g RX12 cX12_readClause 3 (some .boolean) p s m args meth c) : ∀ (x1 : Int32) (t1 : Int32) (t2 : Int32) (σ : St) (H : Heap) (locs : List Loc) (ls : Array Slot), xW KM g s σ H locs → lv_has ls 3 [(0, .ref (g.q 0)), (1, .int x1)] → f_X12_readClause_150 N x1 t1 t2 σ = some (r, σ') → W p l e rm_X12_readClause s m args below meth c H locs 0 0 (MQ below (xPost KM g (some (.int r)) σ') args s 0 0 (xA KM g.q)) (F0 m 150 ls [.int t2, .int t1, .ref (g.q 0)]) := by
  have hx := C.1
  have hb := C.2.1
  intro x1 t1 t2 σ H locs ls hW hl h
  unfold f_X12_readClause_150 at h
  obtain ⟨r24_, σ24, e24, h⟩ := xbd h
  refine xc_V (As := [.int t1, .int t2]) (rest := []) C hW (m_X12_readNumber N t1 t2 _ e24) mf_X12_readNumber mv_X12_readNumber ml_X12_306 ⟨rfl, rfl⟩ ⟨Nat.le_of_ble_eq_true rfl, Nat.le_of_ble_eq_true rfl⟩ KM_0 rfl hl.1 rfl rfl (Nat.le_of_ble_eq_true rfl) dX12_readClause_150 (fun H locs hW => W.eq (g2 := F0 m 153 ls [.int r24_]) rfl ?_)
  refine lv_istore_n (lv' := [(2, .int r24_), (0, .ref (g.q 0)), (1, .int x1)]) hx hb dX12_readClause_153 rfl hl (Nat.le_of_ble_eq_true rfl) rfl (fun ls hl => ?_)
  refine lv_iload_n hx hb dX12_readClause_154 rfl (lv_at hl 0 rfl) ?_
  refine lv_if_eq (tgt := 172) hx hb dX12_readClause_155 (by decide) (fun c25 => ?_) (fun c25 => ?_)
  · have h := xit c25 h
    exact w_X12_readClause_172 N C r24_ _ _ _ _ hW (lv_sub hl [1, 0] rfl) h
  · have h := xif c25 h
    refine lv_aload_n hx hb dX12_readClause_158 rfl (lv_at hl 1 rfl) ?_
    refine xg_r C hW fg_12_17 KM_0 rfl dX12_readClause_159 ?_
    refine lv_iconst (v := 4) hx hb dX12_readClause_162 rfl ?_
    refine lv_iload_n hx hb dX12_readClause_163 rfl (lv_at hl 2 rfl) ?_
    refine lv_iadd hx hb dX12_readClause_164 ?_
    refine lv_iconst (v := 1) hx hb dX12_readClause_165 rfl ?_
    refine lv_isub hx hb dX12_readClause_166 ?_
    refine lv_aload_n hx hb dX12_readClause_167 rfl (lv_at hl 1 rfl) ?_
    refine xg_i C hW fg_12_299 KM_0 rfl (v := 1011) rfl (x := σ24.1 1011 0) rfl dX12_readClause_168 ?_
    obtain ⟨g26, h⟩ := xgd h
    refine xs_i C hW KM_2 g26 dX12_readClause_171 (fun H locs hW => ?_)
    exact w_X12_readClause_172 N C r24_ _ _ _ _ hW (lv_sub hl [1, 0] rfl) h
set_option maxRecDepth 4000 in
theorem w_X12_readClause_119 (N : Nat) {r : Int32} {σ' : St} (C : xC KM g RX12 cX12_readClause 3 (some .boolean) p s m args meth c) : ∀ (x1 : Int32) (t1 : Int32) (σ : St) (H : Heap) (locs : List Loc) (ls : Array Slot), xW KM g s σ H locs → lv_has ls 3 [(0, .ref (g.q 0)), (1, .int x1)] → f_X12_readClause_119 N x1 t1 σ = some (r, σ') → W p l e rm_X12_readClause s m args below meth c H locs 0 0 (MQ below (xPost KM g (some (.int r)) σ') args s 0 0 (xA KM g.q)) (F0 m 119 ls [.int t1, .ref (g.q 0)]) := by
  have hx := C.1
  have hb := C.2.1
  intro x1 t1 σ H locs ls hW hl h
  unfold f_X12_readClause_119 at h
  refine lv_iload_n hx hb dX12_readClause_119 rfl (lv_at hl 1 rfl) ?_
  refine lv_iconst (v := 1) hx hb dX12_readClause_120 rfl ?_
  refine lv_icmp_ne (tgt := 129) hx hb dX12_readClause_121 (by decide) (fun c21 => ?_) (fun c21 => ?_)
  · have h := xif c21 h
    refine lv_iload_n hx hb dX12_readClause_129 rfl (lv_at hl 1 rfl) ?_
    refine lv_iconst (v := 2) hx hb dX12_readClause_130 rfl ?_
    refine lv_icmp_ne (tgt := 139) hx hb dX12_readClause_131 (by decide) (fun c22 => ?_) (fun c22 => ?_)
    · have h := xif c22 h
      refine lv_iload_n hx hb dX12_readClause_139 rfl (lv_at hl 1 rfl) ?_
      refine lv_iconst (v := 3) hx hb dX12_readClause_140 rfl ?_
      refine lv_icmp_ne (tgt := 149) hx hb dX12_readClause_141 (by decide) (fun c23 => ?_) (fun c23 => ?_)
      · have h := xif c23 h
        refine lv_iconst (v := 3) hx hb dX12_readClause_149 rfl ?_
        exact w_X12_readClause_150 N C x1 t1 3 _ _ _ _ hW (lv_sub hl [0, 1] rfl) h
      · have h := xit c23 h
        refine lv_bipush (v := 100) hx hb dX12_readClause_144 rfl ?_
        refine lv_goto (tgt := 150) hx hb dX12_readClause_146 (by decide) ?_
        exact w_X12_readClause_150 N C x1 t1 100 _ _ _ _ hW (lv_sub hl [0, 1] rfl) h
    · have h := xit c22 h
      refine lv_bipush (v := 99) hx hb dX12_readClause_134 rfl ?_
      refine lv_goto (tgt := 150) hx hb dX12_readClause_136 (by decide) ?_
      exact w_X12_readClause_150 N C x1 t1 99 _ _ _ _ hW (lv_sub hl [0, 1] rfl) h
  · have h := xit c21 h
    refine lv_bipush (v := 9) hx hb dX12_readClause_124 rfl ?_
    refine lv_goto (tgt := 150) hx hb dX12_readClause_126 (by decide) ?_
    exact w_X12_readClause_150 N C x1 t1 9 _ _ _ _ hW (lv_sub hl [0, 1] rfl) h
set_option maxRecDepth 4000 in
theorem m_X12_readClause (N : Nat) (σ : St) {r : Int32} {σ' : St} (h : f_X12_readClause N σ = some (r, σ')) : xM l KM g yX12_readClause cX12_readClause 3 (some .boolean) rm_X12_readClause [.ref (g.q 0)] σ (some (.int r)) σ' := by
  refine xmet pn_X12 rfl (Nat.le_of_ble_eq_true rfl) (lv := [(0, .ref (g.q 0))]) rfl (fun p e s m args below meth c ls C hW hl => ?_)
  have hx := C.1
  have hb := C.2.1
  unfold f_X12_readClause at h
  refine lv_aload_n hx hb dX12_readClause_0 rfl (lv_at hl 0 rfl) ?_
  refine xg_i C hW fg_12_264 KM_0 rfl (v := 1003) rfl (x := σ.1 1003 0) rfl dX12_readClause_1 ?_
  refine lv_iconst (v := 1) hx hb dX12_readClause_4 rfl ?_
  refine lv_icmp_ne (tgt := 20) hx hb dX12_readClause_5 (by decide) (fun c1 => ?_) (fun c1 => ?_)
  · have h := xif c1 h
    exact w_X12_readClause_20 N C _ _ _ _ hW (lv_sub hl [0] rfl) h
  · have h := xit c1 h
    refine lv_aload_n hx hb dX12_readClause_8 rfl (lv_at hl 0 rfl) ?_
    refine xg_i C hW fg_12_261 KM_0 rfl (v := 1004) rfl (x := σ.1 1004 0) rfl dX12_readClause_9 ?_
    refine lv_iconst (v := 0) hx hb dX12_readClause_12 rfl ?_
    refine lv_iconst (v := 4) hx hb dX12_readClause_13 rfl ?_
    refine xc_S (As := [.int (σ.1 1004 0), .int 0, .int 4]) (rest := []) C hW (m_X12_in (σ.1 1004 0) 0 4 _ rfl) mf_X12_in mt_X12_in ml_X12_295 ⟨rfl, rfl⟩ ⟨Nat.le_of_ble_eq_true rfl, Nat.le_of_ble_eq_true rfl⟩ hl.1 rfl rfl (Nat.le_of_ble_eq_true rfl) dX12_readClause_14 (fun H locs hW => W.eq (g2 := F0 m 17 ls [.int (f_X12_in (σ.1 1004 0) 0 4 σ)]) rfl ?_)
    refine lv_if_ne (tgt := 26) hx hb dX12_readClause_17 (by decide) (fun c2 => ?_) (fun c2 => ?_)
    · have h := xif c2 h
      refine lv_aload_n hx hb dX12_readClause_26 rfl (lv_at hl 0 rfl) ?_
      refine xg_i C hW fg_12_261 KM_0 rfl (v := 1004) rfl (x := σ.1 1004 0) rfl dX12_readClause_27 ?_
      refine lv_istore_n (lv' := [(1, .int (σ.1 1004 0)), (0, .ref (g.q 0))]) hx hb dX12_readClause_30 rfl hl (Nat.le_of_ble_eq_true rfl) rfl (fun ls hl => ?_)
      refine lv_iload_n hx hb dX12_readClause_31 rfl (lv_at hl 0 rfl) ?_
      refine lv_if_ne (tgt := 64) hx hb dX12_readClause_32 (by decide) (fun c3 => ?_) (fun c3 => ?_)
      · have h := xif c3 h
        refine lv_aload_n hx hb dX12_readClause_64 rfl (lv_at hl 1 rfl) ?_
        refine xg_i C hW fg_12_317 KM_0 rfl (v := 1021) rfl (x := σ.1 1021 0) rfl dX12_readClause_65 ?_
        refine lv_iload_n hx hb dX12_readClause_68 rfl (lv_at hl 0 rfl) ?_
        refine lv_ishr hx hb dX12_readClause_69 ?_
        refine lv_iconst (v := 1) hx hb dX12_readClause_70 rfl ?_
        refine lv_iand hx hb dX12_readClause_71 ?_
        refine lv_iconst (v := 1) hx hb dX12_readClause_72 rfl ?_
        refine lv_icmp_ne (tgt := 82) hx hb dX12_readClause_73 (by decide) (fun c4 => ?_) (fun c4 => ?_)
        · have h := xif c4 h
          refine lv_aload_n hx hb dX12_readClause_82 rfl (lv_at hl 1 rfl) ?_
          refine lv_dup hx hb dX12_readClause_83 rfl ?_
          refine xg_i C hW fg_12_317 KM_0 rfl (v := 1021) rfl (x := σ.1 1021 0) rfl dX12_readClause_84 ?_
          refine lv_iconst (v := 1) hx hb dX12_readClause_87 rfl ?_
          refine lv_iload_n hx hb dX12_readClause_88 rfl (lv_at hl 0 rfl) ?_
          refine lv_ishl hx hb dX12_readClause_89 ?_
          refine lv_ior hx hb dX12_readClause_90 ?_
          refine xp_i C hW fp_12_317 KM_0 rfl (v := 1021) rfl rfl rfl dX12_readClause_91 (fun H locs hW => ?_)
          refine lv_aload_n hx hb dX12_readClause_94 rfl (lv_at hl 1 rfl) ?_
          obtain ⟨σ5, e5, h⟩ := xbo h
          refine xc_V (As := []) (rest := []) C hW (m_X12_scan N _ e5) mf_X12_scan mv_X12_scan ml_X12_239 ⟨rfl, rfl⟩ ⟨Nat.le_of_ble_eq_true rfl, Nat.le_of_ble_eq_true rfl⟩ KM_0 rfl hl.1 rfl rfl (Nat.le_of_ble_eq_true rfl) dX12_readClause_95 (fun H locs hW => W.eq (g2 := F0 m 98 ls []) rfl ?_)
          refine lv_aload_n hx hb dX12_readClause_98 rfl (lv_at hl 1 rfl) ?_
          refine lv_iload_n hx hb dX12_readClause_99 rfl (lv_at hl 0 rfl) ?_
          refine lv_iconst (v := 2) hx hb dX12_readClause_100 rfl ?_
          refine lv_icmp_ne (tgt := 109) hx hb dX12_readClause_101 (by decide) (fun c6 => ?_) (fun c6 => ?_)
          · have h := xif c6 h
            refine lv_iload_n hx hb dX12_readClause_109 rfl (lv_at hl 0 rfl) ?_
            refine lv_iconst (v := 3) hx hb dX12_readClause_110 rfl ?_
            refine lv_icmp_ne (tgt := 118) hx hb dX12_readClause_111 (by decide) (fun c7 => ?_) (fun c7 => ?_)
            · have h := xif c7 h
              refine lv_iconst (v := 0) hx hb dX12_readClause_118 rfl ?_
              exact w_X12_readClause_119 N C (σ.1 1004 0) 0 _ _ _ _ hW (lv_sub hl [1, 0] rfl) h
            · have h := xit c7 h
              refine lv_iconst (v := 1) hx hb dX12_readClause_114 rfl ?_
              refine lv_goto (tgt := 119) hx hb dX12_readClause_115 (by decide) ?_
              exact w_X12_readClause_119 N C (σ.1 1004 0) 1 _ _ _ _ hW (lv_sub hl [1, 0] rfl) h
          · have h := xit c6 h
            refine lv_bipush (v := 8) hx hb dX12_readClause_104 rfl ?_
            refine lv_goto (tgt := 119) hx hb dX12_readClause_106 (by decide) ?_
            exact w_X12_readClause_119 N C (σ.1 1004 0) 8 _ _ _ _ hW (lv_sub hl [1, 0] rfl) h
        · have h := xit c4 h
          refine lv_aload_n hx hb dX12_readClause_76 rfl (lv_at hl 1 rfl) ?_
          refine lv_iconst (v := 3) hx hb dX12_readClause_77 rfl ?_
          obtain ⟨r8_, σ8, e8, h⟩ := xbd h
          refine xc_V (As := [.int 3]) (rest := []) C hW (m_X12_fails 3 _ e8) mf_X12_fails mv_X12_fails ml_X12_292 ⟨rfl, rfl⟩ ⟨Nat.le_of_ble_eq_true rfl, Nat.le_of_ble_eq_true rfl⟩ KM_0 rfl hl.1 rfl rfl (Nat.le_of_ble_eq_true rfl) dX12_readClause_78 (fun H locs hW => W.eq (g2 := F0 m 81 ls [.int r8_]) rfl ?_)
          obtain ⟨g9, h⟩ := xgd h
          cases h
          exact xr_z C hW g9 dX12_readClause_81
      · have h := xit c3 h
        refine lv_aload_n hx hb dX12_readClause_35 rfl (lv_at hl 1 rfl) ?_
        refine xg_r C hW fg_12_21 KM_0 rfl dX12_readClause_36 ?_
        refine lv_iconst (v := 1) hx hb dX12_readClause_39 rfl ?_
        obtain ⟨g10, h⟩ := xgd h
        refine xa_i C hW KM_3 g10 (x := σ.1 3 1) rfl dX12_readClause_40 ?_
        refine lv_bipush (v := 40) hx hb dX12_readClause_41 rfl ?_
        refine lv_icmp_ne (tgt := 52) hx hb dX12_readClause_43 (by decide) (fun c11 => ?_) (fun c11 => ?_)
        · have h := xif c11 h
          refine lv_aload_n hx hb dX12_readClause_52 rfl (lv_at hl 1 rfl) ?_
          obtain ⟨σ12, e12, h⟩ := xbo h
          refine xc_V (As := []) (rest := []) C hW (m_X12_scan N _ e12) mf_X12_scan mv_X12_scan ml_X12_239 ⟨rfl, rfl⟩ ⟨Nat.le_of_ble_eq_true rfl, Nat.le_of_ble_eq_true rfl⟩ KM_0 rfl hl.1 rfl rfl (Nat.le_of_ble_eq_true rfl) dX12_readClause_53 (fun H locs hW => W.eq (g2 := F0 m 56 ls []) rfl ?_)
          refine lv_aload_n hx hb dX12_readClause_56 rfl (lv_at hl 1 rfl) ?_
          obtain ⟨r13_, σ13, e13, h⟩ := xbd h
          refine xc_V (As := []) (rest := []) C hW (m_X12_readSign N _ e13) mf_X12_readSign mv_X12_readSign ml_X12_314 ⟨rfl, rfl⟩ ⟨Nat.le_of_ble_eq_true rfl, Nat.le_of_ble_eq_true rfl⟩ KM_0 rfl hl.1 rfl rfl (Nat.le_of_ble_eq_true rfl) dX12_readClause_57 (fun H locs hW => W.eq (g2 := F0 m 60 ls [.int r13_]) rfl ?_)
          refine lv_istore_n (lv' := [(2, .int r13_), (1, .int (σ.1 1004 0)), (0, .ref (g.q 0))]) hx hb dX12_readClause_60 rfl hl (Nat.le_of_ble_eq_true rfl) rfl (fun ls hl => ?_)
          refine lv_goto (tgt := 172) hx hb dX12_readClause_61 (by decide) ?_
          exact w_X12_readClause_172 N C r13_ _ _ _ _ hW (lv_sub hl [2, 0] rfl) h
        · have h := xit c11 h
          refine lv_aload_n hx hb dX12_readClause_46 rfl (lv_at hl 1 rfl) ?_
          refine lv_iconst (v := 4) hx hb dX12_readClause_47 rfl ?_
          obtain ⟨r14_, σ14, e14, h⟩ := xbd h
          refine xc_V (As := [.int 4]) (rest := []) C hW (m_X12_fails 4 _ e14) mf_X12_fails mv_X12_fails ml_X12_292 ⟨rfl, rfl⟩ ⟨Nat.le_of_ble_eq_true rfl, Nat.le_of_ble_eq_true rfl⟩ KM_0 rfl hl.1 rfl rfl (Nat.le_of_ble_eq_true rfl) dX12_readClause_48 (fun H locs hW => W.eq (g2 := F0 m 51 ls [.int r14_]) rfl ?_)
          obtain ⟨g15, h⟩ := xgd h
          cases h
          exact xr_z C hW g15 dX12_readClause_51
    · have h := xit c2 h
      exact w_X12_readClause_20 N C _ _ _ _ hW (lv_sub hl [0] rfl) h
end
theorem dX12_list_0 : decode cX12_list 0 = .ok (.aload_n 0, 1) := by decide +kernel
theorem dX12_list_1 : decode cX12_list 1 = .ok (.invokevirtual 320, 3) := by decide +kernel
theorem dX12_list_4 : decode cX12_list 4 = .ok (.aload_n 0, 1) := by decide +kernel
theorem dX12_list_5 : decode cX12_list 5 = .ok (.iconst 0, 1) := by decide +kernel
theorem dX12_list_6 : decode cX12_list 6 = .ok (.putfield 289, 3) := by decide +kernel
theorem dX12_list_9 : decode cX12_list 9 = .ok (.aload_n 0, 1) := by decide +kernel
theorem dX12_list_10 : decode cX12_list 10 = .ok (.iconst (-1), 1) := by decide +kernel
theorem dX12_list_11 : decode cX12_list 11 = .ok (.putfield 13, 3) := by decide +kernel
theorem dX12_list_14 : decode cX12_list 14 = .ok (.aload_n 0, 1) := by decide +kernel
theorem dX12_list_15 : decode cX12_list 15 = .ok (.invokevirtual 224, 3) := by decide +kernel
theorem dX12_list_18 : decode cX12_list 18 = .ok (.aload_n 0, 1) := by decide +kernel
theorem dX12_list_19 : decode cX12_list 19 = .ok (.iconst 0, 1) := by decide +kernel
theorem dX12_list_20 : decode cX12_list 20 = .ok (.putfield 317, 3) := by decide +kernel
theorem dX12_list_23 : decode cX12_list 23 = .ok (.iconst 0, 1) := by decide +kernel
theorem dX12_list_24 : decode cX12_list 24 = .ok (.istore_n 1, 1) := by decide +kernel
theorem dX12_list_25 : decode cX12_list 25 = .ok (.aload_n 0, 1) := by decide +kernel
theorem dX12_list_26 : decode cX12_list 26 = .ok (.getfield 264, 3) := by decide +kernel
theorem dX12_list_29 : decode cX12_list 29 = .ok (.bipush 10, 2) := by decide +kernel
theorem dX12_list_31 : decode cX12_list 31 = .ok (.if_icmp .eq 18, 3) := by decide +kernel
theorem dX12_list_34 : decode cX12_list 34 = .ok (.aload_n 0, 1) := by decide +kernel
theorem dX12_list_35 : decode cX12_list 35 = .ok (.invokevirtual 323, 3) := by decide +kernel
theorem dX12_list_38 : decode cX12_list 38 = .ok (.ifCond .ne 5, 3) := by decide +kernel
theorem dX12_list_41 : decode cX12_list 41 = .ok (.iconst (-1), 1) := by decide +kernel
theorem dX12_list_42 : decode cX12_list 42 = .ok (.ireturn, 1) := by decide +kernel
theorem dX12_list_43 : decode cX12_list 43 = .ok (.iinc 1 1, 3) := by decide +kernel
theorem dX12_list_46 : decode cX12_list 46 = .ok (.goto (-21), 3) := by decide +kernel
theorem dX12_list_49 : decode cX12_list 49 = .ok (.aload_n 0, 1) := by decide +kernel
theorem dX12_list_50 : decode cX12_list 50 = .ok (.invokevirtual 227, 3) := by decide +kernel
theorem dX12_list_53 : decode cX12_list 53 = .ok (.aload_n 0, 1) := by decide +kernel
theorem dX12_list_54 : decode cX12_list 54 = .ok (.iconst 0, 1) := by decide +kernel
theorem dX12_list_55 : decode cX12_list 55 = .ok (.putfield 326, 3) := by decide +kernel
theorem dX12_list_58 : decode cX12_list 58 = .ok (.aload_n 0, 1) := by decide +kernel
theorem dX12_list_59 : decode cX12_list 59 = .ok (.iconst 0, 1) := by decide +kernel
theorem dX12_list_60 : decode cX12_list 60 = .ok (.putfield 329, 3) := by decide +kernel
theorem dX12_list_63 : decode cX12_list 63 = .ok (.aload_n 0, 1) := by decide +kernel
theorem dX12_list_64 : decode cX12_list 64 = .ok (.iconst 0, 1) := by decide +kernel
theorem dX12_list_65 : decode cX12_list 65 = .ok (.putfield 332, 3) := by decide +kernel
theorem dX12_list_68 : decode cX12_list 68 = .ok (.aload_n 0, 1) := by decide +kernel
theorem dX12_list_69 : decode cX12_list 69 = .ok (.iconst 0, 1) := by decide +kernel
theorem dX12_list_70 : decode cX12_list 70 = .ok (.putfield 335, 3) := by decide +kernel
theorem dX12_list_73 : decode cX12_list 73 = .ok (.aload_n 0, 1) := by decide +kernel
theorem dX12_list_74 : decode cX12_list 74 = .ok (.iconst 0, 1) := by decide +kernel
theorem dX12_list_75 : decode cX12_list 75 = .ok (.putfield 338, 3) := by decide +kernel
theorem dX12_list_78 : decode cX12_list 78 = .ok (.aload_n 0, 1) := by decide +kernel
theorem dX12_list_79 : decode cX12_list 79 = .ok (.iconst 0, 1) := by decide +kernel
theorem dX12_list_80 : decode cX12_list 80 = .ok (.putfield 341, 3) := by decide +kernel
theorem dX12_list_83 : decode cX12_list 83 = .ok (.aload_n 0, 1) := by decide +kernel
theorem dX12_list_84 : decode cX12_list 84 = .ok (.iconst 0, 1) := by decide +kernel
theorem dX12_list_85 : decode cX12_list 85 = .ok (.putfield 344, 3) := by decide +kernel
theorem dX12_list_88 : decode cX12_list 88 = .ok (.aload_n 0, 1) := by decide +kernel
theorem dX12_list_89 : decode cX12_list 89 = .ok (.iconst 0, 1) := by decide +kernel
theorem dX12_list_90 : decode cX12_list 90 = .ok (.putfield 347, 3) := by decide +kernel
theorem dX12_list_93 : decode cX12_list 93 = .ok (.iload_n 1, 1) := by decide +kernel
theorem dX12_list_94 : decode cX12_list 94 = .ok (.ireturn, 1) := by decide +kernel
abbrev rm_X12_list : Room := { frames := 9, cells := 0, slots := 0, locals := 237 }
def f_X12_list_25 (N : Nat) : Nat → Int32 → St → Option (Int32 × St)
  | 0, _, _ => none
  | n + 1, x1, σ => (if (σ.1 1003 0) = 10 then bo (f_X12_takeDraft N σ) (fun σ4 => some (x1, (si (si (si (si (si (si (si (si σ4 1035 0 0) 1036 0 0) 1069 0 0) 1096 0 0) 1097 0 0) 1074 0 0) 1082 0 0) 1086 0 0))) else bd (f_X12_readClause N σ) (fun r5_ σ5 => (if r5_ = 0 then some ((-1), σ5) else f_X12_list_25 N n (x1 + 1) σ5)))
def f_X12_list (N : Nat) (σ : St) : Option (Int32 × St) := bo (f_X12_take N σ) (fun σ1 => bo (f_X12_beginDraft (si (si σ1 1008 0 0) 1009 0 ((-1)))) (fun σ2 => f_X12_list_25 N N 0 (si σ2 1021 0 0)))
section
variable {p : Program} {l : Launch} {e : Env} {s : State} {m : MethodId} {args : Array Value} {below : List Frame} {meth : Method} {c : Code} {g : XG}
set_option maxRecDepth 4000 in
theorem w_X12_list_25 (N : Nat) {r : Int32} {σ' : St} (C : xC KM g RX12 cX12_list 2 (some .int) p s m args meth c) : ∀ (n : Nat), ∀ (x1 : Int32) (σ : St) (H : Heap) (locs : List Loc) (ls : Array Slot), xW KM g s σ H locs → lv_has ls 2 [(0, .ref (g.q 0)), (1, .int x1)] → f_X12_list_25 N n x1 σ = some (r, σ') → W p l e rm_X12_list s m args below meth c H locs 0 0 (MQ below (xPost KM g (some (.int r)) σ') args s 0 0 (xA KM g.q)) (F0 m 25 ls []) := by
  have hx := C.1
  have hb := C.2.1
  intro n
  induction n with
  | zero => intro x1 σ H locs ls hW hl h; rw [f_X12_list_25] at h; cases h
  | succ n ih =>
    intro x1 σ H locs ls hW hl h
    rw [f_X12_list_25] at h
    refine lv_aload_n hx hb dX12_list_25 rfl (lv_at hl 0 rfl) ?_
    refine xg_i C hW fg_12_264 KM_0 rfl (v := 1003) rfl (x := σ.1 1003 0) rfl dX12_list_26 ?_
    refine lv_bipush (v := 10) hx hb dX12_list_29 rfl ?_
    refine lv_icmp_eq (tgt := 49) hx hb dX12_list_31 (by decide) (fun c3 => ?_) (fun c3 => ?_)
    · have h := xit c3 h
      refine lv_aload_n hx hb dX12_list_49 rfl (lv_at hl 0 rfl) ?_
      obtain ⟨σ4, e4, h⟩ := xbo h
      refine xc_V (As := []) (rest := []) C hW (m_X12_takeDraft N _ e4) mf_X12_takeDraft mv_X12_takeDraft ml_X12_227 ⟨rfl, rfl⟩ ⟨Nat.le_of_ble_eq_true rfl, Nat.le_of_ble_eq_true rfl⟩ KM_0 rfl hl.1 rfl rfl (Nat.le_of_ble_eq_true rfl) dX12_list_50 (fun H locs hW => W.eq (g2 := F0 m 53 ls []) rfl ?_)
      refine lv_aload_n hx hb dX12_list_53 rfl (lv_at hl 0 rfl) ?_
      refine lv_iconst (v := 0) hx hb dX12_list_54 rfl ?_
      refine xp_i C hW fp_12_326 KM_0 rfl (v := 1035) rfl rfl rfl dX12_list_55 (fun H locs hW => ?_)
      refine lv_aload_n hx hb dX12_list_58 rfl (lv_at hl 0 rfl) ?_
      refine lv_iconst (v := 0) hx hb dX12_list_59 rfl ?_
      refine xp_i C hW fp_12_329 KM_0 rfl (v := 1036) rfl rfl rfl dX12_list_60 (fun H locs hW => ?_)
      refine lv_aload_n hx hb dX12_list_63 rfl (lv_at hl 0 rfl) ?_
      refine lv_iconst (v := 0) hx hb dX12_list_64 rfl ?_
      refine xp_i C hW fp_12_332 KM_0 rfl (v := 1069) rfl rfl rfl dX12_list_65 (fun H locs hW => ?_)
      refine lv_aload_n hx hb dX12_list_68 rfl (lv_at hl 0 rfl) ?_
      refine lv_iconst (v := 0) hx hb dX12_list_69 rfl ?_
      refine xp_i C hW fp_12_335 KM_0 rfl (v := 1096) rfl rfl rfl dX12_list_70 (fun H locs hW => ?_)
      refine lv_aload_n hx hb dX12_list_73 rfl (lv_at hl 0 rfl) ?_
      refine lv_iconst (v := 0) hx hb dX12_list_74 rfl ?_
      refine xp_i C hW fp_12_338 KM_0 rfl (v := 1097) rfl rfl rfl dX12_list_75 (fun H locs hW => ?_)
      refine lv_aload_n hx hb dX12_list_78 rfl (lv_at hl 0 rfl) ?_
      refine lv_iconst (v := 0) hx hb dX12_list_79 rfl ?_
      refine xp_i C hW fp_12_341 KM_0 rfl (v := 1074) rfl rfl rfl dX12_list_80 (fun H locs hW => ?_)
      refine lv_aload_n hx hb dX12_list_83 rfl (lv_at hl 0 rfl) ?_
      refine lv_iconst (v := 0) hx hb dX12_list_84 rfl ?_
      refine xp_i C hW fp_12_344 KM_0 rfl (v := 1082) rfl rfl rfl dX12_list_85 (fun H locs hW => ?_)
      refine lv_aload_n hx hb dX12_list_88 rfl (lv_at hl 0 rfl) ?_
      refine lv_iconst (v := 0) hx hb dX12_list_89 rfl ?_
      refine xp_i C hW fp_12_347 KM_0 rfl (v := 1086) rfl rfl rfl dX12_list_90 (fun H locs hW => ?_)
      refine lv_iload_n hx hb dX12_list_93 rfl (lv_at hl 1 rfl) ?_
      cases h
      exact xr_i C hW dX12_list_94
    · have h := xif c3 h
      refine lv_aload_n hx hb dX12_list_34 rfl (lv_at hl 0 rfl) ?_
      obtain ⟨r5_, σ5, e5, h⟩ := xbd h
      refine xc_V (As := []) (rest := []) C hW (m_X12_readClause N _ e5) mf_X12_readClause mv_X12_readClause ml_X12_323 ⟨rfl, rfl⟩ ⟨Nat.le_of_ble_eq_true rfl, Nat.le_of_ble_eq_true rfl⟩ KM_0 rfl hl.1 rfl rfl (Nat.le_of_ble_eq_true rfl) dX12_list_35 (fun H locs hW => W.eq (g2 := F0 m 38 ls [.int r5_]) rfl ?_)
      refine lv_if_ne (tgt := 43) hx hb dX12_list_38 (by decide) (fun c6 => ?_) (fun c6 => ?_)
      · have h := xif c6 h
        refine lv_iinc (v := x1 + 1) (lv' := [(1, .int (x1 + 1)), (0, .ref (g.q 0))]) hx hb dX12_list_43 hl (k := 1) rfl rfl (Nat.le_of_ble_eq_true rfl) rfl (fun ls hl => ?_)
        refine lv_goto (tgt := 25) hx hb dX12_list_46 (by decide) ?_
        exact ih (x1 + 1) _ _ _ _ hW (lv_sub hl [1, 0] rfl) h
      · have h := xit c6 h
        refine lv_iconst (v := (-1)) hx hb dX12_list_41 rfl ?_
        cases h
        exact xr_i C hW dX12_list_42
set_option maxRecDepth 4000 in
theorem m_X12_list (N : Nat) (σ : St) {r : Int32} {σ' : St} (h : f_X12_list N σ = some (r, σ')) : xM l KM g yX12_list cX12_list 2 (some .int) rm_X12_list [.ref (g.q 0)] σ (some (.int r)) σ' := by
  refine xmet pn_X12 rfl (Nat.le_of_ble_eq_true rfl) (lv := [(0, .ref (g.q 0))]) rfl (fun p e s m args below meth c ls C hW hl => ?_)
  have hx := C.1
  have hb := C.2.1
  unfold f_X12_list at h
  refine lv_aload_n hx hb dX12_list_0 rfl (lv_at hl 0 rfl) ?_
  obtain ⟨σ1, e1, h⟩ := xbo h
  refine xc_V (As := []) (rest := []) C hW (m_X12_take N _ e1) mf_X12_take mv_X12_take ml_X12_320 ⟨rfl, rfl⟩ ⟨Nat.le_of_ble_eq_true rfl, Nat.le_of_ble_eq_true rfl⟩ KM_0 rfl hl.1 rfl rfl (Nat.le_of_ble_eq_true rfl) dX12_list_1 (fun H locs hW => W.eq (g2 := F0 m 4 ls []) rfl ?_)
  refine lv_aload_n hx hb dX12_list_4 rfl (lv_at hl 0 rfl) ?_
  refine lv_iconst (v := 0) hx hb dX12_list_5 rfl ?_
  refine xp_i C hW fp_12_289 KM_0 rfl (v := 1008) rfl rfl rfl dX12_list_6 (fun H locs hW => ?_)
  refine lv_aload_n hx hb dX12_list_9 rfl (lv_at hl 0 rfl) ?_
  refine lv_iconst (v := (-1)) hx hb dX12_list_10 rfl ?_
  refine xp_i C hW fp_12_13 KM_0 rfl (v := 1009) rfl rfl rfl dX12_list_11 (fun H locs hW => ?_)
  refine lv_aload_n hx hb dX12_list_14 rfl (lv_at hl 0 rfl) ?_
  obtain ⟨σ2, e2, h⟩ := xbo h
  refine xc_V (As := []) (rest := []) C hW (m_X12_beginDraft _ e2) mf_X12_beginDraft mv_X12_beginDraft ml_X12_224 ⟨rfl, rfl⟩ ⟨Nat.le_of_ble_eq_true rfl, Nat.le_of_ble_eq_true rfl⟩ KM_0 rfl hl.1 rfl rfl (Nat.le_of_ble_eq_true rfl) dX12_list_15 (fun H locs hW => W.eq (g2 := F0 m 18 ls []) rfl ?_)
  refine lv_aload_n hx hb dX12_list_18 rfl (lv_at hl 0 rfl) ?_
  refine lv_iconst (v := 0) hx hb dX12_list_19 rfl ?_
  refine xp_i C hW fp_12_317 KM_0 rfl (v := 1021) rfl rfl rfl dX12_list_20 (fun H locs hW => ?_)
  refine lv_iconst (v := 0) hx hb dX12_list_23 rfl ?_
  refine lv_istore_n (lv' := [(1, .int 0), (0, .ref (g.q 0))]) hx hb dX12_list_24 rfl hl (Nat.le_of_ble_eq_true rfl) rfl (fun ls hl => ?_)
  exact w_X12_list_25 N C N 0 _ _ _ _ hW (lv_sub hl [1, 0] rfl) h
end
theorem dX12_rule_0 : decode cX12_rule 0 = .ok (.iload_n 1, 1) := by decide +kernel
theorem dX12_rule_1 : decode cX12_rule 1 = .ok (.ifCond .ne 12, 3) := by decide +kernel
theorem dX12_rule_4 : decode cX12_rule 4 = .ok (.aload_n 0, 1) := by decide +kernel
theorem dX12_rule_5 : decode cX12_rule 5 = .ok (.getfield 21, 3) := by decide +kernel
theorem dX12_rule_8 : decode cX12_rule 8 = .ok (.iconst 0, 1) := by decide +kernel
theorem dX12_rule_9 : decode cX12_rule 9 = .ok (.iaload, 1) := by decide +kernel
theorem dX12_rule_10 : decode cX12_rule 10 = .ok (.goto 25, 3) := by decide +kernel
theorem dX12_rule_13 : decode cX12_rule 13 = .ok (.iload_n 1, 1) := by decide +kernel
theorem dX12_rule_14 : decode cX12_rule 14 = .ok (.iconst 1, 1) := by decide +kernel
theorem dX12_rule_15 : decode cX12_rule 15 = .ok (.iconst 4, 1) := by decide +kernel
theorem dX12_rule_16 : decode cX12_rule 16 = .ok (.invokestatic 295, 3) := by decide +kernel
theorem dX12_rule_19 : decode cX12_rule 19 = .ok (.ifCond .eq 14, 3) := by decide +kernel
theorem dX12_rule_22 : decode cX12_rule 22 = .ok (.aload_n 0, 1) := by decide +kernel
theorem dX12_rule_23 : decode cX12_rule 23 = .ok (.getfield 17, 3) := by decide +kernel
theorem dX12_rule_26 : decode cX12_rule 26 = .ok (.iload_n 1, 1) := by decide +kernel
theorem dX12_rule_27 : decode cX12_rule 27 = .ok (.iconst 1, 1) := by decide +kernel
theorem dX12_rule_28 : decode cX12_rule 28 = .ok (.isub, 1) := by decide +kernel
theorem dX12_rule_29 : decode cX12_rule 29 = .ok (.iaload, 1) := by decide +kernel
theorem dX12_rule_30 : decode cX12_rule 30 = .ok (.goto 5, 3) := by decide +kernel
theorem dX12_rule_33 : decode cX12_rule 33 = .ok (.bipush (-9), 2) := by decide +kernel
theorem dX12_rule_35 : decode cX12_rule 35 = .ok (.ireturn, 1) := by decide +kernel
abbrev rm_X12_rule : Room := { frames := 1, cells := 0, slots := 0, locals := 22 }
def f_X12_rule (x1 : Int32) (σ : St) : Option Int32 := (if x1 = 0 then grd (ib 0 2) (some (σ.1 3 0)) else (if (f_X12_in x1 1 4 σ) = 0 then some ((-9)) else grd (ib (x1 - 1) 8) (some (σ.1 2 (x1 - 1).toNatClampNeg))))
section
variable {p : Program} {l : Launch} {e : Env} {s : State} {m : MethodId} {args : Array Value} {below : List Frame} {meth : Method} {c : Code} {g : XG}
set_option maxRecDepth 4000 in
theorem m_X12_rule (x1 : Int32) (σ : St) {r : Int32} (h : f_X12_rule x1 σ = some r) : xM l KM g yX12_rule cX12_rule 2 (some .int) rm_X12_rule [.ref (g.q 0), .int x1] σ (some (.int r)) σ := by
  refine xmet pn_X12 rfl (Nat.le_of_ble_eq_true rfl) (lv := [(0, .ref (g.q 0)), (1, .int x1)]) rfl (fun p e s m args below meth c ls C hW hl => ?_)
  have hx := C.1
  have hb := C.2.1
  unfold f_X12_rule at h
  refine lv_iload_n hx hb dX12_rule_0 rfl (lv_at hl 1 rfl) ?_
  refine lv_if_ne (tgt := 13) hx hb dX12_rule_1 (by decide) (fun c1 => ?_) (fun c1 => ?_)
  · have h := xif c1 h
    refine lv_iload_n hx hb dX12_rule_13 rfl (lv_at hl 1 rfl) ?_
    refine lv_iconst (v := 1) hx hb dX12_rule_14 rfl ?_
    refine lv_iconst (v := 4) hx hb dX12_rule_15 rfl ?_
    refine xc_S (As := [.int x1, .int 1, .int 4]) (rest := []) C hW (m_X12_in x1 1 4 _ rfl) mf_X12_in mt_X12_in ml_X12_295 ⟨rfl, rfl⟩ ⟨Nat.le_of_ble_eq_true rfl, Nat.le_of_ble_eq_true rfl⟩ hl.1 rfl rfl (Nat.le_of_ble_eq_true rfl) dX12_rule_16 (fun H locs hW => W.eq (g2 := F0 m 19 ls [.int (f_X12_in x1 1 4 σ)]) rfl ?_)
    refine lv_if_eq (tgt := 33) hx hb dX12_rule_19 (by decide) (fun c2 => ?_) (fun c2 => ?_)
    · have h := xit c2 h
      refine lv_bipush (v := (-9)) hx hb dX12_rule_33 rfl ?_
      cases h
      exact xr_i C hW dX12_rule_35
    · have h := xif c2 h
      refine lv_aload_n hx hb dX12_rule_22 rfl (lv_at hl 0 rfl) ?_
      refine xg_r C hW fg_12_17 KM_0 rfl dX12_rule_23 ?_
      refine lv_iload_n hx hb dX12_rule_26 rfl (lv_at hl 1 rfl) ?_
      refine lv_iconst (v := 1) hx hb dX12_rule_27 rfl ?_
      refine lv_isub hx hb dX12_rule_28 ?_
      obtain ⟨g3, h⟩ := xgd h
      refine xa_i C hW KM_2 g3 (x := σ.1 2 (x1 - 1).toNatClampNeg) rfl dX12_rule_29 ?_
      refine lv_goto (tgt := 35) hx hb dX12_rule_30 (by decide) ?_
      cases h
      exact xr_i C hW dX12_rule_35
  · have h := xit c1 h
    refine lv_aload_n hx hb dX12_rule_4 rfl (lv_at hl 0 rfl) ?_
    refine xg_r C hW fg_12_21 KM_0 rfl dX12_rule_5 ?_
    refine lv_iconst (v := 0) hx hb dX12_rule_8 rfl ?_
    obtain ⟨g4, h⟩ := xgd h
    refine xa_i C hW KM_3 g4 (x := σ.1 3 0) rfl dX12_rule_9 ?_
    refine lv_goto (tgt := 35) hx hb dX12_rule_10 (by decide) ?_
    cases h
    exact xr_i C hW dX12_rule_35
end
theorem dX12_sign_0 : decode cX12_sign 0 = .ok (.iload_n 1, 1) := by decide +kernel
theorem dX12_sign_1 : decode cX12_sign 1 = .ok (.iconst 0, 1) := by decide +kernel
theorem dX12_sign_2 : decode cX12_sign 2 = .ok (.aload_n 0, 1) := by decide +kernel
theorem dX12_sign_3 : decode cX12_sign 3 = .ok (.getfield 21, 3) := by decide +kernel
theorem dX12_sign_6 : decode cX12_sign 6 = .ok (.iconst 0, 1) := by decide +kernel
theorem dX12_sign_7 : decode cX12_sign 7 = .ok (.iaload, 1) := by decide +kernel
theorem dX12_sign_8 : decode cX12_sign 8 = .ok (.iconst 1, 1) := by decide +kernel
theorem dX12_sign_9 : decode cX12_sign 9 = .ok (.isub, 1) := by decide +kernel
theorem dX12_sign_10 : decode cX12_sign 10 = .ok (.invokestatic 295, 3) := by decide +kernel
theorem dX12_sign_13 : decode cX12_sign 13 = .ok (.ifCond .ne 6, 3) := by decide +kernel
theorem dX12_sign_16 : decode cX12_sign 16 = .ok (.bipush (-9), 2) := by decide +kernel
theorem dX12_sign_18 : decode cX12_sign 18 = .ok (.ireturn, 1) := by decide +kernel
theorem dX12_sign_19 : decode cX12_sign 19 = .ok (.iload_n 2, 1) := by decide +kernel
theorem dX12_sign_20 : decode cX12_sign 20 = .ok (.tableswitch 60 0 3 #[32, 39, 46, 53], 32) := by decide +kernel
theorem dX12_sign_52 : decode cX12_sign 52 = .ok (.aload_n 0, 1) := by decide +kernel
theorem dX12_sign_53 : decode cX12_sign 53 = .ok (.getfield 28, 3) := by decide +kernel
theorem dX12_sign_56 : decode cX12_sign 56 = .ok (.iload_n 1, 1) := by decide +kernel
theorem dX12_sign_57 : decode cX12_sign 57 = .ok (.iaload, 1) := by decide +kernel
theorem dX12_sign_58 : decode cX12_sign 58 = .ok (.ireturn, 1) := by decide +kernel
theorem dX12_sign_59 : decode cX12_sign 59 = .ok (.aload_n 0, 1) := by decide +kernel
theorem dX12_sign_60 : decode cX12_sign 60 = .ok (.getfield 31, 3) := by decide +kernel
theorem dX12_sign_63 : decode cX12_sign 63 = .ok (.iload_n 1, 1) := by decide +kernel
theorem dX12_sign_64 : decode cX12_sign 64 = .ok (.iaload, 1) := by decide +kernel
theorem dX12_sign_65 : decode cX12_sign 65 = .ok (.ireturn, 1) := by decide +kernel
theorem dX12_sign_66 : decode cX12_sign 66 = .ok (.aload_n 0, 1) := by decide +kernel
theorem dX12_sign_67 : decode cX12_sign 67 = .ok (.getfield 34, 3) := by decide +kernel
theorem dX12_sign_70 : decode cX12_sign 70 = .ok (.iload_n 1, 1) := by decide +kernel
theorem dX12_sign_71 : decode cX12_sign 71 = .ok (.iaload, 1) := by decide +kernel
theorem dX12_sign_72 : decode cX12_sign 72 = .ok (.ireturn, 1) := by decide +kernel
theorem dX12_sign_73 : decode cX12_sign 73 = .ok (.aload_n 0, 1) := by decide +kernel
theorem dX12_sign_74 : decode cX12_sign 74 = .ok (.getfield 37, 3) := by decide +kernel
theorem dX12_sign_77 : decode cX12_sign 77 = .ok (.iload_n 1, 1) := by decide +kernel
theorem dX12_sign_78 : decode cX12_sign 78 = .ok (.iaload, 1) := by decide +kernel
theorem dX12_sign_79 : decode cX12_sign 79 = .ok (.ireturn, 1) := by decide +kernel
theorem dX12_sign_80 : decode cX12_sign 80 = .ok (.iload_n 2, 1) := by decide +kernel
theorem dX12_sign_81 : decode cX12_sign 81 = .ok (.bipush 10, 2) := by decide +kernel
theorem dX12_sign_83 : decode cX12_sign 83 = .ok (.bipush 9, 2) := by decide +kernel
theorem dX12_sign_85 : decode cX12_sign 85 = .ok (.aload_n 0, 1) := by decide +kernel
theorem dX12_sign_86 : decode cX12_sign 86 = .ok (.getfield 37, 3) := by decide +kernel
theorem dX12_sign_89 : decode cX12_sign 89 = .ok (.iload_n 1, 1) := by decide +kernel
theorem dX12_sign_90 : decode cX12_sign 90 = .ok (.iaload, 1) := by decide +kernel
theorem dX12_sign_91 : decode cX12_sign 91 = .ok (.iadd, 1) := by decide +kernel
theorem dX12_sign_92 : decode cX12_sign 92 = .ok (.invokestatic 295, 3) := by decide +kernel
theorem dX12_sign_95 : decode cX12_sign 95 = .ok (.ifCond .eq 19, 3) := by decide +kernel
theorem dX12_sign_98 : decode cX12_sign 98 = .ok (.aload_n 0, 1) := by decide +kernel
theorem dX12_sign_99 : decode cX12_sign 99 = .ok (.getfield 40, 3) := by decide +kernel
theorem dX12_sign_102 : decode cX12_sign 102 = .ok (.iconst 3, 1) := by decide +kernel
theorem dX12_sign_103 : decode cX12_sign 103 = .ok (.iload_n 1, 1) := by decide +kernel
theorem dX12_sign_104 : decode cX12_sign 104 = .ok (.imul, 1) := by decide +kernel
theorem dX12_sign_105 : decode cX12_sign 105 = .ok (.iload_n 2, 1) := by decide +kernel
theorem dX12_sign_106 : decode cX12_sign 106 = .ok (.iadd, 1) := by decide +kernel
theorem dX12_sign_107 : decode cX12_sign 107 = .ok (.bipush 10, 2) := by decide +kernel
theorem dX12_sign_109 : decode cX12_sign 109 = .ok (.isub, 1) := by decide +kernel
theorem dX12_sign_110 : decode cX12_sign 110 = .ok (.iaload, 1) := by decide +kernel
theorem dX12_sign_111 : decode cX12_sign 111 = .ok (.goto 5, 3) := by decide +kernel
theorem dX12_sign_114 : decode cX12_sign 114 = .ok (.bipush (-9), 2) := by decide +kernel
theorem dX12_sign_116 : decode cX12_sign 116 = .ok (.ireturn, 1) := by decide +kernel
abbrev rm_X12_sign : Room := { frames := 1, cells := 0, slots := 0, locals := 22 }
def f_X12_sign (x1 : Int32) (x2 : Int32) (σ : St) : Option Int32 := grd (ib 0 2) ((if (f_X12_in x1 0 ((σ.1 3 0) - 1) σ) = 0 then some ((-9)) else (if x2 = 0 then grd (ib x1 80) (some (σ.1 5 x1.toNatClampNeg)) else (if x2 = 1 then grd (ib x1 80) (some (σ.1 6 x1.toNatClampNeg)) else (if x2 = 2 then grd (ib x1 80) (some (σ.1 7 x1.toNatClampNeg)) else (if x2 = 3 then grd (ib x1 80) (some (σ.1 8 x1.toNatClampNeg)) else grd (ib x1 80) ((if (f_X12_in x2 10 (9 + (σ.1 8 x1.toNatClampNeg)) σ) = 0 then some ((-9)) else grd (ib (((3 * x1) + x2) - 10) 240) (some (σ.1 9 (((3 * x1) + x2) - 10).toNatClampNeg))))))))))
section
variable {p : Program} {l : Launch} {e : Env} {s : State} {m : MethodId} {args : Array Value} {below : List Frame} {meth : Method} {c : Code} {g : XG}
set_option maxRecDepth 4000 in
theorem m_X12_sign (x1 : Int32) (x2 : Int32) (σ : St) {r : Int32} (h : f_X12_sign x1 x2 σ = some r) : xM l KM g yX12_sign cX12_sign 3 (some .int) rm_X12_sign [.ref (g.q 0), .int x1, .int x2] σ (some (.int r)) σ := by
  refine xmet pn_X12 rfl (Nat.le_of_ble_eq_true rfl) (lv := [(0, .ref (g.q 0)), (1, .int x1), (2, .int x2)]) rfl (fun p e s m args below meth c ls C hW hl => ?_)
  have hx := C.1
  have hb := C.2.1
  unfold f_X12_sign at h
  refine lv_iload_n hx hb dX12_sign_0 rfl (lv_at hl 1 rfl) ?_
  refine lv_iconst (v := 0) hx hb dX12_sign_1 rfl ?_
  refine lv_aload_n hx hb dX12_sign_2 rfl (lv_at hl 0 rfl) ?_
  refine xg_r C hW fg_12_21 KM_0 rfl dX12_sign_3 ?_
  refine lv_iconst (v := 0) hx hb dX12_sign_6 rfl ?_
  obtain ⟨g1, h⟩ := xgd h
  refine xa_i C hW KM_3 g1 (x := σ.1 3 0) rfl dX12_sign_7 ?_
  refine lv_iconst (v := 1) hx hb dX12_sign_8 rfl ?_
  refine lv_isub hx hb dX12_sign_9 ?_
  refine xc_S (As := [.int x1, .int 0, .int ((σ.1 3 0) - 1)]) (rest := []) C hW (m_X12_in x1 0 ((σ.1 3 0) - 1) _ rfl) mf_X12_in mt_X12_in ml_X12_295 ⟨rfl, rfl⟩ ⟨Nat.le_of_ble_eq_true rfl, Nat.le_of_ble_eq_true rfl⟩ hl.1 rfl rfl (Nat.le_of_ble_eq_true rfl) dX12_sign_10 (fun H locs hW => W.eq (g2 := F0 m 13 ls [.int (f_X12_in x1 0 ((σ.1 3 0) - 1) σ)]) rfl ?_)
  refine lv_if_ne (tgt := 19) hx hb dX12_sign_13 (by decide) (fun c2 => ?_) (fun c2 => ?_)
  · have h := xif c2 h
    refine lv_iload_n hx hb dX12_sign_19 rfl (lv_at hl 2 rfl) ?_
    by_cases c3 : x2 = 0
    · have h := xit c3 h
      refine lv_tableIn (off := 32) (tgt := 52) hx hb dX12_sign_20 (by rw [c3]; decide) (by rw [c3]; decide) (by rw [c3]; rfl) (by decide) ?_
      refine lv_aload_n hx hb dX12_sign_52 rfl (lv_at hl 0 rfl) ?_
      refine xg_r C hW fg_12_28 KM_0 rfl dX12_sign_53 ?_
      refine lv_iload_n hx hb dX12_sign_56 rfl (lv_at hl 1 rfl) ?_
      obtain ⟨g4, h⟩ := xgd h
      refine xa_i C hW KM_5 g4 (x := σ.1 5 x1.toNatClampNeg) rfl dX12_sign_57 ?_
      cases h
      exact xr_i C hW dX12_sign_58
    · have h := xif c3 h
      by_cases c5 : x2 = 1
      · have h := xit c5 h
        refine lv_tableIn (off := 39) (tgt := 59) hx hb dX12_sign_20 (by rw [c5]; decide) (by rw [c5]; decide) (by rw [c5]; rfl) (by decide) ?_
        refine lv_aload_n hx hb dX12_sign_59 rfl (lv_at hl 0 rfl) ?_
        refine xg_r C hW fg_12_31 KM_0 rfl dX12_sign_60 ?_
        refine lv_iload_n hx hb dX12_sign_63 rfl (lv_at hl 1 rfl) ?_
        obtain ⟨g6, h⟩ := xgd h
        refine xa_i C hW KM_6 g6 (x := σ.1 6 x1.toNatClampNeg) rfl dX12_sign_64 ?_
        cases h
        exact xr_i C hW dX12_sign_65
      · have h := xif c5 h
        by_cases c7 : x2 = 2
        · have h := xit c7 h
          refine lv_tableIn (off := 46) (tgt := 66) hx hb dX12_sign_20 (by rw [c7]; decide) (by rw [c7]; decide) (by rw [c7]; rfl) (by decide) ?_
          refine lv_aload_n hx hb dX12_sign_66 rfl (lv_at hl 0 rfl) ?_
          refine xg_r C hW fg_12_34 KM_0 rfl dX12_sign_67 ?_
          refine lv_iload_n hx hb dX12_sign_70 rfl (lv_at hl 1 rfl) ?_
          obtain ⟨g8, h⟩ := xgd h
          refine xa_i C hW KM_7 g8 (x := σ.1 7 x1.toNatClampNeg) rfl dX12_sign_71 ?_
          cases h
          exact xr_i C hW dX12_sign_72
        · have h := xif c7 h
          by_cases c9 : x2 = 3
          · have h := xit c9 h
            refine lv_tableIn (off := 53) (tgt := 73) hx hb dX12_sign_20 (by rw [c9]; decide) (by rw [c9]; decide) (by rw [c9]; rfl) (by decide) ?_
            refine lv_aload_n hx hb dX12_sign_73 rfl (lv_at hl 0 rfl) ?_
            refine xg_r C hW fg_12_37 KM_0 rfl dX12_sign_74 ?_
            refine lv_iload_n hx hb dX12_sign_77 rfl (lv_at hl 1 rfl) ?_
            obtain ⟨g10, h⟩ := xgd h
            refine xa_i C hW KM_8 g10 (x := σ.1 8 x1.toNatClampNeg) rfl dX12_sign_78 ?_
            cases h
            exact xr_i C hW dX12_sign_79
          · have h := xif c9 h
            refine lv_tableOut (tgt := 80) hx hb dX12_sign_20 (xsw_out (fun k h1 h2 => ?_)) (by decide) ?_
            · rcases (show k = 0 ∨ k = 1 ∨ k = 2 ∨ k = 3 by omega) with rfl | rfl | rfl | rfl
              · exact c3
              · exact c5
              · exact c7
              · exact c9
            · refine lv_iload_n hx hb dX12_sign_80 rfl (lv_at hl 2 rfl) ?_
              refine lv_bipush (v := 10) hx hb dX12_sign_81 rfl ?_
              refine lv_bipush (v := 9) hx hb dX12_sign_83 rfl ?_
              refine lv_aload_n hx hb dX12_sign_85 rfl (lv_at hl 0 rfl) ?_
              refine xg_r C hW fg_12_37 KM_0 rfl dX12_sign_86 ?_
              refine lv_iload_n hx hb dX12_sign_89 rfl (lv_at hl 1 rfl) ?_
              obtain ⟨g11, h⟩ := xgd h
              refine xa_i C hW KM_8 g11 (x := σ.1 8 x1.toNatClampNeg) rfl dX12_sign_90 ?_
              refine lv_iadd hx hb dX12_sign_91 ?_
              refine xc_S (As := [.int x2, .int 10, .int (9 + (σ.1 8 x1.toNatClampNeg))]) (rest := []) C hW (m_X12_in x2 10 (9 + (σ.1 8 x1.toNatClampNeg)) _ rfl) mf_X12_in mt_X12_in ml_X12_295 ⟨rfl, rfl⟩ ⟨Nat.le_of_ble_eq_true rfl, Nat.le_of_ble_eq_true rfl⟩ hl.1 rfl rfl (Nat.le_of_ble_eq_true rfl) dX12_sign_92 (fun H locs hW => W.eq (g2 := F0 m 95 ls [.int (f_X12_in x2 10 (9 + (σ.1 8 x1.toNatClampNeg)) σ)]) rfl ?_)
              refine lv_if_eq (tgt := 114) hx hb dX12_sign_95 (by decide) (fun c12 => ?_) (fun c12 => ?_)
              · have h := xit c12 h
                refine lv_bipush (v := (-9)) hx hb dX12_sign_114 rfl ?_
                cases h
                exact xr_i C hW dX12_sign_116
              · have h := xif c12 h
                refine lv_aload_n hx hb dX12_sign_98 rfl (lv_at hl 0 rfl) ?_
                refine xg_r C hW fg_12_40 KM_0 rfl dX12_sign_99 ?_
                refine lv_iconst (v := 3) hx hb dX12_sign_102 rfl ?_
                refine lv_iload_n hx hb dX12_sign_103 rfl (lv_at hl 1 rfl) ?_
                refine lv_imul hx hb dX12_sign_104 ?_
                refine lv_iload_n hx hb dX12_sign_105 rfl (lv_at hl 2 rfl) ?_
                refine lv_iadd hx hb dX12_sign_106 ?_
                refine lv_bipush (v := 10) hx hb dX12_sign_107 rfl ?_
                refine lv_isub hx hb dX12_sign_109 ?_
                obtain ⟨g13, h⟩ := xgd h
                refine xa_i C hW KM_9 g13 (x := σ.1 9 (((3 * x1) + x2) - 10).toNatClampNeg) rfl dX12_sign_110 ?_
                refine lv_goto (tgt := 116) hx hb dX12_sign_111 (by decide) ?_
                cases h
                exact xr_i C hW dX12_sign_116
  · have h := xit c2 h
    refine lv_bipush (v := (-9)) hx hb dX12_sign_16 rfl ?_
    cases h
    exact xr_i C hW dX12_sign_18
end
theorem dX12_named_0 : decode cX12_named 0 = .ok (.aload_n 0, 1) := by decide +kernel
theorem dX12_named_1 : decode cX12_named 1 = .ok (.invokevirtual 320, 3) := by decide +kernel
theorem dX12_named_4 : decode cX12_named 4 = .ok (.aload_n 0, 1) := by decide +kernel
theorem dX12_named_5 : decode cX12_named 5 = .ok (.getfield 264, 3) := by decide +kernel
theorem dX12_named_8 : decode cX12_named 8 = .ok (.iconst 1, 1) := by decide +kernel
theorem dX12_named_9 : decode cX12_named 9 = .ok (.if_icmp .eq 5, 3) := by decide +kernel
theorem dX12_named_12 : decode cX12_named 12 = .ok (.iconst (-1), 1) := by decide +kernel
theorem dX12_named_13 : decode cX12_named 13 = .ok (.ireturn, 1) := by decide +kernel
theorem dX12_named_14 : decode cX12_named 14 = .ok (.aload_n 0, 1) := by decide +kernel
theorem dX12_named_15 : decode cX12_named 15 = .ok (.getfield 271, 3) := by decide +kernel
theorem dX12_named_18 : decode cX12_named 18 = .ok (.lstore_n 1, 1) := by decide +kernel
theorem dX12_named_19 : decode cX12_named 19 = .ok (.aload_n 0, 1) := by decide +kernel
theorem dX12_named_20 : decode cX12_named 20 = .ok (.invokevirtual 239, 3) := by decide +kernel
theorem dX12_named_23 : decode cX12_named 23 = .ok (.aload_n 0, 1) := by decide +kernel
theorem dX12_named_24 : decode cX12_named 24 = .ok (.getfield 264, 3) := by decide +kernel
theorem dX12_named_27 : decode cX12_named 27 = .ok (.bipush 10, 2) := by decide +kernel
theorem dX12_named_29 : decode cX12_named 29 = .ok (.if_icmp .ne 18, 3) := by decide +kernel
theorem dX12_named_32 : decode cX12_named 32 = .ok (.aload_n 0, 1) := by decide +kernel
theorem dX12_named_33 : decode cX12_named 33 = .ok (.lload_n 1, 1) := by decide +kernel
theorem dX12_named_34 : decode cX12_named 34 = .ok (.iconst 0, 1) := by decide +kernel
theorem dX12_named_35 : decode cX12_named 35 = .ok (.aload_n 0, 1) := by decide +kernel
theorem dX12_named_36 : decode cX12_named 36 = .ok (.getfield 21, 3) := by decide +kernel
theorem dX12_named_39 : decode cX12_named 39 = .ok (.iconst 0, 1) := by decide +kernel
theorem dX12_named_40 : decode cX12_named 40 = .ok (.iaload, 1) := by decide +kernel
theorem dX12_named_41 : decode cX12_named 41 = .ok (.invokevirtual 302, 3) := by decide +kernel
theorem dX12_named_44 : decode cX12_named 44 = .ok (.goto 4, 3) := by decide +kernel
theorem dX12_named_47 : decode cX12_named 47 = .ok (.iconst (-1), 1) := by decide +kernel
theorem dX12_named_48 : decode cX12_named 48 = .ok (.ireturn, 1) := by decide +kernel
abbrev rm_X12_named : Room := { frames := 7, cells := 0, slots := 0, locals := 190 }
def f_X12_named (N : Nat) (σ : St) : Option (Int32 × St) := bo (f_X12_take N σ) (fun σ1 => (if (σ1.1 1003 0) = 1 then bo (f_X12_scan N σ1) (fun σ3 => (if (σ3.1 1003 0) = 10 then grd (ib 0 2) (bo (f_X12_signOf N (σ1.2 1010 0) 0 (σ3.1 3 0) σ3) (fun r6_ => some (r6_, σ3))) else some ((-1), σ3))) else some ((-1), σ1)))
section
variable {p : Program} {l : Launch} {e : Env} {s : State} {m : MethodId} {args : Array Value} {below : List Frame} {meth : Method} {c : Code} {g : XG}
set_option maxRecDepth 4000 in
theorem m_X12_named (N : Nat) (σ : St) {r : Int32} {σ' : St} (h : f_X12_named N σ = some (r, σ')) : xM l KM g yX12_named cX12_named 3 (some .int) rm_X12_named [.ref (g.q 0)] σ (some (.int r)) σ' := by
  refine xmet pn_X12 rfl (Nat.le_of_ble_eq_true rfl) (lv := [(0, .ref (g.q 0))]) rfl (fun p e s m args below meth c ls C hW hl => ?_)
  have hx := C.1
  have hb := C.2.1
  unfold f_X12_named at h
  refine lv_aload_n hx hb dX12_named_0 rfl (lv_at hl 0 rfl) ?_
  obtain ⟨σ1, e1, h⟩ := xbo h
  refine xc_V (As := []) (rest := []) C hW (m_X12_take N _ e1) mf_X12_take mv_X12_take ml_X12_320 ⟨rfl, rfl⟩ ⟨Nat.le_of_ble_eq_true rfl, Nat.le_of_ble_eq_true rfl⟩ KM_0 rfl hl.1 rfl rfl (Nat.le_of_ble_eq_true rfl) dX12_named_1 (fun H locs hW => W.eq (g2 := F0 m 4 ls []) rfl ?_)
  refine lv_aload_n hx hb dX12_named_4 rfl (lv_at hl 0 rfl) ?_
  refine xg_i C hW fg_12_264 KM_0 rfl (v := 1003) rfl (x := σ1.1 1003 0) rfl dX12_named_5 ?_
  refine lv_iconst (v := 1) hx hb dX12_named_8 rfl ?_
  refine lv_icmp_eq (tgt := 14) hx hb dX12_named_9 (by decide) (fun c2 => ?_) (fun c2 => ?_)
  · have h := xit c2 h
    refine lv_aload_n hx hb dX12_named_14 rfl (lv_at hl 0 rfl) ?_
    refine xg_l C hW fg_12_271 KM_0 rfl (v := 1010) rfl (x := σ1.2 1010 0) rfl dX12_named_15 ?_
    refine lv_lstore_n (lv' := [(1, .long (σ1.2 1010 0)), (0, .ref (g.q 0))]) hx hb dX12_named_18 rfl hl (Nat.le_of_ble_eq_true rfl) rfl (fun ls hl => ?_)
    refine lv_aload_n hx hb dX12_named_19 rfl (lv_at hl 1 rfl) ?_
    obtain ⟨σ3, e3, h⟩ := xbo h
    refine xc_V (As := []) (rest := []) C hW (m_X12_scan N _ e3) mf_X12_scan mv_X12_scan ml_X12_239 ⟨rfl, rfl⟩ ⟨Nat.le_of_ble_eq_true rfl, Nat.le_of_ble_eq_true rfl⟩ KM_0 rfl hl.1 rfl rfl (Nat.le_of_ble_eq_true rfl) dX12_named_20 (fun H locs hW => W.eq (g2 := F0 m 23 ls []) rfl ?_)
    refine lv_aload_n hx hb dX12_named_23 rfl (lv_at hl 1 rfl) ?_
    refine xg_i C hW fg_12_264 KM_0 rfl (v := 1003) rfl (x := σ3.1 1003 0) rfl dX12_named_24 ?_
    refine lv_bipush (v := 10) hx hb dX12_named_27 rfl ?_
    refine lv_icmp_ne (tgt := 47) hx hb dX12_named_29 (by decide) (fun c4 => ?_) (fun c4 => ?_)
    · have h := xif c4 h
      refine lv_iconst (v := (-1)) hx hb dX12_named_47 rfl ?_
      cases h
      exact xr_i C hW dX12_named_48
    · have h := xit c4 h
      refine lv_aload_n hx hb dX12_named_32 rfl (lv_at hl 1 rfl) ?_
      refine lv_lload_n hx hb dX12_named_33 rfl (lv_at hl 0 rfl) ?_
      refine lv_iconst (v := 0) hx hb dX12_named_34 rfl ?_
      refine lv_aload_n hx hb dX12_named_35 rfl (lv_at hl 1 rfl) ?_
      refine xg_r C hW fg_12_21 KM_0 rfl dX12_named_36 ?_
      refine lv_iconst (v := 0) hx hb dX12_named_39 rfl ?_
      obtain ⟨g5, h⟩ := xgd h
      refine xa_i C hW KM_3 g5 (x := σ3.1 3 0) rfl dX12_named_40 ?_
      obtain ⟨r6_, e6, h⟩ := xbo h
      refine xc_V (As := [.long (σ1.2 1010 0), .int 0, .int (σ3.1 3 0)]) (rest := []) C hW (m_X12_signOf N (σ1.2 1010 0) 0 (σ3.1 3 0) _ e6) mf_X12_signOf mv_X12_signOf ml_X12_302 ⟨rfl, rfl⟩ ⟨Nat.le_of_ble_eq_true rfl, Nat.le_of_ble_eq_true rfl⟩ KM_0 rfl hl.1 rfl rfl (Nat.le_of_ble_eq_true rfl) dX12_named_41 (fun H locs hW => W.eq (g2 := F0 m 44 ls [.int r6_]) rfl ?_)
      refine lv_goto (tgt := 48) hx hb dX12_named_44 (by decide) ?_
      cases h
      exact xr_i C hW dX12_named_48
  · have h := xif c2 h
    refine lv_iconst (v := (-1)) hx hb dX12_named_12 rfl ?_
    cases h
    exact xr_i C hW dX12_named_13
end
theorem dX12_makePart_0 : decode cX12_makePart 0 = .ok (.aload_n 0, 1) := by decide +kernel
theorem dX12_makePart_1 : decode cX12_makePart 1 = .ok (.getfield 46, 3) := by decide +kernel
theorem dX12_makePart_4 : decode cX12_makePart 4 = .ok (.aload_n 0, 1) := by decide +kernel
theorem dX12_makePart_5 : decode cX12_makePart 5 = .ok (.getfield 350, 3) := by decide +kernel
theorem dX12_makePart_8 : decode cX12_makePart 8 = .ok (.iload_n 1, 1) := by decide +kernel
theorem dX12_makePart_9 : decode cX12_makePart 9 = .ok (.iastore, 1) := by decide +kernel
theorem dX12_makePart_10 : decode cX12_makePart 10 = .ok (.aload_n 0, 1) := by decide +kernel
theorem dX12_makePart_11 : decode cX12_makePart 11 = .ok (.getfield 55, 3) := by decide +kernel
theorem dX12_makePart_14 : decode cX12_makePart 14 = .ok (.aload_n 0, 1) := by decide +kernel
theorem dX12_makePart_15 : decode cX12_makePart 15 = .ok (.getfield 350, 3) := by decide +kernel
theorem dX12_makePart_18 : decode cX12_makePart 18 = .ok (.iconst (-1), 1) := by decide +kernel
theorem dX12_makePart_19 : decode cX12_makePart 19 = .ok (.iastore, 1) := by decide +kernel
theorem dX12_makePart_20 : decode cX12_makePart 20 = .ok (.aload_n 0, 1) := by decide +kernel
theorem dX12_makePart_21 : decode cX12_makePart 21 = .ok (.getfield 58, 3) := by decide +kernel
theorem dX12_makePart_24 : decode cX12_makePart 24 = .ok (.aload_n 0, 1) := by decide +kernel
theorem dX12_makePart_25 : decode cX12_makePart 25 = .ok (.getfield 350, 3) := by decide +kernel
theorem dX12_makePart_28 : decode cX12_makePart 28 = .ok (.iconst (-1), 1) := by decide +kernel
theorem dX12_makePart_29 : decode cX12_makePart 29 = .ok (.iastore, 1) := by decide +kernel
theorem dX12_makePart_30 : decode cX12_makePart 30 = .ok (.aload_n 0, 1) := by decide +kernel
theorem dX12_makePart_31 : decode cX12_makePart 31 = .ok (.getfield 52, 3) := by decide +kernel
theorem dX12_makePart_34 : decode cX12_makePart 34 = .ok (.aload_n 0, 1) := by decide +kernel
theorem dX12_makePart_35 : decode cX12_makePart 35 = .ok (.getfield 350, 3) := by decide +kernel
theorem dX12_makePart_38 : decode cX12_makePart 38 = .ok (.iconst (-1), 1) := by decide +kernel
theorem dX12_makePart_39 : decode cX12_makePart 39 = .ok (.iastore, 1) := by decide +kernel
theorem dX12_makePart_40 : decode cX12_makePart 40 = .ok (.aload_n 0, 1) := by decide +kernel
theorem dX12_makePart_41 : decode cX12_makePart 41 = .ok (.dup, 1) := by decide +kernel
theorem dX12_makePart_42 : decode cX12_makePart 42 = .ok (.getfield 350, 3) := by decide +kernel
theorem dX12_makePart_45 : decode cX12_makePart 45 = .ok (.iconst 1, 1) := by decide +kernel
theorem dX12_makePart_46 : decode cX12_makePart 46 = .ok (.iadd, 1) := by decide +kernel
theorem dX12_makePart_47 : decode cX12_makePart 47 = .ok (.putfield 350, 3) := by decide +kernel
theorem dX12_makePart_50 : decode cX12_makePart 50 = .ok (.aload_n 0, 1) := by decide +kernel
theorem dX12_makePart_51 : decode cX12_makePart 51 = .ok (.getfield 350, 3) := by decide +kernel
theorem dX12_makePart_54 : decode cX12_makePart 54 = .ok (.iconst 1, 1) := by decide +kernel
theorem dX12_makePart_55 : decode cX12_makePart 55 = .ok (.isub, 1) := by decide +kernel
theorem dX12_makePart_56 : decode cX12_makePart 56 = .ok (.ireturn, 1) := by decide +kernel
abbrev rm_X12_makePart : Room := { frames := 0, cells := 0, slots := 0, locals := 0 }
def f_X12_makePart (x1 : Int32) (σ : St) : Option (Int32 × St) := grd (ib (σ.1 1031 0) 400) (grd (ib (σ.1 1031 0) 400) (grd (ib (σ.1 1031 0) 400) (grd (ib (σ.1 1031 0) 400) (some (((σ.1 1031 0) + 1) - 1, (si (si (si (si (si σ 11 (σ.1 1031 0).toNatClampNeg x1) 14 (σ.1 1031 0).toNatClampNeg ((-1))) 15 (σ.1 1031 0).toNatClampNeg ((-1))) 13 (σ.1 1031 0).toNatClampNeg ((-1))) 1031 0 ((σ.1 1031 0) + 1)))))))
section
variable {p : Program} {l : Launch} {e : Env} {s : State} {m : MethodId} {args : Array Value} {below : List Frame} {meth : Method} {c : Code} {g : XG}
set_option maxRecDepth 4000 in
theorem m_X12_makePart (x1 : Int32) (σ : St) {r : Int32} {σ' : St} (h : f_X12_makePart x1 σ = some (r, σ')) : xM l KM g yX12_makePart cX12_makePart 2 (some .int) rm_X12_makePart [.ref (g.q 0), .int x1] σ (some (.int r)) σ' := by
  refine xmet pn_X12 rfl (Nat.le_of_ble_eq_true rfl) (lv := [(0, .ref (g.q 0)), (1, .int x1)]) rfl (fun p e s m args below meth c ls C hW hl => ?_)
  have hx := C.1
  have hb := C.2.1
  unfold f_X12_makePart at h
  refine lv_aload_n hx hb dX12_makePart_0 rfl (lv_at hl 0 rfl) ?_
  refine xg_r C hW fg_12_46 KM_0 rfl dX12_makePart_1 ?_
  refine lv_aload_n hx hb dX12_makePart_4 rfl (lv_at hl 0 rfl) ?_
  refine xg_i C hW fg_12_350 KM_0 rfl (v := 1031) rfl (x := σ.1 1031 0) rfl dX12_makePart_5 ?_
  refine lv_iload_n hx hb dX12_makePart_8 rfl (lv_at hl 1 rfl) ?_
  obtain ⟨g1, h⟩ := xgd h
  refine xs_i C hW KM_11 g1 dX12_makePart_9 (fun H locs hW => ?_)
  refine lv_aload_n hx hb dX12_makePart_10 rfl (lv_at hl 0 rfl) ?_
  refine xg_r C hW fg_12_55 KM_0 rfl dX12_makePart_11 ?_
  refine lv_aload_n hx hb dX12_makePart_14 rfl (lv_at hl 0 rfl) ?_
  refine xg_i C hW fg_12_350 KM_0 rfl (v := 1031) rfl (x := σ.1 1031 0) rfl dX12_makePart_15 ?_
  refine lv_iconst (v := (-1)) hx hb dX12_makePart_18 rfl ?_
  obtain ⟨g2, h⟩ := xgd h
  refine xs_i C hW KM_14 g2 dX12_makePart_19 (fun H locs hW => ?_)
  refine lv_aload_n hx hb dX12_makePart_20 rfl (lv_at hl 0 rfl) ?_
  refine xg_r C hW fg_12_58 KM_0 rfl dX12_makePart_21 ?_
  refine lv_aload_n hx hb dX12_makePart_24 rfl (lv_at hl 0 rfl) ?_
  refine xg_i C hW fg_12_350 KM_0 rfl (v := 1031) rfl (x := σ.1 1031 0) rfl dX12_makePart_25 ?_
  refine lv_iconst (v := (-1)) hx hb dX12_makePart_28 rfl ?_
  obtain ⟨g3, h⟩ := xgd h
  refine xs_i C hW KM_15 g3 dX12_makePart_29 (fun H locs hW => ?_)
  refine lv_aload_n hx hb dX12_makePart_30 rfl (lv_at hl 0 rfl) ?_
  refine xg_r C hW fg_12_52 KM_0 rfl dX12_makePart_31 ?_
  refine lv_aload_n hx hb dX12_makePart_34 rfl (lv_at hl 0 rfl) ?_
  refine xg_i C hW fg_12_350 KM_0 rfl (v := 1031) rfl (x := σ.1 1031 0) rfl dX12_makePart_35 ?_
  refine lv_iconst (v := (-1)) hx hb dX12_makePart_38 rfl ?_
  obtain ⟨g4, h⟩ := xgd h
  refine xs_i C hW KM_13 g4 dX12_makePart_39 (fun H locs hW => ?_)
  refine lv_aload_n hx hb dX12_makePart_40 rfl (lv_at hl 0 rfl) ?_
  refine lv_dup hx hb dX12_makePart_41 rfl ?_
  refine xg_i C hW fg_12_350 KM_0 rfl (v := 1031) rfl (x := σ.1 1031 0) rfl dX12_makePart_42 ?_
  refine lv_iconst (v := 1) hx hb dX12_makePart_45 rfl ?_
  refine lv_iadd hx hb dX12_makePart_46 ?_
  refine xp_i C hW fp_12_350 KM_0 rfl (v := 1031) rfl rfl rfl dX12_makePart_47 (fun H locs hW => ?_)
  refine lv_aload_n hx hb dX12_makePart_50 rfl (lv_at hl 0 rfl) ?_
  refine xg_i C hW fg_12_350 KM_0 rfl (v := 1031) rfl (x := (σ.1 1031 0) + 1) rfl dX12_makePart_51 ?_
  refine lv_iconst (v := 1) hx hb dX12_makePart_54 rfl ?_
  refine lv_isub hx hb dX12_makePart_55 ?_
  cases h
  exact xr_i C hW dX12_makePart_56
end
theorem dX12_readName_0 : decode cX12_readName 0 = .ok (.aload_n 0, 1) := by decide +kernel
theorem dX12_readName_1 : decode cX12_readName 1 = .ok (.getfield 264, 3) := by decide +kernel
theorem dX12_readName_4 : decode cX12_readName 4 = .ok (.iconst 1, 1) := by decide +kernel
theorem dX12_readName_5 : decode cX12_readName 5 = .ok (.if_icmp .eq 17, 3) := by decide +kernel
theorem dX12_readName_8 : decode cX12_readName 8 = .ok (.aload_n 0, 1) := by decide +kernel
theorem dX12_readName_9 : decode cX12_readName 9 = .ok (.iconst 1, 1) := by decide +kernel
theorem dX12_readName_10 : decode cX12_readName 10 = .ok (.invokevirtual 292, 3) := by decide +kernel
theorem dX12_readName_13 : decode cX12_readName 13 = .ok (.ifCond .eq 7, 3) := by decide +kernel
theorem dX12_readName_16 : decode cX12_readName 16 = .ok (.iconst 0, 1) := by decide +kernel
theorem dX12_readName_17 : decode cX12_readName 17 = .ok (.goto 4, 3) := by decide +kernel
theorem dX12_readName_20 : decode cX12_readName 20 = .ok (.iconst (-1), 1) := by decide +kernel
theorem dX12_readName_21 : decode cX12_readName 21 = .ok (.ireturn, 1) := by decide +kernel
theorem dX12_readName_22 : decode cX12_readName 22 = .ok (.aload_n 0, 1) := by decide +kernel
theorem dX12_readName_23 : decode cX12_readName 23 = .ok (.getfield 353, 3) := by decide +kernel
theorem dX12_readName_26 : decode cX12_readName 26 = .ok (.bipush 24, 2) := by decide +kernel
theorem dX12_readName_28 : decode cX12_readName 28 = .ok (.if_icmp .ne 17, 3) := by decide +kernel
theorem dX12_readName_31 : decode cX12_readName 31 = .ok (.aload_n 0, 1) := by decide +kernel
theorem dX12_readName_32 : decode cX12_readName 32 = .ok (.iconst 4, 1) := by decide +kernel
theorem dX12_readName_33 : decode cX12_readName 33 = .ok (.invokevirtual 292, 3) := by decide +kernel
theorem dX12_readName_36 : decode cX12_readName 36 = .ok (.ifCond .eq 7, 3) := by decide +kernel
theorem dX12_readName_39 : decode cX12_readName 39 = .ok (.iconst 0, 1) := by decide +kernel
theorem dX12_readName_40 : decode cX12_readName 40 = .ok (.goto 4, 3) := by decide +kernel
theorem dX12_readName_43 : decode cX12_readName 43 = .ok (.iconst (-1), 1) := by decide +kernel
theorem dX12_readName_44 : decode cX12_readName 44 = .ok (.ireturn, 1) := by decide +kernel
theorem dX12_readName_45 : decode cX12_readName 45 = .ok (.aload_n 0, 1) := by decide +kernel
theorem dX12_readName_46 : decode cX12_readName 46 = .ok (.aload_n 0, 1) := by decide +kernel
theorem dX12_readName_47 : decode cX12_readName 47 = .ok (.getfield 271, 3) := by decide +kernel
theorem dX12_readName_50 : decode cX12_readName 50 = .ok (.iconst 0, 1) := by decide +kernel
theorem dX12_readName_51 : decode cX12_readName 51 = .ok (.aload_n 0, 1) := by decide +kernel
theorem dX12_readName_52 : decode cX12_readName 52 = .ok (.getfield 21, 3) := by decide +kernel
theorem dX12_readName_55 : decode cX12_readName 55 = .ok (.iconst 0, 1) := by decide +kernel
theorem dX12_readName_56 : decode cX12_readName 56 = .ok (.iaload, 1) := by decide +kernel
theorem dX12_readName_57 : decode cX12_readName 57 = .ok (.invokevirtual 302, 3) := by decide +kernel
theorem dX12_readName_60 : decode cX12_readName 60 = .ok (.istore_n 1, 1) := by decide +kernel
theorem dX12_readName_61 : decode cX12_readName 61 = .ok (.iload_n 1, 1) := by decide +kernel
theorem dX12_readName_62 : decode cX12_readName 62 = .ok (.iconst (-1), 1) := by decide +kernel
theorem dX12_readName_63 : decode cX12_readName 63 = .ok (.if_icmp .ne 17, 3) := by decide +kernel
theorem dX12_readName_66 : decode cX12_readName 66 = .ok (.aload_n 0, 1) := by decide +kernel
theorem dX12_readName_67 : decode cX12_readName 67 = .ok (.iconst 5, 1) := by decide +kernel
theorem dX12_readName_68 : decode cX12_readName 68 = .ok (.invokevirtual 292, 3) := by decide +kernel
theorem dX12_readName_71 : decode cX12_readName 71 = .ok (.ifCond .eq 7, 3) := by decide +kernel
theorem dX12_readName_74 : decode cX12_readName 74 = .ok (.iconst 0, 1) := by decide +kernel
theorem dX12_readName_75 : decode cX12_readName 75 = .ok (.goto 4, 3) := by decide +kernel
theorem dX12_readName_78 : decode cX12_readName 78 = .ok (.iconst (-1), 1) := by decide +kernel
theorem dX12_readName_79 : decode cX12_readName 79 = .ok (.ireturn, 1) := by decide +kernel
theorem dX12_readName_80 : decode cX12_readName 80 = .ok (.aload_n 0, 1) := by decide +kernel
theorem dX12_readName_81 : decode cX12_readName 81 = .ok (.dup, 1) := by decide +kernel
theorem dX12_readName_82 : decode cX12_readName 82 = .ok (.getfield 353, 3) := by decide +kernel
theorem dX12_readName_85 : decode cX12_readName 85 = .ok (.iconst 1, 1) := by decide +kernel
theorem dX12_readName_86 : decode cX12_readName 86 = .ok (.iadd, 1) := by decide +kernel
theorem dX12_readName_87 : decode cX12_readName 87 = .ok (.putfield 353, 3) := by decide +kernel
theorem dX12_readName_90 : decode cX12_readName 90 = .ok (.aload_n 0, 1) := by decide +kernel
theorem dX12_readName_91 : decode cX12_readName 91 = .ok (.invokevirtual 239, 3) := by decide +kernel
theorem dX12_readName_94 : decode cX12_readName 94 = .ok (.iload_n 1, 1) := by decide +kernel
theorem dX12_readName_95 : decode cX12_readName 95 = .ok (.ireturn, 1) := by decide +kernel
abbrev rm_X12_readName : Room := { frames := 6, cells := 0, slots := 0, locals := 170 }
def f_X12_readName (N : Nat) (σ : St) : Option (Int32 × St) := (if (σ.1 1003 0) = 1 then (if (σ.1 1033 0) = 24 then bd (f_X12_fails 4 σ) (fun r9_ σ9 => (if r9_ = 0 then some ((-1), σ9) else some (0, σ9))) else grd (ib 0 2) (bo (f_X12_signOf N (σ.2 1010 0) 0 (σ.1 3 0) σ) (fun r4_ => (if r4_ = ((-1)) then bd (f_X12_fails 5 σ) (fun r7_ σ7 => (if r7_ = 0 then some ((-1), σ7) else some (0, σ7))) else bo (f_X12_scan N (si σ 1033 0 ((σ.1 1033 0) + 1))) (fun σ6 => some (r4_, σ6)))))) else bd (f_X12_fails 1 σ) (fun r11_ σ11 => (if r11_ = 0 then some ((-1), σ11) else some (0, σ11))))
section
variable {p : Program} {l : Launch} {e : Env} {s : State} {m : MethodId} {args : Array Value} {below : List Frame} {meth : Method} {c : Code} {g : XG}
set_option maxRecDepth 4000 in
theorem m_X12_readName (N : Nat) (σ : St) {r : Int32} {σ' : St} (h : f_X12_readName N σ = some (r, σ')) : xM l KM g yX12_readName cX12_readName 2 (some .int) rm_X12_readName [.ref (g.q 0)] σ (some (.int r)) σ' := by
  refine xmet pn_X12 rfl (Nat.le_of_ble_eq_true rfl) (lv := [(0, .ref (g.q 0))]) rfl (fun p e s m args below meth c ls C hW hl => ?_)
  have hx := C.1
  have hb := C.2.1
  unfold f_X12_readName at h
  refine lv_aload_n hx hb dX12_readName_0 rfl (lv_at hl 0 rfl) ?_
  refine xg_i C hW fg_12_264 KM_0 rfl (v := 1003) rfl (x := σ.1 1003 0) rfl dX12_readName_1 ?_
  refine lv_iconst (v := 1) hx hb dX12_readName_4 rfl ?_
  refine lv_icmp_eq (tgt := 22) hx hb dX12_readName_5 (by decide) (fun c1 => ?_) (fun c1 => ?_)
  · have h := xit c1 h
    refine lv_aload_n hx hb dX12_readName_22 rfl (lv_at hl 0 rfl) ?_
    refine xg_i C hW fg_12_353 KM_0 rfl (v := 1033) rfl (x := σ.1 1033 0) rfl dX12_readName_23 ?_
    refine lv_bipush (v := 24) hx hb dX12_readName_26 rfl ?_
    refine lv_icmp_ne (tgt := 45) hx hb dX12_readName_28 (by decide) (fun c2 => ?_) (fun c2 => ?_)
    · have h := xif c2 h
      refine lv_aload_n hx hb dX12_readName_45 rfl (lv_at hl 0 rfl) ?_
      refine lv_aload_n hx hb dX12_readName_46 rfl (lv_at hl 0 rfl) ?_
      refine xg_l C hW fg_12_271 KM_0 rfl (v := 1010) rfl (x := σ.2 1010 0) rfl dX12_readName_47 ?_
      refine lv_iconst (v := 0) hx hb dX12_readName_50 rfl ?_
      refine lv_aload_n hx hb dX12_readName_51 rfl (lv_at hl 0 rfl) ?_
      refine xg_r C hW fg_12_21 KM_0 rfl dX12_readName_52 ?_
      refine lv_iconst (v := 0) hx hb dX12_readName_55 rfl ?_
      obtain ⟨g3, h⟩ := xgd h
      refine xa_i C hW KM_3 g3 (x := σ.1 3 0) rfl dX12_readName_56 ?_
      obtain ⟨r4_, e4, h⟩ := xbo h
      refine xc_V (As := [.long (σ.2 1010 0), .int 0, .int (σ.1 3 0)]) (rest := []) C hW (m_X12_signOf N (σ.2 1010 0) 0 (σ.1 3 0) _ e4) mf_X12_signOf mv_X12_signOf ml_X12_302 ⟨rfl, rfl⟩ ⟨Nat.le_of_ble_eq_true rfl, Nat.le_of_ble_eq_true rfl⟩ KM_0 rfl hl.1 rfl rfl (Nat.le_of_ble_eq_true rfl) dX12_readName_57 (fun H locs hW => W.eq (g2 := F0 m 60 ls [.int r4_]) rfl ?_)
      refine lv_istore_n (lv' := [(1, .int r4_), (0, .ref (g.q 0))]) hx hb dX12_readName_60 rfl hl (Nat.le_of_ble_eq_true rfl) rfl (fun ls hl => ?_)
      refine lv_iload_n hx hb dX12_readName_61 rfl (lv_at hl 0 rfl) ?_
      refine lv_iconst (v := (-1)) hx hb dX12_readName_62 rfl ?_
      refine lv_icmp_ne (tgt := 80) hx hb dX12_readName_63 (by decide) (fun c5 => ?_) (fun c5 => ?_)
      · have h := xif c5 h
        refine lv_aload_n hx hb dX12_readName_80 rfl (lv_at hl 1 rfl) ?_
        refine lv_dup hx hb dX12_readName_81 rfl ?_
        refine xg_i C hW fg_12_353 KM_0 rfl (v := 1033) rfl (x := σ.1 1033 0) rfl dX12_readName_82 ?_
        refine lv_iconst (v := 1) hx hb dX12_readName_85 rfl ?_
        refine lv_iadd hx hb dX12_readName_86 ?_
        refine xp_i C hW fp_12_353 KM_0 rfl (v := 1033) rfl rfl rfl dX12_readName_87 (fun H locs hW => ?_)
        refine lv_aload_n hx hb dX12_readName_90 rfl (lv_at hl 1 rfl) ?_
        obtain ⟨σ6, e6, h⟩ := xbo h
        refine xc_V (As := []) (rest := []) C hW (m_X12_scan N _ e6) mf_X12_scan mv_X12_scan ml_X12_239 ⟨rfl, rfl⟩ ⟨Nat.le_of_ble_eq_true rfl, Nat.le_of_ble_eq_true rfl⟩ KM_0 rfl hl.1 rfl rfl (Nat.le_of_ble_eq_true rfl) dX12_readName_91 (fun H locs hW => W.eq (g2 := F0 m 94 ls []) rfl ?_)
        refine lv_iload_n hx hb dX12_readName_94 rfl (lv_at hl 0 rfl) ?_
        cases h
        exact xr_i C hW dX12_readName_95
      · have h := xit c5 h
        refine lv_aload_n hx hb dX12_readName_66 rfl (lv_at hl 1 rfl) ?_
        refine lv_iconst (v := 5) hx hb dX12_readName_67 rfl ?_
        obtain ⟨r7_, σ7, e7, h⟩ := xbd h
        refine xc_V (As := [.int 5]) (rest := []) C hW (m_X12_fails 5 _ e7) mf_X12_fails mv_X12_fails ml_X12_292 ⟨rfl, rfl⟩ ⟨Nat.le_of_ble_eq_true rfl, Nat.le_of_ble_eq_true rfl⟩ KM_0 rfl hl.1 rfl rfl (Nat.le_of_ble_eq_true rfl) dX12_readName_68 (fun H locs hW => W.eq (g2 := F0 m 71 ls [.int r7_]) rfl ?_)
        refine lv_if_eq (tgt := 78) hx hb dX12_readName_71 (by decide) (fun c8 => ?_) (fun c8 => ?_)
        · have h := xit c8 h
          refine lv_iconst (v := (-1)) hx hb dX12_readName_78 rfl ?_
          cases h
          exact xr_i C hW dX12_readName_79
        · have h := xif c8 h
          refine lv_iconst (v := 0) hx hb dX12_readName_74 rfl ?_
          refine lv_goto (tgt := 79) hx hb dX12_readName_75 (by decide) ?_
          cases h
          exact xr_i C hW dX12_readName_79
    · have h := xit c2 h
      refine lv_aload_n hx hb dX12_readName_31 rfl (lv_at hl 0 rfl) ?_
      refine lv_iconst (v := 4) hx hb dX12_readName_32 rfl ?_
      obtain ⟨r9_, σ9, e9, h⟩ := xbd h
      refine xc_V (As := [.int 4]) (rest := []) C hW (m_X12_fails 4 _ e9) mf_X12_fails mv_X12_fails ml_X12_292 ⟨rfl, rfl⟩ ⟨Nat.le_of_ble_eq_true rfl, Nat.le_of_ble_eq_true rfl⟩ KM_0 rfl hl.1 rfl rfl (Nat.le_of_ble_eq_true rfl) dX12_readName_33 (fun H locs hW => W.eq (g2 := F0 m 36 ls [.int r9_]) rfl ?_)
      refine lv_if_eq (tgt := 43) hx hb dX12_readName_36 (by decide) (fun c10 => ?_) (fun c10 => ?_)
      · have h := xit c10 h
        refine lv_iconst (v := (-1)) hx hb dX12_readName_43 rfl ?_
        cases h
        exact xr_i C hW dX12_readName_44
      · have h := xif c10 h
        refine lv_iconst (v := 0) hx hb dX12_readName_39 rfl ?_
        refine lv_goto (tgt := 44) hx hb dX12_readName_40 (by decide) ?_
        cases h
        exact xr_i C hW dX12_readName_44
  · have h := xif c1 h
    refine lv_aload_n hx hb dX12_readName_8 rfl (lv_at hl 0 rfl) ?_
    refine lv_iconst (v := 1) hx hb dX12_readName_9 rfl ?_
    obtain ⟨r11_, σ11, e11, h⟩ := xbd h
    refine xc_V (As := [.int 1]) (rest := []) C hW (m_X12_fails 1 _ e11) mf_X12_fails mv_X12_fails ml_X12_292 ⟨rfl, rfl⟩ ⟨Nat.le_of_ble_eq_true rfl, Nat.le_of_ble_eq_true rfl⟩ KM_0 rfl hl.1 rfl rfl (Nat.le_of_ble_eq_true rfl) dX12_readName_10 (fun H locs hW => W.eq (g2 := F0 m 13 ls [.int r11_]) rfl ?_)
    refine lv_if_eq (tgt := 20) hx hb dX12_readName_13 (by decide) (fun c12 => ?_) (fun c12 => ?_)
    · have h := xit c12 h
      refine lv_iconst (v := (-1)) hx hb dX12_readName_20 rfl ?_
      cases h
      exact xr_i C hW dX12_readName_21
    · have h := xif c12 h
      refine lv_iconst (v := 0) hx hb dX12_readName_16 rfl ?_
      refine lv_goto (tgt := 21) hx hb dX12_readName_17 (by decide) ?_
      cases h
      exact xr_i C hW dX12_readName_21
end
theorem dX12_readBlock_0 : decode cX12_readBlock 0 = .ok (.aload_n 0, 1) := by decide +kernel
theorem dX12_readBlock_1 : decode cX12_readBlock 1 = .ok (.iconst 1, 1) := by decide +kernel
theorem dX12_readBlock_2 : decode cX12_readBlock 2 = .ok (.invokevirtual 371, 3) := by decide +kernel
theorem dX12_readBlock_5 : decode cX12_readBlock 5 = .ok (.ireturn, 1) := by decide +kernel
def f_X12_readBlock (N : Nat) (hd : Int32 → St → Option (Int32 × St)) (σ : St) : Option (Int32 × St) := bd (hd 1 σ) (fun r1_ σ1 => grd (zbb r1_) (some (r1_, σ1)))
section
variable {p : Program} {l : Launch} {e : Env} {s : State} {m : MethodId} {args : Array Value} {below : List Frame} {meth : Method} {c : Code} {g : XG}
set_option maxRecDepth 4000 in
theorem m_X12_readBlock (N : Nat) (hd : Int32 → St → Option (Int32 × St)) (rmH : Room) (hrm : rmH.cells = 0 ∧ rmH.slots = 0 ∧ 7 ≤ rmH.frames ∧ 191 ≤ rmH.locals) (hH : ∀ (a0 : Int32) (σ : St) {r : Int32} {σ' : St}, hd a0 σ = some (r, σ') → xM l KM g yX12_readRowOf cX12_readRowOf 5 (some .boolean) rmH [.ref (g.q 0), .int a0] σ (some (.int r)) σ') (σ : St) {r : Int32} {σ' : St} (h : f_X12_readBlock N hd σ = some (r, σ')) : xM l KM g yX12_readBlock cX12_readBlock 1 (some .boolean) (xrm rmH 1 24) [.ref (g.q 0)] σ (some (.int r)) σ' := by
  refine xmet pn_X12 rfl (Nat.le_of_ble_eq_true rfl) (lv := [(0, .ref (g.q 0))]) rfl (fun p e s m args below meth c ls C hW hl => ?_)
  have hx := C.1
  have hb := C.2.1
  unfold f_X12_readBlock at h
  refine lv_aload_n hx hb dX12_readBlock_0 rfl (lv_at hl 0 rfl) ?_
  refine lv_iconst (v := 1) hx hb dX12_readBlock_1 rfl ?_
  obtain ⟨r1_, σ1, e1, h⟩ := xbd h
  refine xc_V (As := [.int 1]) (rest := []) C hW (hH 1 _ e1) mf_X12_readRowOf mv_X12_readRowOf ml_X12_371 ⟨hrm.1, hrm.2.1⟩ ⟨by simp only [xrm]; omega, by simp only [xrm]; omega⟩ KM_0 rfl hl.1 rfl rfl (Nat.le_of_ble_eq_true rfl) dX12_readBlock_2 (fun H locs hW => W.eq (g2 := F0 m 5 ls [.int r1_]) rfl ?_)
  obtain ⟨g2, h⟩ := xgd h
  cases h
  exact xr_z C hW g2 dX12_readBlock_5
end
