theorem dX12_spells_0 : decode cX12_spells 0 = .ok (.aload_n 0, 1) := by decide +kernel
theorem dX12_spells_1 : decode cX12_spells 1 = .ok (.iload_n 1, 1) := by decide +kernel
theorem dX12_spells_2 : decode cX12_spells 2 = .ok (.invokevirtual 411, 3) := by decide +kernel
theorem dX12_spells_5 : decode cX12_spells 5 = .ok (.ifCond .ne 6, 3) := by decide +kernel
theorem dX12_spells_8 : decode cX12_spells 8 = .ok (.bipush (-2), 2) := by decide +kernel
theorem dX12_spells_10 : decode cX12_spells 10 = .ok (.ireturn, 1) := by decide +kernel
theorem dX12_spells_11 : decode cX12_spells 11 = .ok (.aload_n 0, 1) := by decide +kernel
theorem dX12_spells_12 : decode cX12_spells 12 = .ok (.getfield 332, 3) := by decide +kernel
theorem dX12_spells_15 : decode cX12_spells 15 = .ok (.ifCond .ne 6, 3) := by decide +kernel
theorem dX12_spells_18 : decode cX12_spells 18 = .ok (.bipush (-4), 2) := by decide +kernel
theorem dX12_spells_20 : decode cX12_spells 20 = .ok (.ireturn, 1) := by decide +kernel
theorem dX12_spells_21 : decode cX12_spells 21 = .ok (.aload_n 0, 1) := by decide +kernel
theorem dX12_spells_22 : decode cX12_spells 22 = .ok (.invokevirtual 462, 3) := by decide +kernel
theorem dX12_spells_25 : decode cX12_spells 25 = .ok (.aload_n 0, 1) := by decide +kernel
theorem dX12_spells_26 : decode cX12_spells 26 = .ok (.aload_n 0, 1) := by decide +kernel
theorem dX12_spells_27 : decode cX12_spells 27 = .ok (.getfield 145, 3) := by decide +kernel
theorem dX12_spells_30 : decode cX12_spells 30 = .ok (.iconst 0, 1) := by decide +kernel
theorem dX12_spells_31 : decode cX12_spells 31 = .ok (.aload_n 0, 1) := by decide +kernel
theorem dX12_spells_32 : decode cX12_spells 32 = .ok (.getfield 332, 3) := by decide +kernel
theorem dX12_spells_35 : decode cX12_spells 35 = .ok (.iload_n 1, 1) := by decide +kernel
theorem dX12_spells_36 : decode cX12_spells 36 = .ok (.invokevirtual 482, 3) := by decide +kernel
theorem dX12_spells_39 : decode cX12_spells 39 = .ok (.ifCond .eq 7, 3) := by decide +kernel
theorem dX12_spells_42 : decode cX12_spells 42 = .ok (.iconst 1, 1) := by decide +kernel
theorem dX12_spells_43 : decode cX12_spells 43 = .ok (.goto 4, 3) := by decide +kernel
theorem dX12_spells_46 : decode cX12_spells 46 = .ok (.iconst 0, 1) := by decide +kernel
theorem dX12_spells_47 : decode cX12_spells 47 = .ok (.ireturn, 1) := by decide +kernel
abbrev rm_X12_spells : Room := { frames := 3, cells := 0, slots := 0, locals := 77 }
def f_X12_spells (N : Nat) (x1 : Int32) (σ : St) : Option (Int32 × St) := bo (f_X12_isTerm x1 σ) (fun r1_ => (if r1_ = 0 then some ((-2), σ) else (if (σ.1 1069 0) = 0 then some ((-4), σ) else bo (f_X12_asListed N σ) (fun σ4 => bd (f_X12_isSpelling 44 24 N 0 (σ4.1 1069 0) x1 σ4) (fun r5_ σ5 => (if r5_ = 0 then some (0, σ5) else some (1, σ5)))))))
section
variable {p : Program} {l : Launch} {e : Env} {s : State} {m : MethodId} {args : Array Value} {below : List Frame} {meth : Method} {c : Code} {g : XG}
set_option maxRecDepth 4000 in
theorem m_X12_spells (N : Nat) (x1 : Int32) (σ : St) {r : Int32} {σ' : St} (h : f_X12_spells N x1 σ = some (r, σ')) : xM l KM g yX12_spells cX12_spells 2 (some .int) rm_X12_spells [.ref (g.q 0), .int x1] σ (some (.int r)) σ' := by
  refine xmet pn_X12 rfl (Nat.le_of_ble_eq_true rfl) (lv := [(0, .ref (g.q 0)), (1, .int x1)]) rfl (fun p e s m args below meth c ls C hW hl => ?_)
  have hx := C.1
  have hb := C.2.1
  unfold f_X12_spells at h
  refine lv_aload_n hx hb dX12_spells_0 rfl (lv_at hl 0 rfl) ?_
  refine lv_iload_n hx hb dX12_spells_1 rfl (lv_at hl 1 rfl) ?_
  obtain ⟨r1_, e1, h⟩ := xbo h
  refine xc_V (As := [.int x1]) (rest := []) C hW (m_X12_isTerm x1 _ e1) mf_X12_isTerm mv_X12_isTerm ml_X12_411 ⟨rfl, rfl⟩ ⟨Nat.le_of_ble_eq_true rfl, Nat.le_of_ble_eq_true rfl⟩ KM_0 rfl hl.1 rfl rfl (Nat.le_of_ble_eq_true rfl) dX12_spells_2 (fun H locs hW => W.eq (g2 := F0 m 5 ls [.int r1_]) rfl ?_)
  refine lv_if_ne (tgt := 11) hx hb dX12_spells_5 (by decide) (fun c2 => ?_) (fun c2 => ?_)
  · have h := xif c2 h
    refine lv_aload_n hx hb dX12_spells_11 rfl (lv_at hl 0 rfl) ?_
    refine xg_i C hW fg_12_332 KM_0 rfl (v := 1069) rfl (x := σ.1 1069 0) rfl dX12_spells_12 ?_
    refine lv_if_ne (tgt := 21) hx hb dX12_spells_15 (by decide) (fun c3 => ?_) (fun c3 => ?_)
    · have h := xif c3 h
      refine lv_aload_n hx hb dX12_spells_21 rfl (lv_at hl 0 rfl) ?_
      obtain ⟨σ4, e4, h⟩ := xbo h
      refine xc_V (As := []) (rest := []) C hW (m_X12_asListed N _ e4) mf_X12_asListed mv_X12_asListed ml_X12_462 ⟨rfl, rfl⟩ ⟨Nat.le_of_ble_eq_true rfl, Nat.le_of_ble_eq_true rfl⟩ KM_0 rfl hl.1 rfl rfl (Nat.le_of_ble_eq_true rfl) dX12_spells_22 (fun H locs hW => W.eq (g2 := F0 m 25 ls []) rfl ?_)
      refine lv_aload_n hx hb dX12_spells_25 rfl (lv_at hl 0 rfl) ?_
      refine lv_aload_n hx hb dX12_spells_26 rfl (lv_at hl 0 rfl) ?_
      refine xg_r C hW fg_12_145 KM_0 rfl dX12_spells_27 ?_
      refine lv_iconst (v := 0) hx hb dX12_spells_30 rfl ?_
      refine lv_aload_n hx hb dX12_spells_31 rfl (lv_at hl 0 rfl) ?_
      refine xg_i C hW fg_12_332 KM_0 rfl (v := 1069) rfl (x := σ4.1 1069 0) rfl dX12_spells_32 ?_
      refine lv_iload_n hx hb dX12_spells_35 rfl (lv_at hl 1 rfl) ?_
      obtain ⟨r5_, σ5, e5, h⟩ := xbd h
      refine xc_V (As := [.ref (g.q 44), .int 0, .int (σ4.1 1069 0), .int x1]) (rest := []) C hW (m_X12_isSpelling 44 24 KM_44 N 0 (σ4.1 1069 0) x1 _ e5) mf_X12_isSpelling mv_X12_isSpelling ml_X12_482 ⟨rfl, rfl⟩ ⟨Nat.le_of_ble_eq_true rfl, Nat.le_of_ble_eq_true rfl⟩ KM_0 rfl hl.1 rfl rfl (Nat.le_of_ble_eq_true rfl) dX12_spells_36 (fun H locs hW => W.eq (g2 := F0 m 39 ls [.int r5_]) rfl ?_)
      refine lv_if_eq (tgt := 46) hx hb dX12_spells_39 (by decide) (fun c6 => ?_) (fun c6 => ?_)
      · have h := xit c6 h
        refine lv_iconst (v := 0) hx hb dX12_spells_46 rfl ?_
        cases h
        exact xr_i C hW dX12_spells_47
      · have h := xif c6 h
        refine lv_iconst (v := 1) hx hb dX12_spells_42 rfl ?_
        refine lv_goto (tgt := 47) hx hb dX12_spells_43 (by decide) ?_
        cases h
        exact xr_i C hW dX12_spells_47
    · have h := xit c3 h
      refine lv_bipush (v := (-4)) hx hb dX12_spells_18 rfl ?_
      cases h
      exact xr_i C hW dX12_spells_20
  · have h := xit c2 h
    refine lv_bipush (v := (-2)) hx hb dX12_spells_8 rfl ?_
    cases h
    exact xr_i C hW dX12_spells_10
end
theorem dX12_group_0 : decode cX12_group 0 = .ok (.aload_n 0, 1) := by decide +kernel
theorem dX12_group_1 : decode cX12_group 1 = .ok (.getfield 332, 3) := by decide +kernel
theorem dX12_group_4 : decode cX12_group 4 = .ok (.ifCond .ne 6, 3) := by decide +kernel
theorem dX12_group_7 : decode cX12_group 7 = .ok (.bipush (-4), 2) := by decide +kernel
theorem dX12_group_9 : decode cX12_group 9 = .ok (.ireturn, 1) := by decide +kernel
theorem dX12_group_10 : decode cX12_group 10 = .ok (.aload_n 0, 1) := by decide +kernel
theorem dX12_group_11 : decode cX12_group 11 = .ok (.aload_n 0, 1) := by decide +kernel
theorem dX12_group_12 : decode cX12_group 12 = .ok (.getfield 145, 3) := by decide +kernel
theorem dX12_group_15 : decode cX12_group 15 = .ok (.aload_n 0, 1) := by decide +kernel
theorem dX12_group_16 : decode cX12_group 16 = .ok (.getfield 332, 3) := by decide +kernel
theorem dX12_group_19 : decode cX12_group 19 = .ok (.invokevirtual 511, 3) := by decide +kernel
theorem dX12_group_22 : decode cX12_group 22 = .ok (.ldc_w 435, 3) := by decide +kernel
theorem dX12_group_25 : decode cX12_group 25 = .ok (.if_icmp .lt 5, 3) := by decide +kernel
theorem dX12_group_28 : decode cX12_group 28 = .ok (.iconst (-1), 1) := by decide +kernel
theorem dX12_group_29 : decode cX12_group 29 = .ok (.ireturn, 1) := by decide +kernel
theorem dX12_group_30 : decode cX12_group 30 = .ok (.aload_n 0, 1) := by decide +kernel
theorem dX12_group_31 : decode cX12_group 31 = .ok (.iconst 0, 1) := by decide +kernel
theorem dX12_group_32 : decode cX12_group 32 = .ok (.putfield 344, 3) := by decide +kernel
theorem dX12_group_35 : decode cX12_group 35 = .ok (.iconst 0, 1) := by decide +kernel
theorem dX12_group_36 : decode cX12_group 36 = .ok (.istore_n 1, 1) := by decide +kernel
theorem dX12_group_37 : decode cX12_group 37 = .ok (.iload_n 1, 1) := by decide +kernel
theorem dX12_group_38 : decode cX12_group 38 = .ok (.aload_n 0, 1) := by decide +kernel
theorem dX12_group_39 : decode cX12_group 39 = .ok (.getfield 332, 3) := by decide +kernel
theorem dX12_group_42 : decode cX12_group 42 = .ok (.if_icmp .ge 73, 3) := by decide +kernel
theorem dX12_group_45 : decode cX12_group 45 = .ok (.aload_n 0, 1) := by decide +kernel
theorem dX12_group_46 : decode cX12_group 46 = .ok (.getfield 179, 3) := by decide +kernel
theorem dX12_group_49 : decode cX12_group 49 = .ok (.aload_n 0, 1) := by decide +kernel
theorem dX12_group_50 : decode cX12_group 50 = .ok (.getfield 344, 3) := by decide +kernel
theorem dX12_group_53 : decode cX12_group 53 = .ok (.aload_n 0, 1) := by decide +kernel
theorem dX12_group_54 : decode cX12_group 54 = .ok (.getfield 176, 3) := by decide +kernel
theorem dX12_group_57 : decode cX12_group 57 = .ok (.iload_n 1, 1) := by decide +kernel
theorem dX12_group_58 : decode cX12_group 58 = .ok (.iaload, 1) := by decide +kernel
theorem dX12_group_59 : decode cX12_group 59 = .ok (.iastore, 1) := by decide +kernel
theorem dX12_group_60 : decode cX12_group 60 = .ok (.aload_n 0, 1) := by decide +kernel
theorem dX12_group_61 : decode cX12_group 61 = .ok (.getfield 182, 3) := by decide +kernel
theorem dX12_group_64 : decode cX12_group 64 = .ok (.aload_n 0, 1) := by decide +kernel
theorem dX12_group_65 : decode cX12_group 65 = .ok (.getfield 344, 3) := by decide +kernel
theorem dX12_group_68 : decode cX12_group 68 = .ok (.aload_n 0, 1) := by decide +kernel
theorem dX12_group_69 : decode cX12_group 69 = .ok (.aload_n 0, 1) := by decide +kernel
theorem dX12_group_70 : decode cX12_group 70 = .ok (.getfield 145, 3) := by decide +kernel
theorem dX12_group_73 : decode cX12_group 73 = .ok (.iload_n 1, 1) := by decide +kernel
theorem dX12_group_74 : decode cX12_group 74 = .ok (.aload_n 0, 1) := by decide +kernel
theorem dX12_group_75 : decode cX12_group 75 = .ok (.getfield 176, 3) := by decide +kernel
theorem dX12_group_78 : decode cX12_group 78 = .ok (.iload_n 1, 1) := by decide +kernel
theorem dX12_group_79 : decode cX12_group 79 = .ok (.iaload, 1) := by decide +kernel
theorem dX12_group_80 : decode cX12_group 80 = .ok (.invokevirtual 507, 3) := by decide +kernel
theorem dX12_group_83 : decode cX12_group 83 = .ok (.iastore, 1) := by decide +kernel
theorem dX12_group_84 : decode cX12_group 84 = .ok (.aload_n 0, 1) := by decide +kernel
theorem dX12_group_85 : decode cX12_group 85 = .ok (.dup, 1) := by decide +kernel
theorem dX12_group_86 : decode cX12_group 86 = .ok (.getfield 344, 3) := by decide +kernel
theorem dX12_group_89 : decode cX12_group 89 = .ok (.iconst 1, 1) := by decide +kernel
theorem dX12_group_90 : decode cX12_group 90 = .ok (.iadd, 1) := by decide +kernel
theorem dX12_group_91 : decode cX12_group 91 = .ok (.putfield 344, 3) := by decide +kernel
theorem dX12_group_94 : decode cX12_group 94 = .ok (.iload_n 1, 1) := by decide +kernel
theorem dX12_group_95 : decode cX12_group 95 = .ok (.ldc_w 502, 3) := by decide +kernel
theorem dX12_group_98 : decode cX12_group 98 = .ok (.aload_n 0, 1) := by decide +kernel
theorem dX12_group_99 : decode cX12_group 99 = .ok (.getfield 176, 3) := by decide +kernel
theorem dX12_group_102 : decode cX12_group 102 = .ok (.iload_n 1, 1) := by decide +kernel
theorem dX12_group_103 : decode cX12_group 103 = .ok (.iaload, 1) := by decide +kernel
theorem dX12_group_104 : decode cX12_group 104 = .ok (.invokevirtual 250, 3) := by decide +kernel
theorem dX12_group_107 : decode cX12_group 107 = .ok (.bipush 48, 2) := by decide +kernel
theorem dX12_group_109 : decode cX12_group 109 = .ok (.isub, 1) := by decide +kernel
theorem dX12_group_110 : decode cX12_group 110 = .ok (.iadd, 1) := by decide +kernel
theorem dX12_group_111 : decode cX12_group 111 = .ok (.istore_n 1, 1) := by decide +kernel
theorem dX12_group_112 : decode cX12_group 112 = .ok (.goto (-75), 3) := by decide +kernel
theorem dX12_group_115 : decode cX12_group 115 = .ok (.aload_n 0, 1) := by decide +kernel
theorem dX12_group_116 : decode cX12_group 116 = .ok (.getfield 344, 3) := by decide +kernel
theorem dX12_group_119 : decode cX12_group 119 = .ok (.ireturn, 1) := by decide +kernel
abbrev rm_X12_group : Room := { frames := 6, cells := 0, slots := 0, locals := 180 }
def f_X12_group_37 (N : Nat) : Nat → Int32 → St → Option (Int32 × St)
  | 0, _, _ => none
  | n + 1, x1, σ => (if (σ.1 1069 0) ≤ x1 then some (σ.1 1082 0, σ) else grd (ib x1 25) (grd (ib (σ.1 1082 0) 24) (grd (ib x1 25) (bo (f_X12_percentOf 44 24 x1 (σ.1 54 x1.toNatClampNeg) (si σ 55 (σ.1 1082 0).toNatClampNeg (σ.1 54 x1.toNatClampNeg))) (fun r8_ => grd (ib (σ.1 1082 0) 24) (grd (ib x1 25) (grd (ib (σ.1 54 x1.toNatClampNeg) (xtl.getD 9 0)) (f_X12_group_37 N n (x1 + (((xtb.getD 9 []).getD (σ.1 54 x1.toNatClampNeg).toNatClampNeg 0) - 48)) (si (si (si σ 55 (σ.1 1082 0).toNatClampNeg (σ.1 54 x1.toNatClampNeg)) 56 (σ.1 1082 0).toNatClampNeg r8_) 1082 0 ((σ.1 1082 0) + 1))))))))))
def f_X12_group (N : Nat) (σ : St) : Option (Int32 × St) := (if (σ.1 1069 0) = 0 then some ((-4), σ) else bd (f_X12_groups 44 24 N (σ.1 1069 0) σ) (fun r2_ σ2 => (if r2_ < 1000000000 then f_X12_group_37 N N 0 (si σ2 1082 0 0) else some ((-1), σ2))))
section
variable {p : Program} {l : Launch} {e : Env} {s : State} {m : MethodId} {args : Array Value} {below : List Frame} {meth : Method} {c : Code} {g : XG}
set_option maxRecDepth 4000 in
theorem w_X12_group_37 (N : Nat) {r : Int32} {σ' : St} (C : xC KM g RX12 cX12_group 2 (some .int) p s m args meth c) : ∀ (n : Nat), ∀ (x1 : Int32) (σ : St) (H : Heap) (locs : List Loc) (ls : Array Slot), xW KM g s σ H locs → lv_has ls 2 [(0, .ref (g.q 0)), (1, .int x1)] → f_X12_group_37 N n x1 σ = some (r, σ') → W p l e rm_X12_group s m args below meth c H locs 0 0 (MQ below (xPost KM g (some (.int r)) σ') args s 0 0 (xA KM g.q)) (F0 m 37 ls []) := by
  have hx := C.1
  have hb := C.2.1
  intro n
  induction n with
  | zero => intro x1 σ H locs ls hW hl h; rw [f_X12_group_37] at h; cases h
  | succ n ih =>
    intro x1 σ H locs ls hW hl h
    rw [f_X12_group_37] at h
    refine lv_iload_n hx hb dX12_group_37 rfl (lv_at hl 1 rfl) ?_
    refine lv_aload_n hx hb dX12_group_38 rfl (lv_at hl 0 rfl) ?_
    refine xg_i C hW fg_12_332 KM_0 rfl (v := 1069) rfl (x := σ.1 1069 0) rfl dX12_group_39 ?_
    refine lv_icmp_ge (tgt := 115) hx hb dX12_group_42 (by decide) (fun c4 => ?_) (fun c4 => ?_)
    · have h := xit c4 h
      refine lv_aload_n hx hb dX12_group_115 rfl (lv_at hl 0 rfl) ?_
      refine xg_i C hW fg_12_344 KM_0 rfl (v := 1082) rfl (x := σ.1 1082 0) rfl dX12_group_116 ?_
      cases h
      exact xr_i C hW dX12_group_119
    · have h := xif c4 h
      refine lv_aload_n hx hb dX12_group_45 rfl (lv_at hl 0 rfl) ?_
      refine xg_r C hW fg_12_179 KM_0 rfl dX12_group_46 ?_
      refine lv_aload_n hx hb dX12_group_49 rfl (lv_at hl 0 rfl) ?_
      refine xg_i C hW fg_12_344 KM_0 rfl (v := 1082) rfl (x := σ.1 1082 0) rfl dX12_group_50 ?_
      refine lv_aload_n hx hb dX12_group_53 rfl (lv_at hl 0 rfl) ?_
      refine xg_r C hW fg_12_176 KM_0 rfl dX12_group_54 ?_
      refine lv_iload_n hx hb dX12_group_57 rfl (lv_at hl 1 rfl) ?_
      obtain ⟨g5, h⟩ := xgd h
      refine xa_i C hW KM_54 g5 (x := σ.1 54 x1.toNatClampNeg) rfl dX12_group_58 ?_
      obtain ⟨g6, h⟩ := xgd h
      refine xs_i C hW KM_55 g6 dX12_group_59 (fun H locs hW => ?_)
      refine lv_aload_n hx hb dX12_group_60 rfl (lv_at hl 0 rfl) ?_
      refine xg_r C hW fg_12_182 KM_0 rfl dX12_group_61 ?_
      refine lv_aload_n hx hb dX12_group_64 rfl (lv_at hl 0 rfl) ?_
      refine xg_i C hW fg_12_344 KM_0 rfl (v := 1082) rfl (x := σ.1 1082 0) rfl dX12_group_65 ?_
      refine lv_aload_n hx hb dX12_group_68 rfl (lv_at hl 0 rfl) ?_
      refine lv_aload_n hx hb dX12_group_69 rfl (lv_at hl 0 rfl) ?_
      refine xg_r C hW fg_12_145 KM_0 rfl dX12_group_70 ?_
      refine lv_iload_n hx hb dX12_group_73 rfl (lv_at hl 1 rfl) ?_
      refine lv_aload_n hx hb dX12_group_74 rfl (lv_at hl 0 rfl) ?_
      refine xg_r C hW fg_12_176 KM_0 rfl dX12_group_75 ?_
      refine lv_iload_n hx hb dX12_group_78 rfl (lv_at hl 1 rfl) ?_
      obtain ⟨g7, h⟩ := xgd h
      refine xa_i C hW KM_54 g7 (x := σ.1 54 x1.toNatClampNeg) rfl dX12_group_79 ?_
      obtain ⟨r8_, e8, h⟩ := xbo h
      refine xc_V (As := [.ref (g.q 44), .int x1, .int (σ.1 54 x1.toNatClampNeg)]) (rest := [.int (σ.1 1082 0), .ref (g.q 56)]) C hW (m_X12_percentOf 44 24 KM_44 x1 (σ.1 54 x1.toNatClampNeg) _ e8) mf_X12_percentOf mv_X12_percentOf ml_X12_507 ⟨rfl, rfl⟩ ⟨Nat.le_of_ble_eq_true rfl, Nat.le_of_ble_eq_true rfl⟩ KM_0 rfl hl.1 rfl rfl (Nat.le_of_ble_eq_true rfl) dX12_group_80 (fun H locs hW => W.eq (g2 := F0 m 83 ls [.int r8_, .int (σ.1 1082 0), .ref (g.q 56)]) rfl ?_)
      obtain ⟨g9, h⟩ := xgd h
      refine xs_i C hW KM_56 g9 dX12_group_83 (fun H locs hW => ?_)
      refine lv_aload_n hx hb dX12_group_84 rfl (lv_at hl 0 rfl) ?_
      refine lv_dup hx hb dX12_group_85 rfl ?_
      refine xg_i C hW fg_12_344 KM_0 rfl (v := 1082) rfl (x := σ.1 1082 0) rfl dX12_group_86 ?_
      refine lv_iconst (v := 1) hx hb dX12_group_89 rfl ?_
      refine lv_iadd hx hb dX12_group_90 ?_
      refine xp_i C hW fp_12_344 KM_0 rfl (v := 1082) rfl rfl rfl dX12_group_91 (fun H locs hW => ?_)
      refine lv_iload_n hx hb dX12_group_94 rfl (lv_at hl 1 rfl) ?_
      refine xx_sw (i := 9) C rfl dX12_group_95 ?_
      refine lv_aload_n hx hb dX12_group_98 rfl (lv_at hl 0 rfl) ?_
      refine xg_r C hW fg_12_176 KM_0 rfl dX12_group_99 ?_
      refine lv_iload_n hx hb dX12_group_102 rfl (lv_at hl 1 rfl) ?_
      obtain ⟨g10, h⟩ := xgd h
      refine xa_i C hW KM_54 g10 (x := σ.1 54 x1.toNatClampNeg) rfl dX12_group_103 ?_
      obtain ⟨g11, h⟩ := xgd h
      refine xs_cha C hW (by decide) g11 ml_X12_250 (Nat.le_of_ble_eq_true rfl) (Nat.le_of_ble_eq_true rfl) hl.1 (Nat.le_of_ble_eq_true rfl) dX12_group_104 (fun H locs hW => ?_)
      refine lv_bipush (v := 48) hx hb dX12_group_107 rfl ?_
      refine lv_isub hx hb dX12_group_109 ?_
      refine lv_iadd hx hb dX12_group_110 ?_
      refine lv_istore_n (lv' := [(1, .int (x1 + (((xtb.getD 9 []).getD (σ.1 54 x1.toNatClampNeg).toNatClampNeg 0) - 48))), (0, .ref (g.q 0))]) hx hb dX12_group_111 rfl hl (Nat.le_of_ble_eq_true rfl) rfl (fun ls hl => ?_)
      refine lv_goto (tgt := 37) hx hb dX12_group_112 (by decide) ?_
      exact ih (x1 + (((xtb.getD 9 []).getD (σ.1 54 x1.toNatClampNeg).toNatClampNeg 0) - 48)) _ _ _ _ hW (lv_sub hl [1, 0] rfl) h
set_option maxRecDepth 4000 in
theorem m_X12_group (N : Nat) (σ : St) {r : Int32} {σ' : St} (h : f_X12_group N σ = some (r, σ')) : xM l KM g yX12_group cX12_group 2 (some .int) rm_X12_group [.ref (g.q 0)] σ (some (.int r)) σ' := by
  refine xmet pn_X12 rfl (Nat.le_of_ble_eq_true rfl) (lv := [(0, .ref (g.q 0))]) rfl (fun p e s m args below meth c ls C hW hl => ?_)
  have hx := C.1
  have hb := C.2.1
  unfold f_X12_group at h
  refine lv_aload_n hx hb dX12_group_0 rfl (lv_at hl 0 rfl) ?_
  refine xg_i C hW fg_12_332 KM_0 rfl (v := 1069) rfl (x := σ.1 1069 0) rfl dX12_group_1 ?_
  refine lv_if_ne (tgt := 10) hx hb dX12_group_4 (by decide) (fun c1 => ?_) (fun c1 => ?_)
  · have h := xif c1 h
    refine lv_aload_n hx hb dX12_group_10 rfl (lv_at hl 0 rfl) ?_
    refine lv_aload_n hx hb dX12_group_11 rfl (lv_at hl 0 rfl) ?_
    refine xg_r C hW fg_12_145 KM_0 rfl dX12_group_12 ?_
    refine lv_aload_n hx hb dX12_group_15 rfl (lv_at hl 0 rfl) ?_
    refine xg_i C hW fg_12_332 KM_0 rfl (v := 1069) rfl (x := σ.1 1069 0) rfl dX12_group_16 ?_
    obtain ⟨r2_, σ2, e2, h⟩ := xbd h
    refine xc_V (As := [.ref (g.q 44), .int (σ.1 1069 0)]) (rest := []) C hW (m_X12_groups 44 24 KM_44 N (σ.1 1069 0) _ e2) mf_X12_groups mv_X12_groups ml_X12_511 ⟨rfl, rfl⟩ ⟨Nat.le_of_ble_eq_true rfl, Nat.le_of_ble_eq_true rfl⟩ KM_0 rfl hl.1 rfl rfl (Nat.le_of_ble_eq_true rfl) dX12_group_19 (fun H locs hW => W.eq (g2 := F0 m 22 ls [.int r2_]) rfl ?_)
    refine lv_ldcw (v := 1000000000) hx hb C.ow (C.hts _ kc_X12_435) dX12_group_22 ?_
    refine lv_icmp_lt (tgt := 30) hx hb dX12_group_25 (by decide) (fun c3 => ?_) (fun c3 => ?_)
    · have h := xit c3 h
      refine lv_aload_n hx hb dX12_group_30 rfl (lv_at hl 0 rfl) ?_
      refine lv_iconst (v := 0) hx hb dX12_group_31 rfl ?_
      refine xp_i C hW fp_12_344 KM_0 rfl (v := 1082) rfl rfl rfl dX12_group_32 (fun H locs hW => ?_)
      refine lv_iconst (v := 0) hx hb dX12_group_35 rfl ?_
      refine lv_istore_n (lv' := [(1, .int 0), (0, .ref (g.q 0))]) hx hb dX12_group_36 rfl hl (Nat.le_of_ble_eq_true rfl) rfl (fun ls hl => ?_)
      exact w_X12_group_37 N C N 0 _ _ _ _ hW (lv_sub hl [1, 0] rfl) h
    · have h := xif c3 h
      refine lv_iconst (v := (-1)) hx hb dX12_group_28 rfl ?_
      cases h
      exact xr_i C hW dX12_group_29
  · have h := xit c1 h
    refine lv_bipush (v := (-4)) hx hb dX12_group_7 rfl ?_
    cases h
    exact xr_i C hW dX12_group_9
end
theorem dX12_grouped_0 : decode cX12_grouped 0 = .ok (.iload_n 1, 1) := by decide +kernel
theorem dX12_grouped_1 : decode cX12_grouped 1 = .ok (.iconst 0, 1) := by decide +kernel
theorem dX12_grouped_2 : decode cX12_grouped 2 = .ok (.aload_n 0, 1) := by decide +kernel
theorem dX12_grouped_3 : decode cX12_grouped 3 = .ok (.getfield 344, 3) := by decide +kernel
theorem dX12_grouped_6 : decode cX12_grouped 6 = .ok (.iconst 1, 1) := by decide +kernel
theorem dX12_grouped_7 : decode cX12_grouped 7 = .ok (.isub, 1) := by decide +kernel
theorem dX12_grouped_8 : decode cX12_grouped 8 = .ok (.invokestatic 295, 3) := by decide +kernel
theorem dX12_grouped_11 : decode cX12_grouped 11 = .ok (.ifCond .ne 5, 3) := by decide +kernel
theorem dX12_grouped_14 : decode cX12_grouped 14 = .ok (.iconst (-1), 1) := by decide +kernel
theorem dX12_grouped_15 : decode cX12_grouped 15 = .ok (.ireturn, 1) := by decide +kernel
theorem dX12_grouped_16 : decode cX12_grouped 16 = .ok (.iload_n 2, 1) := by decide +kernel
theorem dX12_grouped_17 : decode cX12_grouped 17 = .ok (.ifCond .ne 12, 3) := by decide +kernel
theorem dX12_grouped_20 : decode cX12_grouped 20 = .ok (.aload_n 0, 1) := by decide +kernel
theorem dX12_grouped_21 : decode cX12_grouped 21 = .ok (.getfield 179, 3) := by decide +kernel
theorem dX12_grouped_24 : decode cX12_grouped 24 = .ok (.iload_n 1, 1) := by decide +kernel
theorem dX12_grouped_25 : decode cX12_grouped 25 = .ok (.iaload, 1) := by decide +kernel
theorem dX12_grouped_26 : decode cX12_grouped 26 = .ok (.goto 18, 3) := by decide +kernel
theorem dX12_grouped_29 : decode cX12_grouped 29 = .ok (.iload_n 2, 1) := by decide +kernel
theorem dX12_grouped_30 : decode cX12_grouped 30 = .ok (.iconst 1, 1) := by decide +kernel
theorem dX12_grouped_31 : decode cX12_grouped 31 = .ok (.if_icmp .ne 12, 3) := by decide +kernel
theorem dX12_grouped_34 : decode cX12_grouped 34 = .ok (.aload_n 0, 1) := by decide +kernel
theorem dX12_grouped_35 : decode cX12_grouped 35 = .ok (.getfield 182, 3) := by decide +kernel
theorem dX12_grouped_38 : decode cX12_grouped 38 = .ok (.iload_n 1, 1) := by decide +kernel
theorem dX12_grouped_39 : decode cX12_grouped 39 = .ok (.iaload, 1) := by decide +kernel
theorem dX12_grouped_40 : decode cX12_grouped 40 = .ok (.goto 4, 3) := by decide +kernel
theorem dX12_grouped_43 : decode cX12_grouped 43 = .ok (.iconst (-1), 1) := by decide +kernel
theorem dX12_grouped_44 : decode cX12_grouped 44 = .ok (.ireturn, 1) := by decide +kernel
abbrev rm_X12_grouped : Room := { frames := 1, cells := 0, slots := 0, locals := 22 }
def f_X12_grouped (x1 : Int32) (x2 : Int32) (σ : St) : Option Int32 := (if (f_X12_in x1 0 ((σ.1 1082 0) - 1) σ) = 0 then some ((-1)) else (if x2 = 0 then grd (ib x1 24) (some (σ.1 55 x1.toNatClampNeg)) else (if x2 = 1 then grd (ib x1 24) (some (σ.1 56 x1.toNatClampNeg)) else some ((-1)))))
section
variable {p : Program} {l : Launch} {e : Env} {s : State} {m : MethodId} {args : Array Value} {below : List Frame} {meth : Method} {c : Code} {g : XG}
set_option maxRecDepth 4000 in
theorem m_X12_grouped (x1 : Int32) (x2 : Int32) (σ : St) {r : Int32} (h : f_X12_grouped x1 x2 σ = some r) : xM l KM g yX12_grouped cX12_grouped 3 (some .int) rm_X12_grouped [.ref (g.q 0), .int x1, .int x2] σ (some (.int r)) σ := by
  refine xmet pn_X12 rfl (Nat.le_of_ble_eq_true rfl) (lv := [(0, .ref (g.q 0)), (1, .int x1), (2, .int x2)]) rfl (fun p e s m args below meth c ls C hW hl => ?_)
  have hx := C.1
  have hb := C.2.1
  unfold f_X12_grouped at h
  refine lv_iload_n hx hb dX12_grouped_0 rfl (lv_at hl 1 rfl) ?_
  refine lv_iconst (v := 0) hx hb dX12_grouped_1 rfl ?_
  refine lv_aload_n hx hb dX12_grouped_2 rfl (lv_at hl 0 rfl) ?_
  refine xg_i C hW fg_12_344 KM_0 rfl (v := 1082) rfl (x := σ.1 1082 0) rfl dX12_grouped_3 ?_
  refine lv_iconst (v := 1) hx hb dX12_grouped_6 rfl ?_
  refine lv_isub hx hb dX12_grouped_7 ?_
  refine xc_S (As := [.int x1, .int 0, .int ((σ.1 1082 0) - 1)]) (rest := []) C hW (m_X12_in x1 0 ((σ.1 1082 0) - 1) _ rfl) mf_X12_in mt_X12_in ml_X12_295 ⟨rfl, rfl⟩ ⟨Nat.le_of_ble_eq_true rfl, Nat.le_of_ble_eq_true rfl⟩ hl.1 rfl rfl (Nat.le_of_ble_eq_true rfl) dX12_grouped_8 (fun H locs hW => W.eq (g2 := F0 m 11 ls [.int (f_X12_in x1 0 ((σ.1 1082 0) - 1) σ)]) rfl ?_)
  refine lv_if_ne (tgt := 16) hx hb dX12_grouped_11 (by decide) (fun c1 => ?_) (fun c1 => ?_)
  · have h := xif c1 h
    refine lv_iload_n hx hb dX12_grouped_16 rfl (lv_at hl 2 rfl) ?_
    refine lv_if_ne (tgt := 29) hx hb dX12_grouped_17 (by decide) (fun c2 => ?_) (fun c2 => ?_)
    · have h := xif c2 h
      refine lv_iload_n hx hb dX12_grouped_29 rfl (lv_at hl 2 rfl) ?_
      refine lv_iconst (v := 1) hx hb dX12_grouped_30 rfl ?_
      refine lv_icmp_ne (tgt := 43) hx hb dX12_grouped_31 (by decide) (fun c3 => ?_) (fun c3 => ?_)
      · have h := xif c3 h
        refine lv_iconst (v := (-1)) hx hb dX12_grouped_43 rfl ?_
        cases h
        exact xr_i C hW dX12_grouped_44
      · have h := xit c3 h
        refine lv_aload_n hx hb dX12_grouped_34 rfl (lv_at hl 0 rfl) ?_
        refine xg_r C hW fg_12_182 KM_0 rfl dX12_grouped_35 ?_
        refine lv_iload_n hx hb dX12_grouped_38 rfl (lv_at hl 1 rfl) ?_
        obtain ⟨g4, h⟩ := xgd h
        refine xa_i C hW KM_56 g4 (x := σ.1 56 x1.toNatClampNeg) rfl dX12_grouped_39 ?_
        refine lv_goto (tgt := 44) hx hb dX12_grouped_40 (by decide) ?_
        cases h
        exact xr_i C hW dX12_grouped_44
    · have h := xit c2 h
      refine lv_aload_n hx hb dX12_grouped_20 rfl (lv_at hl 0 rfl) ?_
      refine xg_r C hW fg_12_179 KM_0 rfl dX12_grouped_21 ?_
      refine lv_iload_n hx hb dX12_grouped_24 rfl (lv_at hl 1 rfl) ?_
      obtain ⟨g5, h⟩ := xgd h
      refine xa_i C hW KM_55 g5 (x := σ.1 55 x1.toNatClampNeg) rfl dX12_grouped_25 ?_
      refine lv_goto (tgt := 44) hx hb dX12_grouped_26 (by decide) ?_
      cases h
      exact xr_i C hW dX12_grouped_44
  · have h := xit c1 h
    refine lv_iconst (v := (-1)) hx hb dX12_grouped_14 rfl ?_
    cases h
    exact xr_i C hW dX12_grouped_15
end
theorem dX12_clear_0 : decode cX12_clear 0 = .ok (.aload_n 0, 1) := by decide +kernel
theorem dX12_clear_1 : decode cX12_clear 1 = .ok (.getfield 515, 3) := by decide +kernel
theorem dX12_clear_4 : decode cX12_clear 4 = .ok (.istore_n 1, 1) := by decide +kernel
theorem dX12_clear_5 : decode cX12_clear 5 = .ok (.aload_n 0, 1) := by decide +kernel
theorem dX12_clear_6 : decode cX12_clear 6 = .ok (.iconst 0, 1) := by decide +kernel
theorem dX12_clear_7 : decode cX12_clear 7 = .ok (.putfield 515, 3) := by decide +kernel
theorem dX12_clear_10 : decode cX12_clear 10 = .ok (.aload_n 0, 1) := by decide +kernel
theorem dX12_clear_11 : decode cX12_clear 11 = .ok (.iconst 0, 1) := by decide +kernel
theorem dX12_clear_12 : decode cX12_clear 12 = .ok (.putfield 347, 3) := by decide +kernel
theorem dX12_clear_15 : decode cX12_clear 15 = .ok (.iload_n 1, 1) := by decide +kernel
theorem dX12_clear_16 : decode cX12_clear 16 = .ok (.ireturn, 1) := by decide +kernel
abbrev rm_X12_clear : Room := { frames := 0, cells := 0, slots := 0, locals := 0 }
def f_X12_clear (σ : St) : Option (Int32 × St) := some (σ.1 1085 0, (si (si σ 1085 0 0) 1086 0 0))
section
variable {p : Program} {l : Launch} {e : Env} {s : State} {m : MethodId} {args : Array Value} {below : List Frame} {meth : Method} {c : Code} {g : XG}
set_option maxRecDepth 4000 in
theorem m_X12_clear (σ : St) {r : Int32} {σ' : St} (h : f_X12_clear σ = some (r, σ')) : xM l KM g yX12_clear cX12_clear 2 (some .int) rm_X12_clear [.ref (g.q 0)] σ (some (.int r)) σ' := by
  refine xmet pn_X12 rfl (Nat.le_of_ble_eq_true rfl) (lv := [(0, .ref (g.q 0))]) rfl (fun p e s m args below meth c ls C hW hl => ?_)
  have hx := C.1
  have hb := C.2.1
  unfold f_X12_clear at h
  refine lv_aload_n hx hb dX12_clear_0 rfl (lv_at hl 0 rfl) ?_
  refine xg_i C hW fg_12_515 KM_0 rfl (v := 1085) rfl (x := σ.1 1085 0) rfl dX12_clear_1 ?_
  refine lv_istore_n (lv' := [(1, .int (σ.1 1085 0)), (0, .ref (g.q 0))]) hx hb dX12_clear_4 rfl hl (Nat.le_of_ble_eq_true rfl) rfl (fun ls hl => ?_)
  refine lv_aload_n hx hb dX12_clear_5 rfl (lv_at hl 1 rfl) ?_
  refine lv_iconst (v := 0) hx hb dX12_clear_6 rfl ?_
  refine xp_i C hW fp_12_515 KM_0 rfl (v := 1085) rfl rfl rfl dX12_clear_7 (fun H locs hW => ?_)
  refine lv_aload_n hx hb dX12_clear_10 rfl (lv_at hl 1 rfl) ?_
  refine lv_iconst (v := 0) hx hb dX12_clear_11 rfl ?_
  refine xp_i C hW fp_12_347 KM_0 rfl (v := 1086) rfl rfl rfl dX12_clear_12 (fun H locs hW => ?_)
  refine lv_iload_n hx hb dX12_clear_15 rfl (lv_at hl 0 rfl) ?_
  cases h
  exact xr_i C hW dX12_clear_16
end
theorem dX12_say_0 : decode cX12_say 0 = .ok (.aload_n 0, 1) := by decide +kernel
theorem dX12_say_1 : decode cX12_say 1 = .ok (.iload_n 1, 1) := by decide +kernel
theorem dX12_say_2 : decode cX12_say 2 = .ok (.invokevirtual 411, 3) := by decide +kernel
theorem dX12_say_5 : decode cX12_say 5 = .ok (.ifCond .ne 6, 3) := by decide +kernel
theorem dX12_say_8 : decode cX12_say 8 = .ok (.bipush (-2), 2) := by decide +kernel
theorem dX12_say_10 : decode cX12_say 10 = .ok (.ireturn, 1) := by decide +kernel
theorem dX12_say_11 : decode cX12_say 11 = .ok (.aload_n 0, 1) := by decide +kernel
theorem dX12_say_12 : decode cX12_say 12 = .ok (.getfield 515, 3) := by decide +kernel
theorem dX12_say_15 : decode cX12_say 15 = .ok (.bipush 12, 2) := by decide +kernel
theorem dX12_say_17 : decode cX12_say 17 = .ok (.if_icmp .ne 6, 3) := by decide +kernel
theorem dX12_say_20 : decode cX12_say 20 = .ok (.bipush (-3), 2) := by decide +kernel
theorem dX12_say_22 : decode cX12_say 22 = .ok (.ireturn, 1) := by decide +kernel
theorem dX12_say_23 : decode cX12_say 23 = .ok (.aload_n 0, 1) := by decide +kernel
theorem dX12_say_24 : decode cX12_say 24 = .ok (.getfield 185, 3) := by decide +kernel
theorem dX12_say_27 : decode cX12_say 27 = .ok (.aload_n 0, 1) := by decide +kernel
theorem dX12_say_28 : decode cX12_say 28 = .ok (.getfield 515, 3) := by decide +kernel
theorem dX12_say_31 : decode cX12_say 31 = .ok (.iload_n 1, 1) := by decide +kernel
theorem dX12_say_32 : decode cX12_say 32 = .ok (.iastore, 1) := by decide +kernel
theorem dX12_say_33 : decode cX12_say 33 = .ok (.aload_n 0, 1) := by decide +kernel
theorem dX12_say_34 : decode cX12_say 34 = .ok (.dup, 1) := by decide +kernel
theorem dX12_say_35 : decode cX12_say 35 = .ok (.getfield 515, 3) := by decide +kernel
theorem dX12_say_38 : decode cX12_say 38 = .ok (.iconst 1, 1) := by decide +kernel
theorem dX12_say_39 : decode cX12_say 39 = .ok (.iadd, 1) := by decide +kernel
theorem dX12_say_40 : decode cX12_say 40 = .ok (.putfield 515, 3) := by decide +kernel
theorem dX12_say_43 : decode cX12_say 43 = .ok (.aload_n 0, 1) := by decide +kernel
theorem dX12_say_44 : decode cX12_say 44 = .ok (.iconst 0, 1) := by decide +kernel
theorem dX12_say_45 : decode cX12_say 45 = .ok (.putfield 347, 3) := by decide +kernel
theorem dX12_say_48 : decode cX12_say 48 = .ok (.aload_n 0, 1) := by decide +kernel
theorem dX12_say_49 : decode cX12_say 49 = .ok (.getfield 515, 3) := by decide +kernel
theorem dX12_say_52 : decode cX12_say 52 = .ok (.ireturn, 1) := by decide +kernel
abbrev rm_X12_say : Room := { frames := 2, cells := 0, slots := 0, locals := 43 }
def f_X12_say (x1 : Int32) (σ : St) : Option (Int32 × St) := bo (f_X12_isTerm x1 σ) (fun r1_ => (if r1_ = 0 then some ((-2), σ) else (if (σ.1 1085 0) = 12 then some ((-3), σ) else grd (ib (σ.1 1085 0) 12) (some ((σ.1 1085 0) + 1, (si (si (si σ 57 (σ.1 1085 0).toNatClampNeg x1) 1085 0 ((σ.1 1085 0) + 1)) 1086 0 0))))))
section
variable {p : Program} {l : Launch} {e : Env} {s : State} {m : MethodId} {args : Array Value} {below : List Frame} {meth : Method} {c : Code} {g : XG}
set_option maxRecDepth 4000 in
theorem m_X12_say (x1 : Int32) (σ : St) {r : Int32} {σ' : St} (h : f_X12_say x1 σ = some (r, σ')) : xM l KM g yX12_say cX12_say 2 (some .int) rm_X12_say [.ref (g.q 0), .int x1] σ (some (.int r)) σ' := by
  refine xmet pn_X12 rfl (Nat.le_of_ble_eq_true rfl) (lv := [(0, .ref (g.q 0)), (1, .int x1)]) rfl (fun p e s m args below meth c ls C hW hl => ?_)
  have hx := C.1
  have hb := C.2.1
  unfold f_X12_say at h
  refine lv_aload_n hx hb dX12_say_0 rfl (lv_at hl 0 rfl) ?_
  refine lv_iload_n hx hb dX12_say_1 rfl (lv_at hl 1 rfl) ?_
  obtain ⟨r1_, e1, h⟩ := xbo h
  refine xc_V (As := [.int x1]) (rest := []) C hW (m_X12_isTerm x1 _ e1) mf_X12_isTerm mv_X12_isTerm ml_X12_411 ⟨rfl, rfl⟩ ⟨Nat.le_of_ble_eq_true rfl, Nat.le_of_ble_eq_true rfl⟩ KM_0 rfl hl.1 rfl rfl (Nat.le_of_ble_eq_true rfl) dX12_say_2 (fun H locs hW => W.eq (g2 := F0 m 5 ls [.int r1_]) rfl ?_)
  refine lv_if_ne (tgt := 11) hx hb dX12_say_5 (by decide) (fun c2 => ?_) (fun c2 => ?_)
  · have h := xif c2 h
    refine lv_aload_n hx hb dX12_say_11 rfl (lv_at hl 0 rfl) ?_
    refine xg_i C hW fg_12_515 KM_0 rfl (v := 1085) rfl (x := σ.1 1085 0) rfl dX12_say_12 ?_
    refine lv_bipush (v := 12) hx hb dX12_say_15 rfl ?_
    refine lv_icmp_ne (tgt := 23) hx hb dX12_say_17 (by decide) (fun c3 => ?_) (fun c3 => ?_)
    · have h := xif c3 h
      refine lv_aload_n hx hb dX12_say_23 rfl (lv_at hl 0 rfl) ?_
      refine xg_r C hW fg_12_185 KM_0 rfl dX12_say_24 ?_
      refine lv_aload_n hx hb dX12_say_27 rfl (lv_at hl 0 rfl) ?_
      refine xg_i C hW fg_12_515 KM_0 rfl (v := 1085) rfl (x := σ.1 1085 0) rfl dX12_say_28 ?_
      refine lv_iload_n hx hb dX12_say_31 rfl (lv_at hl 1 rfl) ?_
      obtain ⟨g4, h⟩ := xgd h
      refine xs_i C hW KM_57 g4 dX12_say_32 (fun H locs hW => ?_)
      refine lv_aload_n hx hb dX12_say_33 rfl (lv_at hl 0 rfl) ?_
      refine lv_dup hx hb dX12_say_34 rfl ?_
      refine xg_i C hW fg_12_515 KM_0 rfl (v := 1085) rfl (x := σ.1 1085 0) rfl dX12_say_35 ?_
      refine lv_iconst (v := 1) hx hb dX12_say_38 rfl ?_
      refine lv_iadd hx hb dX12_say_39 ?_
      refine xp_i C hW fp_12_515 KM_0 rfl (v := 1085) rfl rfl rfl dX12_say_40 (fun H locs hW => ?_)
      refine lv_aload_n hx hb dX12_say_43 rfl (lv_at hl 0 rfl) ?_
      refine lv_iconst (v := 0) hx hb dX12_say_44 rfl ?_
      refine xp_i C hW fp_12_347 KM_0 rfl (v := 1086) rfl rfl rfl dX12_say_45 (fun H locs hW => ?_)
      refine lv_aload_n hx hb dX12_say_48 rfl (lv_at hl 0 rfl) ?_
      refine xg_i C hW fg_12_515 KM_0 rfl (v := 1085) rfl (x := (σ.1 1085 0) + 1) rfl dX12_say_49 ?_
      cases h
      exact xr_i C hW dX12_say_52
    · have h := xit c3 h
      refine lv_bipush (v := (-3)) hx hb dX12_say_20 rfl ?_
      cases h
      exact xr_i C hW dX12_say_22
  · have h := xit c2 h
    refine lv_bipush (v := (-2)) hx hb dX12_say_8 rfl ?_
    cases h
    exact xr_i C hW dX12_say_10
end
theorem dX12_makeFits_0 : decode cX12_makeFits 0 = .ok (.aload_n 0, 1) := by decide +kernel
theorem dX12_makeFits_1 : decode cX12_makeFits 1 = .ok (.getfield 515, 3) := by decide +kernel
theorem dX12_makeFits_4 : decode cX12_makeFits 4 = .ok (.ifCond .ne 6, 3) := by decide +kernel
theorem dX12_makeFits_7 : decode cX12_makeFits 7 = .ok (.bipush (-4), 2) := by decide +kernel
theorem dX12_makeFits_9 : decode cX12_makeFits 9 = .ok (.ireturn, 1) := by decide +kernel
theorem dX12_makeFits_10 : decode cX12_makeFits 10 = .ok (.iconst 0, 1) := by decide +kernel
theorem dX12_makeFits_11 : decode cX12_makeFits 11 = .ok (.istore_n 1, 1) := by decide +kernel
theorem dX12_makeFits_12 : decode cX12_makeFits 12 = .ok (.iconst 0, 1) := by decide +kernel
theorem dX12_makeFits_13 : decode cX12_makeFits 13 = .ok (.istore_n 2, 1) := by decide +kernel
theorem dX12_makeFits_14 : decode cX12_makeFits 14 = .ok (.iload_n 2, 1) := by decide +kernel
theorem dX12_makeFits_15 : decode cX12_makeFits 15 = .ok (.aload_n 0, 1) := by decide +kernel
theorem dX12_makeFits_16 : decode cX12_makeFits 16 = .ok (.getfield 515, 3) := by decide +kernel
theorem dX12_makeFits_19 : decode cX12_makeFits 19 = .ok (.if_icmp .ge 69, 3) := by decide +kernel
theorem dX12_makeFits_22 : decode cX12_makeFits 22 = .ok (.aload_n 0, 1) := by decide +kernel
theorem dX12_makeFits_23 : decode cX12_makeFits 23 = .ok (.iload_n 2, 1) := by decide +kernel
theorem dX12_makeFits_24 : decode cX12_makeFits 24 = .ok (.putfield 518, 3) := by decide +kernel
theorem dX12_makeFits_27 : decode cX12_makeFits 27 = .ok (.iconst 0, 1) := by decide +kernel
theorem dX12_makeFits_28 : decode cX12_makeFits 28 = .ok (.istore_n 3, 1) := by decide +kernel
theorem dX12_makeFits_29 : decode cX12_makeFits 29 = .ok (.iload_n 3, 1) := by decide +kernel
theorem dX12_makeFits_30 : decode cX12_makeFits 30 = .ok (.bipush 13, 2) := by decide +kernel
theorem dX12_makeFits_32 : decode cX12_makeFits 32 = .ok (.if_icmp .ge 21, 3) := by decide +kernel
theorem dX12_makeFits_35 : decode cX12_makeFits 35 = .ok (.aload_n 0, 1) := by decide +kernel
theorem dX12_makeFits_36 : decode cX12_makeFits 36 = .ok (.getfield 188, 3) := by decide +kernel
theorem dX12_makeFits_39 : decode cX12_makeFits 39 = .ok (.bipush 13, 2) := by decide +kernel
theorem dX12_makeFits_41 : decode cX12_makeFits 41 = .ok (.iload_n 2, 1) := by decide +kernel
theorem dX12_makeFits_42 : decode cX12_makeFits 42 = .ok (.imul, 1) := by decide +kernel
theorem dX12_makeFits_43 : decode cX12_makeFits 43 = .ok (.iload_n 3, 1) := by decide +kernel
theorem dX12_makeFits_44 : decode cX12_makeFits 44 = .ok (.iadd, 1) := by decide +kernel
theorem dX12_makeFits_45 : decode cX12_makeFits 45 = .ok (.iconst 0, 1) := by decide +kernel
theorem dX12_makeFits_46 : decode cX12_makeFits 46 = .ok (.iastore, 1) := by decide +kernel
theorem dX12_makeFits_47 : decode cX12_makeFits 47 = .ok (.iinc 3 1, 3) := by decide +kernel
theorem dX12_makeFits_50 : decode cX12_makeFits 50 = .ok (.goto (-21), 3) := by decide +kernel
theorem dX12_makeFits_53 : decode cX12_makeFits 53 = .ok (.aload_n 0, 1) := by decide +kernel
theorem dX12_makeFits_54 : decode cX12_makeFits 54 = .ok (.aload_n 0, 1) := by decide +kernel
theorem dX12_makeFits_55 : decode cX12_makeFits 55 = .ok (.getfield 185, 3) := by decide +kernel
theorem dX12_makeFits_58 : decode cX12_makeFits 58 = .ok (.iload_n 2, 1) := by decide +kernel
theorem dX12_makeFits_59 : decode cX12_makeFits 59 = .ok (.iaload, 1) := by decide +kernel
theorem dX12_makeFits_60 : decode cX12_makeFits 60 = .ok (.sipush 500, 3) := by decide +kernel
theorem dX12_makeFits_63 : decode cX12_makeFits 63 = .ok (.iconst 1, 1) := by decide +kernel
theorem dX12_makeFits_64 : decode cX12_makeFits 64 = .ok (.invokevirtual 469, 3) := by decide +kernel
theorem dX12_makeFits_67 : decode cX12_makeFits 67 = .ok (.bipush (-3), 2) := by decide +kernel
theorem dX12_makeFits_69 : decode cX12_makeFits 69 = .ok (.if_icmp .eq 7, 3) := by decide +kernel
theorem dX12_makeFits_72 : decode cX12_makeFits 72 = .ok (.iload_n 1, 1) := by decide +kernel
theorem dX12_makeFits_73 : decode cX12_makeFits 73 = .ok (.ifCond .eq 7, 3) := by decide +kernel
theorem dX12_makeFits_76 : decode cX12_makeFits 76 = .ok (.iconst 1, 1) := by decide +kernel
theorem dX12_makeFits_77 : decode cX12_makeFits 77 = .ok (.goto 4, 3) := by decide +kernel
theorem dX12_makeFits_80 : decode cX12_makeFits 80 = .ok (.iconst 0, 1) := by decide +kernel
theorem dX12_makeFits_81 : decode cX12_makeFits 81 = .ok (.istore_n 1, 1) := by decide +kernel
theorem dX12_makeFits_82 : decode cX12_makeFits 82 = .ok (.iinc 2 1, 3) := by decide +kernel
theorem dX12_makeFits_85 : decode cX12_makeFits 85 = .ok (.goto (-71), 3) := by decide +kernel
theorem dX12_makeFits_88 : decode cX12_makeFits 88 = .ok (.iload_n 1, 1) := by decide +kernel
theorem dX12_makeFits_89 : decode cX12_makeFits 89 = .ok (.ifCond .eq 6, 3) := by decide +kernel
theorem dX12_makeFits_92 : decode cX12_makeFits 92 = .ok (.bipush (-3), 2) := by decide +kernel
theorem dX12_makeFits_94 : decode cX12_makeFits 94 = .ok (.ireturn, 1) := by decide +kernel
theorem dX12_makeFits_95 : decode cX12_makeFits 95 = .ok (.aload_n 0, 1) := by decide +kernel
theorem dX12_makeFits_96 : decode cX12_makeFits 96 = .ok (.getfield 515, 3) := by decide +kernel
theorem dX12_makeFits_99 : decode cX12_makeFits 99 = .ok (.istore_n 2, 1) := by decide +kernel
theorem dX12_makeFits_100 : decode cX12_makeFits 100 = .ok (.iload_n 2, 1) := by decide +kernel
theorem dX12_makeFits_101 : decode cX12_makeFits 101 = .ok (.ifCond .lt 181, 3) := by decide +kernel
theorem dX12_makeFits_104 : decode cX12_makeFits 104 = .ok (.iconst 0, 1) := by decide +kernel
theorem dX12_makeFits_105 : decode cX12_makeFits 105 = .ok (.istore_n 3, 1) := by decide +kernel
theorem dX12_makeFits_106 : decode cX12_makeFits 106 = .ok (.iload_n 3, 1) := by decide +kernel
theorem dX12_makeFits_107 : decode cX12_makeFits 107 = .ok (.sipush 144, 3) := by decide +kernel
theorem dX12_makeFits_110 : decode cX12_makeFits 110 = .ok (.if_icmp .gt 166, 3) := by decide +kernel
theorem dX12_makeFits_113 : decode cX12_makeFits 113 = .ok (.sipush 145, 3) := by decide +kernel
theorem dX12_makeFits_116 : decode cX12_makeFits 116 = .ok (.iload_n 2, 1) := by decide +kernel
theorem dX12_makeFits_117 : decode cX12_makeFits 117 = .ok (.imul, 1) := by decide +kernel
theorem dX12_makeFits_118 : decode cX12_makeFits 118 = .ok (.iload_n 3, 1) := by decide +kernel
theorem dX12_makeFits_119 : decode cX12_makeFits 119 = .ok (.iadd, 1) := by decide +kernel
theorem dX12_makeFits_120 : decode cX12_makeFits 120 = .ok (.istore 4, 2) := by decide +kernel
theorem dX12_makeFits_122 : decode cX12_makeFits 122 = .ok (.aload_n 0, 1) := by decide +kernel
theorem dX12_makeFits_123 : decode cX12_makeFits 123 = .ok (.getfield 197, 3) := by decide +kernel
theorem dX12_makeFits_126 : decode cX12_makeFits 126 = .ok (.iload 4, 2) := by decide +kernel
theorem dX12_makeFits_128 : decode cX12_makeFits 128 = .ok (.iload_n 2, 1) := by decide +kernel
theorem dX12_makeFits_129 : decode cX12_makeFits 129 = .ok (.aload_n 0, 1) := by decide +kernel
theorem dX12_makeFits_130 : decode cX12_makeFits 130 = .ok (.getfield 515, 3) := by decide +kernel
theorem dX12_makeFits_133 : decode cX12_makeFits 133 = .ok (.if_icmp .ne 11, 3) := by decide +kernel
theorem dX12_makeFits_136 : decode cX12_makeFits 136 = .ok (.iload_n 3, 1) := by decide +kernel
theorem dX12_makeFits_137 : decode cX12_makeFits 137 = .ok (.ifCond .ne 7, 3) := by decide +kernel
theorem dX12_makeFits_140 : decode cX12_makeFits 140 = .ok (.iconst 0, 1) := by decide +kernel
theorem dX12_makeFits_141 : decode cX12_makeFits 141 = .ok (.goto 6, 3) := by decide +kernel
theorem dX12_makeFits_144 : decode cX12_makeFits 144 = .ok (.ldc_w 435, 3) := by decide +kernel
theorem dX12_makeFits_147 : decode cX12_makeFits 147 = .ok (.iastore, 1) := by decide +kernel
theorem dX12_makeFits_148 : decode cX12_makeFits 148 = .ok (.iconst 1, 1) := by decide +kernel
theorem dX12_makeFits_149 : decode cX12_makeFits 149 = .ok (.istore 5, 2) := by decide +kernel
theorem dX12_makeFits_151 : decode cX12_makeFits 151 = .ok (.iload 5, 2) := by decide +kernel
theorem dX12_makeFits_153 : decode cX12_makeFits 153 = .ok (.bipush 12, 2) := by decide +kernel
theorem dX12_makeFits_155 : decode cX12_makeFits 155 = .ok (.if_icmp .gt 115, 3) := by decide +kernel
theorem dX12_makeFits_158 : decode cX12_makeFits 158 = .ok (.iload 5, 2) := by decide +kernel
theorem dX12_makeFits_160 : decode cX12_makeFits 160 = .ok (.iload_n 3, 1) := by decide +kernel
theorem dX12_makeFits_161 : decode cX12_makeFits 161 = .ok (.if_icmp .gt 109, 3) := by decide +kernel
theorem dX12_makeFits_164 : decode cX12_makeFits 164 = .ok (.iload_n 2, 1) := by decide +kernel
theorem dX12_makeFits_165 : decode cX12_makeFits 165 = .ok (.aload_n 0, 1) := by decide +kernel
theorem dX12_makeFits_166 : decode cX12_makeFits 166 = .ok (.getfield 515, 3) := by decide +kernel
theorem dX12_makeFits_169 : decode cX12_makeFits 169 = .ok (.if_icmp .ge 101, 3) := by decide +kernel
theorem dX12_makeFits_172 : decode cX12_makeFits 172 = .ok (.aload_n 0, 1) := by decide +kernel
theorem dX12_makeFits_173 : decode cX12_makeFits 173 = .ok (.getfield 197, 3) := by decide +kernel
theorem dX12_makeFits_176 : decode cX12_makeFits 176 = .ok (.sipush 145, 3) := by decide +kernel
theorem dX12_makeFits_179 : decode cX12_makeFits 179 = .ok (.iload_n 2, 1) := by decide +kernel
theorem dX12_makeFits_180 : decode cX12_makeFits 180 = .ok (.iconst 1, 1) := by decide +kernel
theorem dX12_makeFits_181 : decode cX12_makeFits 181 = .ok (.iadd, 1) := by decide +kernel
theorem dX12_makeFits_182 : decode cX12_makeFits 182 = .ok (.imul, 1) := by decide +kernel
theorem dX12_makeFits_183 : decode cX12_makeFits 183 = .ok (.iload_n 3, 1) := by decide +kernel
theorem dX12_makeFits_184 : decode cX12_makeFits 184 = .ok (.iadd, 1) := by decide +kernel
theorem dX12_makeFits_185 : decode cX12_makeFits 185 = .ok (.iload 5, 2) := by decide +kernel
theorem dX12_makeFits_187 : decode cX12_makeFits 187 = .ok (.isub, 1) := by decide +kernel
theorem dX12_makeFits_188 : decode cX12_makeFits 188 = .ok (.iaload, 1) := by decide +kernel
theorem dX12_makeFits_189 : decode cX12_makeFits 189 = .ok (.istore 6, 2) := by decide +kernel
theorem dX12_makeFits_191 : decode cX12_makeFits 191 = .ok (.aload_n 0, 1) := by decide +kernel
theorem dX12_makeFits_192 : decode cX12_makeFits 192 = .ok (.getfield 188, 3) := by decide +kernel
theorem dX12_makeFits_195 : decode cX12_makeFits 195 = .ok (.bipush 13, 2) := by decide +kernel
theorem dX12_makeFits_197 : decode cX12_makeFits 197 = .ok (.iload_n 2, 1) := by decide +kernel
theorem dX12_makeFits_198 : decode cX12_makeFits 198 = .ok (.imul, 1) := by decide +kernel
theorem dX12_makeFits_199 : decode cX12_makeFits 199 = .ok (.iload 5, 2) := by decide +kernel
theorem dX12_makeFits_201 : decode cX12_makeFits 201 = .ok (.iadd, 1) := by decide +kernel
theorem dX12_makeFits_202 : decode cX12_makeFits 202 = .ok (.iaload, 1) := by decide +kernel
theorem dX12_makeFits_203 : decode cX12_makeFits 203 = .ok (.ifCond .eq 61, 3) := by decide +kernel
theorem dX12_makeFits_206 : decode cX12_makeFits 206 = .ok (.iload 6, 2) := by decide +kernel
theorem dX12_makeFits_208 : decode cX12_makeFits 208 = .ok (.ldc_w 435, 3) := by decide +kernel
theorem dX12_makeFits_211 : decode cX12_makeFits 211 = .ok (.if_icmp .ge 53, 3) := by decide +kernel
theorem dX12_makeFits_214 : decode cX12_makeFits 214 = .ok (.aload_n 0, 1) := by decide +kernel
theorem dX12_makeFits_215 : decode cX12_makeFits 215 = .ok (.getfield 188, 3) := by decide +kernel
theorem dX12_makeFits_218 : decode cX12_makeFits 218 = .ok (.bipush 13, 2) := by decide +kernel
theorem dX12_makeFits_220 : decode cX12_makeFits 220 = .ok (.iload_n 2, 1) := by decide +kernel
theorem dX12_makeFits_221 : decode cX12_makeFits 221 = .ok (.imul, 1) := by decide +kernel
theorem dX12_makeFits_222 : decode cX12_makeFits 222 = .ok (.iload 5, 2) := by decide +kernel
theorem dX12_makeFits_224 : decode cX12_makeFits 224 = .ok (.iadd, 1) := by decide +kernel
theorem dX12_makeFits_225 : decode cX12_makeFits 225 = .ok (.iaload, 1) := by decide +kernel
theorem dX12_makeFits_226 : decode cX12_makeFits 226 = .ok (.iload 6, 2) := by decide +kernel
theorem dX12_makeFits_228 : decode cX12_makeFits 228 = .ok (.iadd, 1) := by decide +kernel
theorem dX12_makeFits_229 : decode cX12_makeFits 229 = .ok (.aload_n 0, 1) := by decide +kernel
theorem dX12_makeFits_230 : decode cX12_makeFits 230 = .ok (.getfield 197, 3) := by decide +kernel
theorem dX12_makeFits_233 : decode cX12_makeFits 233 = .ok (.iload 4, 2) := by decide +kernel
theorem dX12_makeFits_235 : decode cX12_makeFits 235 = .ok (.iaload, 1) := by decide +kernel
theorem dX12_makeFits_236 : decode cX12_makeFits 236 = .ok (.if_icmp .lt 6, 3) := by decide +kernel
theorem dX12_makeFits_239 : decode cX12_makeFits 239 = .ok (.goto 25, 3) := by decide +kernel
theorem dX12_makeFits_242 : decode cX12_makeFits 242 = .ok (.aload_n 0, 1) := by decide +kernel
theorem dX12_makeFits_243 : decode cX12_makeFits 243 = .ok (.getfield 197, 3) := by decide +kernel
theorem dX12_makeFits_246 : decode cX12_makeFits 246 = .ok (.iload 4, 2) := by decide +kernel
theorem dX12_makeFits_248 : decode cX12_makeFits 248 = .ok (.aload_n 0, 1) := by decide +kernel
theorem dX12_makeFits_249 : decode cX12_makeFits 249 = .ok (.getfield 188, 3) := by decide +kernel
theorem dX12_makeFits_252 : decode cX12_makeFits 252 = .ok (.bipush 13, 2) := by decide +kernel
theorem dX12_makeFits_254 : decode cX12_makeFits 254 = .ok (.iload_n 2, 1) := by decide +kernel
theorem dX12_makeFits_255 : decode cX12_makeFits 255 = .ok (.imul, 1) := by decide +kernel
theorem dX12_makeFits_256 : decode cX12_makeFits 256 = .ok (.iload 5, 2) := by decide +kernel
theorem dX12_makeFits_258 : decode cX12_makeFits 258 = .ok (.iadd, 1) := by decide +kernel
theorem dX12_makeFits_259 : decode cX12_makeFits 259 = .ok (.iaload, 1) := by decide +kernel
theorem dX12_makeFits_260 : decode cX12_makeFits 260 = .ok (.iload 6, 2) := by decide +kernel
theorem dX12_makeFits_262 : decode cX12_makeFits 262 = .ok (.iadd, 1) := by decide +kernel
theorem dX12_makeFits_263 : decode cX12_makeFits 263 = .ok (.iastore, 1) := by decide +kernel
theorem dX12_makeFits_264 : decode cX12_makeFits 264 = .ok (.iinc 5 1, 3) := by decide +kernel
theorem dX12_makeFits_267 : decode cX12_makeFits 267 = .ok (.goto (-116), 3) := by decide +kernel
theorem dX12_makeFits_270 : decode cX12_makeFits 270 = .ok (.iinc 3 1, 3) := by decide +kernel
theorem dX12_makeFits_273 : decode cX12_makeFits 273 = .ok (.goto (-167), 3) := by decide +kernel
theorem dX12_makeFits_276 : decode cX12_makeFits 276 = .ok (.iinc 2 (-1), 3) := by decide +kernel
theorem dX12_makeFits_279 : decode cX12_makeFits 279 = .ok (.goto (-179), 3) := by decide +kernel
theorem dX12_makeFits_282 : decode cX12_makeFits 282 = .ok (.iconst 0, 1) := by decide +kernel
theorem dX12_makeFits_283 : decode cX12_makeFits 283 = .ok (.ireturn, 1) := by decide +kernel
abbrev rm_X12_makeFits : Room := { frames := 30, cells := 0, slots := 0, locals := 758 }
def f_X12_makeFits_76 (N : Nat) (k14 : Int32 → Int32 → St → Option (Int32 × St)) (x2 : Int32) (σ : St) : Option (Int32 × St) := k14 1 (x2 + 1) σ
def f_X12_makeFits_29 (N : Nat) (k14 : Int32 → Int32 → St → Option (Int32 × St)) : Nat → Int32 → Int32 → Int32 → St → Option (Int32 × St)
  | 0, _, _, _, _ => none
  | n + 1, x1, x2, x3, σ => (if 13 ≤ x3 then grd (ib x2 12) (bd (f_X12_goThrough N (σ.1 57 x2.toNatClampNeg) 500 1 σ) (fun r6_ σ6 => (if r6_ = ((-3)) then f_X12_makeFits_76 N k14 x2 σ6 else (if x1 = 0 then k14 0 (x2 + 1) σ6 else f_X12_makeFits_76 N k14 x2 σ6)))) else grd (ib ((13 * x2) + x3) 156) (f_X12_makeFits_29 N k14 n x1 x2 (x3 + 1) (si σ 58 ((13 * x2) + x3).toNatClampNeg 0)))
def f_X12_makeFits_151 (N : Nat) (k100 : Int32 → St → Option (Int32 × St)) (k106 : Int32 → Int32 → St → Option (Int32 × St)) : Nat → Int32 → Int32 → Int32 → Int32 → St → Option (Int32 × St)
  | 0, _, _, _, _, _ => none
  | n + 1, x2, x3, x4, x5, σ => (if 12 < x5 then k106 x2 (x3 + 1) σ else (if x3 < x5 then k106 x2 (x3 + 1) σ else (if (σ.1 1085 0) ≤ x2 then k106 x2 (x3 + 1) σ else grd (ib (((145 * (x2 + 1)) + x3) - x5) 1885) (grd (ib ((13 * x2) + x5) 156) ((if (σ.1 58 ((13 * x2) + x5).toNatClampNeg) = 0 then f_X12_makeFits_151 N k100 k106 n x2 x3 x4 (x5 + 1) σ else (if 1000000000 ≤ (σ.1 61 (((145 * (x2 + 1)) + x3) - x5).toNatClampNeg) then f_X12_makeFits_151 N k100 k106 n x2 x3 x4 (x5 + 1) σ else grd (ib ((13 * x2) + x5) 156) (grd (ib x4 1885) ((if ((σ.1 58 ((13 * x2) + x5).toNatClampNeg) + (σ.1 61 (((145 * (x2 + 1)) + x3) - x5).toNatClampNeg)) < (σ.1 61 x4.toNatClampNeg) then grd (ib ((13 * x2) + x5) 156) (grd (ib x4 1885) (f_X12_makeFits_151 N k100 k106 n x2 x3 x4 (x5 + 1) (si σ 61 x4.toNatClampNeg ((σ.1 58 ((13 * x2) + x5).toNatClampNeg) + (σ.1 61 (((145 * (x2 + 1)) + x3) - x5).toNatClampNeg))))) else f_X12_makeFits_151 N k100 k106 n x2 x3 x4 (x5 + 1) σ))))))))))
def f_X12_makeFits_147 (N : Nat) (k100 : Int32 → St → Option (Int32 × St)) (k106 : Int32 → Int32 → St → Option (Int32 × St)) (x2 : Int32) (x3 : Int32) (x4 : Int32) (t1 : Int32) (t2 : Int32) (σ : St) : Option (Int32 × St) := grd (ib t1 1885) (f_X12_makeFits_151 N k100 k106 N x2 x3 x4 1 (si σ 61 t1.toNatClampNeg t2))
def f_X12_makeFits_106 (N : Nat) (k100 : Int32 → St → Option (Int32 × St)) : Nat → Int32 → Int32 → St → Option (Int32 × St)
  | 0, _, _, _ => none
  | n + 1, x2, x3, σ => (if 144 < x3 then k100 (x2 + (-1)) σ else (if x2 = (σ.1 1085 0) then (if x3 = 0 then f_X12_makeFits_147 N k100 (f_X12_makeFits_106 N k100 n) x2 x3 ((145 * x2) + x3) ((145 * x2) + x3) 0 σ else f_X12_makeFits_147 N k100 (f_X12_makeFits_106 N k100 n) x2 x3 ((145 * x2) + x3) ((145 * x2) + x3) 1000000000 σ) else f_X12_makeFits_147 N k100 (f_X12_makeFits_106 N k100 n) x2 x3 ((145 * x2) + x3) ((145 * x2) + x3) 1000000000 σ))
def f_X12_makeFits_100 (N : Nat) : Nat → Int32 → St → Option (Int32 × St)
  | 0, _, _ => none
  | n + 1, x2, σ => (if x2 < 0 then some (0, σ) else f_X12_makeFits_106 N (f_X12_makeFits_100 N n) N x2 0 σ)
def f_X12_makeFits_14 (N : Nat) : Nat → Int32 → Int32 → St → Option (Int32 × St)
  | 0, _, _, _ => none
  | n + 1, x1, x2, σ => (if (σ.1 1085 0) ≤ x2 then (if x1 = 0 then f_X12_makeFits_100 N N (σ.1 1085 0) σ else some ((-3), σ)) else f_X12_makeFits_29 N (f_X12_makeFits_14 N n) N x1 x2 0 (si σ 1091 0 x2))
def f_X12_makeFits (N : Nat) (σ : St) : Option (Int32 × St) := (if (σ.1 1085 0) = 0 then some ((-4), σ) else f_X12_makeFits_14 N N 0 0 σ)
section
variable {p : Program} {l : Launch} {e : Env} {s : State} {m : MethodId} {args : Array Value} {below : List Frame} {meth : Method} {c : Code} {g : XG}
set_option maxRecDepth 4000 in
theorem w_X12_makeFits_76 (N : Nat) (k14 : Int32 → Int32 → St → Option (Int32 × St)) {r : Int32} {σ' : St} (C : xC KM g RX12 cX12_makeFits 7 (some .int) p s m args meth c) (hk14 : ∀ (x1 : Int32) (x2 : Int32) (σ : St) (H : Heap) (locs : List Loc) (ls : Array Slot), xW KM g s σ H locs → lv_has ls 7 [(0, .ref (g.q 0)), (1, .int x1), (2, .int x2)] → k14 x1 x2 σ = some (r, σ') → W p l e rm_X12_makeFits s m args below meth c H locs 0 0 (MQ below (xPost KM g (some (.int r)) σ') args s 0 0 (xA KM g.q)) (F0 m 14 ls [])) : ∀ (x2 : Int32) (σ : St) (H : Heap) (locs : List Loc) (ls : Array Slot), xW KM g s σ H locs → lv_has ls 7 [(0, .ref (g.q 0)), (2, .int x2)] → f_X12_makeFits_76 N k14 x2 σ = some (r, σ') → W p l e rm_X12_makeFits s m args below meth c H locs 0 0 (MQ below (xPost KM g (some (.int r)) σ') args s 0 0 (xA KM g.q)) (F0 m 76 ls []) := by
  have hx := C.1
  have hb := C.2.1
  intro x2 σ H locs ls hW hl h
  unfold f_X12_makeFits_76 at h
  refine lv_iconst (v := 1) hx hb dX12_makeFits_76 rfl ?_
  refine lv_goto (tgt := 81) hx hb dX12_makeFits_77 (by decide) ?_
  refine lv_istore_n (lv' := [(1, .int 1), (0, .ref (g.q 0)), (2, .int x2)]) hx hb dX12_makeFits_81 rfl hl (Nat.le_of_ble_eq_true rfl) rfl (fun ls hl => ?_)
  refine lv_iinc (v := x2 + 1) (lv' := [(2, .int (x2 + 1)), (1, .int 1), (0, .ref (g.q 0))]) hx hb dX12_makeFits_82 hl (k := 2) rfl rfl (Nat.le_of_ble_eq_true rfl) rfl (fun ls hl => ?_)
  refine lv_goto (tgt := 14) hx hb dX12_makeFits_85 (by decide) ?_
  exact hk14 1 (x2 + 1) _ _ _ _ hW (lv_sub hl [2, 1, 0] rfl) h
set_option maxRecDepth 4000 in
theorem w_X12_makeFits_29 (N : Nat) (k14 : Int32 → Int32 → St → Option (Int32 × St)) {r : Int32} {σ' : St} (C : xC KM g RX12 cX12_makeFits 7 (some .int) p s m args meth c) (hk14 : ∀ (x1 : Int32) (x2 : Int32) (σ : St) (H : Heap) (locs : List Loc) (ls : Array Slot), xW KM g s σ H locs → lv_has ls 7 [(0, .ref (g.q 0)), (1, .int x1), (2, .int x2)] → k14 x1 x2 σ = some (r, σ') → W p l e rm_X12_makeFits s m args below meth c H locs 0 0 (MQ below (xPost KM g (some (.int r)) σ') args s 0 0 (xA KM g.q)) (F0 m 14 ls [])) : ∀ (n : Nat), ∀ (x1 : Int32) (x2 : Int32) (x3 : Int32) (σ : St) (H : Heap) (locs : List Loc) (ls : Array Slot), xW KM g s σ H locs → lv_has ls 7 [(0, .ref (g.q 0)), (1, .int x1), (2, .int x2), (3, .int x3)] → f_X12_makeFits_29 N k14 n x1 x2 x3 σ = some (r, σ') → W p l e rm_X12_makeFits s m args below meth c H locs 0 0 (MQ below (xPost KM g (some (.int r)) σ') args s 0 0 (xA KM g.q)) (F0 m 29 ls []) := by
  have hx := C.1
  have hb := C.2.1
  intro n
  induction n with
  | zero => intro x1 x2 x3 σ H locs ls hW hl h; rw [f_X12_makeFits_29] at h; cases h
  | succ n ih =>
    intro x1 x2 x3 σ H locs ls hW hl h
    rw [f_X12_makeFits_29] at h
    refine lv_iload_n hx hb dX12_makeFits_29 rfl (lv_at hl 3 rfl) ?_
    refine lv_bipush (v := 13) hx hb dX12_makeFits_30 rfl ?_
    refine lv_icmp_ge (tgt := 53) hx hb dX12_makeFits_32 (by decide) (fun c4 => ?_) (fun c4 => ?_)
    · have h := xit c4 h
      refine lv_aload_n hx hb dX12_makeFits_53 rfl (lv_at hl 0 rfl) ?_
      refine lv_aload_n hx hb dX12_makeFits_54 rfl (lv_at hl 0 rfl) ?_
      refine xg_r C hW fg_12_185 KM_0 rfl dX12_makeFits_55 ?_
      refine lv_iload_n hx hb dX12_makeFits_58 rfl (lv_at hl 2 rfl) ?_
      obtain ⟨g5, h⟩ := xgd h
      refine xa_i C hW KM_57 g5 (x := σ.1 57 x2.toNatClampNeg) rfl dX12_makeFits_59 ?_
      refine lv_sipush (v := 500) hx hb dX12_makeFits_60 rfl ?_
      refine lv_iconst (v := 1) hx hb dX12_makeFits_63 rfl ?_
      obtain ⟨r6_, σ6, e6, h⟩ := xbd h
      refine xc_V (As := [.int (σ.1 57 x2.toNatClampNeg), .int 500, .int 1]) (rest := []) C hW (m_X12_goThrough N (σ.1 57 x2.toNatClampNeg) 500 1 _ e6) mf_X12_goThrough mv_X12_goThrough ml_X12_469 ⟨rfl, rfl⟩ ⟨Nat.le_of_ble_eq_true rfl, Nat.le_of_ble_eq_true rfl⟩ KM_0 rfl hl.1 rfl rfl (Nat.le_of_ble_eq_true rfl) dX12_makeFits_64 (fun H locs hW => W.eq (g2 := F0 m 67 ls [.int r6_]) rfl ?_)
      refine lv_bipush (v := (-3)) hx hb dX12_makeFits_67 rfl ?_
      refine lv_icmp_eq (tgt := 76) hx hb dX12_makeFits_69 (by decide) (fun c7 => ?_) (fun c7 => ?_)
      · have h := xit c7 h
        exact w_X12_makeFits_76 N k14 C hk14 x2 _ _ _ _ hW (lv_sub hl [0, 2] rfl) h
      · have h := xif c7 h
        refine lv_iload_n hx hb dX12_makeFits_72 rfl (lv_at hl 1 rfl) ?_
        refine lv_if_eq (tgt := 80) hx hb dX12_makeFits_73 (by decide) (fun c8 => ?_) (fun c8 => ?_)
        · have h := xit c8 h
          refine lv_iconst (v := 0) hx hb dX12_makeFits_80 rfl ?_
          refine lv_istore_n (lv' := [(1, .int 0), (0, .ref (g.q 0)), (2, .int x2), (3, .int x3)]) hx hb dX12_makeFits_81 rfl hl (Nat.le_of_ble_eq_true rfl) rfl (fun ls hl => ?_)
          refine lv_iinc (v := x2 + 1) (lv' := [(2, .int (x2 + 1)), (1, .int 0), (0, .ref (g.q 0)), (3, .int x3)]) hx hb dX12_makeFits_82 hl (k := 2) rfl rfl (Nat.le_of_ble_eq_true rfl) rfl (fun ls hl => ?_)
          refine lv_goto (tgt := 14) hx hb dX12_makeFits_85 (by decide) ?_
          exact hk14 0 (x2 + 1) _ _ _ _ hW (lv_sub hl [2, 1, 0] rfl) h
        · have h := xif c8 h
          exact w_X12_makeFits_76 N k14 C hk14 x2 _ _ _ _ hW (lv_sub hl [0, 2] rfl) h
    · have h := xif c4 h
      refine lv_aload_n hx hb dX12_makeFits_35 rfl (lv_at hl 0 rfl) ?_
      refine xg_r C hW fg_12_188 KM_0 rfl dX12_makeFits_36 ?_
      refine lv_bipush (v := 13) hx hb dX12_makeFits_39 rfl ?_
      refine lv_iload_n hx hb dX12_makeFits_41 rfl (lv_at hl 2 rfl) ?_
      refine lv_imul hx hb dX12_makeFits_42 ?_
      refine lv_iload_n hx hb dX12_makeFits_43 rfl (lv_at hl 3 rfl) ?_
      refine lv_iadd hx hb dX12_makeFits_44 ?_
      refine lv_iconst (v := 0) hx hb dX12_makeFits_45 rfl ?_
      obtain ⟨g9, h⟩ := xgd h
      refine xs_i C hW KM_58 g9 dX12_makeFits_46 (fun H locs hW => ?_)
      refine lv_iinc (v := x3 + 1) (lv' := [(3, .int (x3 + 1)), (0, .ref (g.q 0)), (1, .int x1), (2, .int x2)]) hx hb dX12_makeFits_47 hl (k := 3) rfl rfl (Nat.le_of_ble_eq_true rfl) rfl (fun ls hl => ?_)
      refine lv_goto (tgt := 29) hx hb dX12_makeFits_50 (by decide) ?_
      exact ih x1 x2 (x3 + 1) _ _ _ _ hW (lv_sub hl [1, 2, 3, 0] rfl) h
set_option maxRecDepth 4000 in
theorem w_X12_makeFits_151 (N : Nat) (k100 : Int32 → St → Option (Int32 × St)) (k106 : Int32 → Int32 → St → Option (Int32 × St)) {r : Int32} {σ' : St} (C : xC KM g RX12 cX12_makeFits 7 (some .int) p s m args meth c) (hk100 : ∀ (x2 : Int32) (σ : St) (H : Heap) (locs : List Loc) (ls : Array Slot), xW KM g s σ H locs → lv_has ls 7 [(0, .ref (g.q 0)), (2, .int x2)] → k100 x2 σ = some (r, σ') → W p l e rm_X12_makeFits s m args below meth c H locs 0 0 (MQ below (xPost KM g (some (.int r)) σ') args s 0 0 (xA KM g.q)) (F0 m 100 ls [])) (hk106 : ∀ (x2 : Int32) (x3 : Int32) (σ : St) (H : Heap) (locs : List Loc) (ls : Array Slot), xW KM g s σ H locs → lv_has ls 7 [(0, .ref (g.q 0)), (2, .int x2), (3, .int x3)] → k106 x2 x3 σ = some (r, σ') → W p l e rm_X12_makeFits s m args below meth c H locs 0 0 (MQ below (xPost KM g (some (.int r)) σ') args s 0 0 (xA KM g.q)) (F0 m 106 ls [])) : ∀ (n : Nat), ∀ (x2 : Int32) (x3 : Int32) (x4 : Int32) (x5 : Int32) (σ : St) (H : Heap) (locs : List Loc) (ls : Array Slot), xW KM g s σ H locs → lv_has ls 7 [(0, .ref (g.q 0)), (2, .int x2), (3, .int x3), (4, .int x4), (5, .int x5)] → f_X12_makeFits_151 N k100 k106 n x2 x3 x4 x5 σ = some (r, σ') → W p l e rm_X12_makeFits s m args below meth c H locs 0 0 (MQ below (xPost KM g (some (.int r)) σ') args s 0 0 (xA KM g.q)) (F0 m 151 ls []) := by
  have hx := C.1
  have hb := C.2.1
  intro n
  induction n with
  | zero => intro x2 x3 x4 x5 σ H locs ls hW hl h; rw [f_X12_makeFits_151] at h; cases h
  | succ n ih =>
    intro x2 x3 x4 x5 σ H locs ls hW hl h
    rw [f_X12_makeFits_151] at h
    refine lv_iload hx hb dX12_makeFits_151 (lv_at hl 4 rfl) ?_
    refine lv_bipush (v := 12) hx hb dX12_makeFits_153 rfl ?_
    refine lv_icmp_gt (tgt := 270) hx hb dX12_makeFits_155 (by decide) (fun c15 => ?_) (fun c15 => ?_)
    · have h := xit c15 h
      refine lv_iinc (v := x3 + 1) (lv' := [(3, .int (x3 + 1)), (0, .ref (g.q 0)), (2, .int x2), (4, .int x4), (5, .int x5)]) hx hb dX12_makeFits_270 hl (k := 2) rfl rfl (Nat.le_of_ble_eq_true rfl) rfl (fun ls hl => ?_)
      refine lv_goto (tgt := 106) hx hb dX12_makeFits_273 (by decide) ?_
      exact hk106 x2 (x3 + 1) _ _ _ _ hW (lv_sub hl [1, 2, 0] rfl) h
    · have h := xif c15 h
      refine lv_iload hx hb dX12_makeFits_158 (lv_at hl 4 rfl) ?_
      refine lv_iload_n hx hb dX12_makeFits_160 rfl (lv_at hl 2 rfl) ?_
      refine lv_icmp_gt (tgt := 270) hx hb dX12_makeFits_161 (by decide) (fun c16 => ?_) (fun c16 => ?_)
      · have h := xit c16 h
        refine lv_iinc (v := x3 + 1) (lv' := [(3, .int (x3 + 1)), (0, .ref (g.q 0)), (2, .int x2), (4, .int x4), (5, .int x5)]) hx hb dX12_makeFits_270 hl (k := 2) rfl rfl (Nat.le_of_ble_eq_true rfl) rfl (fun ls hl => ?_)
        refine lv_goto (tgt := 106) hx hb dX12_makeFits_273 (by decide) ?_
        exact hk106 x2 (x3 + 1) _ _ _ _ hW (lv_sub hl [1, 2, 0] rfl) h
      · have h := xif c16 h
        refine lv_iload_n hx hb dX12_makeFits_164 rfl (lv_at hl 1 rfl) ?_
        refine lv_aload_n hx hb dX12_makeFits_165 rfl (lv_at hl 0 rfl) ?_
        refine xg_i C hW fg_12_515 KM_0 rfl (v := 1085) rfl (x := σ.1 1085 0) rfl dX12_makeFits_166 ?_
        refine lv_icmp_ge (tgt := 270) hx hb dX12_makeFits_169 (by decide) (fun c17 => ?_) (fun c17 => ?_)
        · have h := xit c17 h
          refine lv_iinc (v := x3 + 1) (lv' := [(3, .int (x3 + 1)), (0, .ref (g.q 0)), (2, .int x2), (4, .int x4), (5, .int x5)]) hx hb dX12_makeFits_270 hl (k := 2) rfl rfl (Nat.le_of_ble_eq_true rfl) rfl (fun ls hl => ?_)
          refine lv_goto (tgt := 106) hx hb dX12_makeFits_273 (by decide) ?_
          exact hk106 x2 (x3 + 1) _ _ _ _ hW (lv_sub hl [1, 2, 0] rfl) h
        · have h := xif c17 h
          refine lv_aload_n hx hb dX12_makeFits_172 rfl (lv_at hl 0 rfl) ?_
          refine xg_r C hW fg_12_197 KM_0 rfl dX12_makeFits_173 ?_
          refine lv_sipush (v := 145) hx hb dX12_makeFits_176 rfl ?_
          refine lv_iload_n hx hb dX12_makeFits_179 rfl (lv_at hl 1 rfl) ?_
          refine lv_iconst (v := 1) hx hb dX12_makeFits_180 rfl ?_
          refine lv_iadd hx hb dX12_makeFits_181 ?_
          refine lv_imul hx hb dX12_makeFits_182 ?_
          refine lv_iload_n hx hb dX12_makeFits_183 rfl (lv_at hl 2 rfl) ?_
          refine lv_iadd hx hb dX12_makeFits_184 ?_
          refine lv_iload hx hb dX12_makeFits_185 (lv_at hl 4 rfl) ?_
          refine lv_isub hx hb dX12_makeFits_187 ?_
          obtain ⟨g18, h⟩ := xgd h
          refine xa_i C hW KM_61 g18 (x := σ.1 61 (((145 * (x2 + 1)) + x3) - x5).toNatClampNeg) rfl dX12_makeFits_188 ?_
          refine lv_istore (lv' := [(6, .int (σ.1 61 (((145 * (x2 + 1)) + x3) - x5).toNatClampNeg)), (0, .ref (g.q 0)), (2, .int x2), (3, .int x3), (4, .int x4), (5, .int x5)]) hx hb dX12_makeFits_189 hl (Nat.le_of_ble_eq_true rfl) rfl (fun ls hl => ?_)
          refine lv_aload_n hx hb dX12_makeFits_191 rfl (lv_at hl 1 rfl) ?_
          refine xg_r C hW fg_12_188 KM_0 rfl dX12_makeFits_192 ?_
          refine lv_bipush (v := 13) hx hb dX12_makeFits_195 rfl ?_
          refine lv_iload_n hx hb dX12_makeFits_197 rfl (lv_at hl 2 rfl) ?_
          refine lv_imul hx hb dX12_makeFits_198 ?_
          refine lv_iload hx hb dX12_makeFits_199 (lv_at hl 5 rfl) ?_
          refine lv_iadd hx hb dX12_makeFits_201 ?_
          obtain ⟨g19, h⟩ := xgd h
          refine xa_i C hW KM_58 g19 (x := σ.1 58 ((13 * x2) + x5).toNatClampNeg) rfl dX12_makeFits_202 ?_
          refine lv_if_eq (tgt := 264) hx hb dX12_makeFits_203 (by decide) (fun c20 => ?_) (fun c20 => ?_)
          · have h := xit c20 h
            refine lv_iinc (v := x5 + 1) (lv' := [(5, .int (x5 + 1)), (6, .int (σ.1 61 (((145 * (x2 + 1)) + x3) - x5).toNatClampNeg)), (0, .ref (g.q 0)), (2, .int x2), (3, .int x3), (4, .int x4)]) hx hb dX12_makeFits_264 hl (k := 5) rfl rfl (Nat.le_of_ble_eq_true rfl) rfl (fun ls hl => ?_)
            refine lv_goto (tgt := 151) hx hb dX12_makeFits_267 (by decide) ?_
            exact ih x2 x3 x4 (x5 + 1) _ _ _ _ hW (lv_sub hl [2, 3, 4, 5, 0] rfl) h
          · have h := xif c20 h
            refine lv_iload hx hb dX12_makeFits_206 (lv_at hl 0 rfl) ?_
            refine lv_ldcw (v := 1000000000) hx hb C.ow (C.hts _ kc_X12_435) dX12_makeFits_208 ?_
            refine lv_icmp_ge (tgt := 264) hx hb dX12_makeFits_211 (by decide) (fun c21 => ?_) (fun c21 => ?_)
            · have h := xit c21 h
              refine lv_iinc (v := x5 + 1) (lv' := [(5, .int (x5 + 1)), (6, .int (σ.1 61 (((145 * (x2 + 1)) + x3) - x5).toNatClampNeg)), (0, .ref (g.q 0)), (2, .int x2), (3, .int x3), (4, .int x4)]) hx hb dX12_makeFits_264 hl (k := 5) rfl rfl (Nat.le_of_ble_eq_true rfl) rfl (fun ls hl => ?_)
              refine lv_goto (tgt := 151) hx hb dX12_makeFits_267 (by decide) ?_
              exact ih x2 x3 x4 (x5 + 1) _ _ _ _ hW (lv_sub hl [2, 3, 4, 5, 0] rfl) h
            · have h := xif c21 h
              refine lv_aload_n hx hb dX12_makeFits_214 rfl (lv_at hl 1 rfl) ?_
              refine xg_r C hW fg_12_188 KM_0 rfl dX12_makeFits_215 ?_
              refine lv_bipush (v := 13) hx hb dX12_makeFits_218 rfl ?_
              refine lv_iload_n hx hb dX12_makeFits_220 rfl (lv_at hl 2 rfl) ?_
              refine lv_imul hx hb dX12_makeFits_221 ?_
              refine lv_iload hx hb dX12_makeFits_222 (lv_at hl 5 rfl) ?_
              refine lv_iadd hx hb dX12_makeFits_224 ?_
              obtain ⟨g22, h⟩ := xgd h
              refine xa_i C hW KM_58 g22 (x := σ.1 58 ((13 * x2) + x5).toNatClampNeg) rfl dX12_makeFits_225 ?_
              refine lv_iload hx hb dX12_makeFits_226 (lv_at hl 0 rfl) ?_
              refine lv_iadd hx hb dX12_makeFits_228 ?_
              refine lv_aload_n hx hb dX12_makeFits_229 rfl (lv_at hl 1 rfl) ?_
              refine xg_r C hW fg_12_197 KM_0 rfl dX12_makeFits_230 ?_
              refine lv_iload hx hb dX12_makeFits_233 (lv_at hl 4 rfl) ?_
              obtain ⟨g23, h⟩ := xgd h
              refine xa_i C hW KM_61 g23 (x := σ.1 61 x4.toNatClampNeg) rfl dX12_makeFits_235 ?_
              refine lv_icmp_lt (tgt := 242) hx hb dX12_makeFits_236 (by decide) (fun c24 => ?_) (fun c24 => ?_)
              · have h := xit c24 h
                refine lv_aload_n hx hb dX12_makeFits_242 rfl (lv_at hl 1 rfl) ?_
                refine xg_r C hW fg_12_197 KM_0 rfl dX12_makeFits_243 ?_
                refine lv_iload hx hb dX12_makeFits_246 (lv_at hl 4 rfl) ?_
                refine lv_aload_n hx hb dX12_makeFits_248 rfl (lv_at hl 1 rfl) ?_
                refine xg_r C hW fg_12_188 KM_0 rfl dX12_makeFits_249 ?_
                refine lv_bipush (v := 13) hx hb dX12_makeFits_252 rfl ?_
                refine lv_iload_n hx hb dX12_makeFits_254 rfl (lv_at hl 2 rfl) ?_
                refine lv_imul hx hb dX12_makeFits_255 ?_
                refine lv_iload hx hb dX12_makeFits_256 (lv_at hl 5 rfl) ?_
                refine lv_iadd hx hb dX12_makeFits_258 ?_
                obtain ⟨g25, h⟩ := xgd h
                refine xa_i C hW KM_58 g25 (x := σ.1 58 ((13 * x2) + x5).toNatClampNeg) rfl dX12_makeFits_259 ?_
                refine lv_iload hx hb dX12_makeFits_260 (lv_at hl 0 rfl) ?_
                refine lv_iadd hx hb dX12_makeFits_262 ?_
                obtain ⟨g26, h⟩ := xgd h
                refine xs_i C hW KM_61 g26 dX12_makeFits_263 (fun H locs hW => ?_)
                refine lv_iinc (v := x5 + 1) (lv' := [(5, .int (x5 + 1)), (6, .int (σ.1 61 (((145 * (x2 + 1)) + x3) - x5).toNatClampNeg)), (0, .ref (g.q 0)), (2, .int x2), (3, .int x3), (4, .int x4)]) hx hb dX12_makeFits_264 hl (k := 5) rfl rfl (Nat.le_of_ble_eq_true rfl) rfl (fun ls hl => ?_)
                refine lv_goto (tgt := 151) hx hb dX12_makeFits_267 (by decide) ?_
                exact ih x2 x3 x4 (x5 + 1) _ _ _ _ hW (lv_sub hl [2, 3, 4, 5, 0] rfl) h
              · have h := xif c24 h
                refine lv_goto (tgt := 264) hx hb dX12_makeFits_239 (by decide) ?_
                refine lv_iinc (v := x5 + 1) (lv' := [(5, .int (x5 + 1)), (6, .int (σ.1 61 (((145 * (x2 + 1)) + x3) - x5).toNatClampNeg)), (0, .ref (g.q 0)), (2, .int x2), (3, .int x3), (4, .int x4)]) hx hb dX12_makeFits_264 hl (k := 5) rfl rfl (Nat.le_of_ble_eq_true rfl) rfl (fun ls hl => ?_)
                refine lv_goto (tgt := 151) hx hb dX12_makeFits_267 (by decide) ?_
                exact ih x2 x3 x4 (x5 + 1) _ _ _ _ hW (lv_sub hl [2, 3, 4, 5, 0] rfl) h
set_option maxRecDepth 4000 in
theorem w_X12_makeFits_147 (N : Nat) (k100 : Int32 → St → Option (Int32 × St)) (k106 : Int32 → Int32 → St → Option (Int32 × St)) {r : Int32} {σ' : St} (C : xC KM g RX12 cX12_makeFits 7 (some .int) p s m args meth c) (hk100 : ∀ (x2 : Int32) (σ : St) (H : Heap) (locs : List Loc) (ls : Array Slot), xW KM g s σ H locs → lv_has ls 7 [(0, .ref (g.q 0)), (2, .int x2)] → k100 x2 σ = some (r, σ') → W p l e rm_X12_makeFits s m args below meth c H locs 0 0 (MQ below (xPost KM g (some (.int r)) σ') args s 0 0 (xA KM g.q)) (F0 m 100 ls [])) (hk106 : ∀ (x2 : Int32) (x3 : Int32) (σ : St) (H : Heap) (locs : List Loc) (ls : Array Slot), xW KM g s σ H locs → lv_has ls 7 [(0, .ref (g.q 0)), (2, .int x2), (3, .int x3)] → k106 x2 x3 σ = some (r, σ') → W p l e rm_X12_makeFits s m args below meth c H locs 0 0 (MQ below (xPost KM g (some (.int r)) σ') args s 0 0 (xA KM g.q)) (F0 m 106 ls [])) : ∀ (x2 : Int32) (x3 : Int32) (x4 : Int32) (t1 : Int32) (t2 : Int32) (σ : St) (H : Heap) (locs : List Loc) (ls : Array Slot), xW KM g s σ H locs → lv_has ls 7 [(0, .ref (g.q 0)), (2, .int x2), (3, .int x3), (4, .int x4)] → f_X12_makeFits_147 N k100 k106 x2 x3 x4 t1 t2 σ = some (r, σ') → W p l e rm_X12_makeFits s m args below meth c H locs 0 0 (MQ below (xPost KM g (some (.int r)) σ') args s 0 0 (xA KM g.q)) (F0 m 147 ls [.int t2, .int t1, .ref (g.q 61)]) := by
  have hx := C.1
  have hb := C.2.1
  intro x2 x3 x4 t1 t2 σ H locs ls hW hl h
  unfold f_X12_makeFits_147 at h
  obtain ⟨g14, h⟩ := xgd h
  refine xs_i C hW KM_61 g14 dX12_makeFits_147 (fun H locs hW => ?_)
  refine lv_iconst (v := 1) hx hb dX12_makeFits_148 rfl ?_
  refine lv_istore (lv' := [(5, .int 1), (0, .ref (g.q 0)), (2, .int x2), (3, .int x3), (4, .int x4)]) hx hb dX12_makeFits_149 hl (Nat.le_of_ble_eq_true rfl) rfl (fun ls hl => ?_)
  exact w_X12_makeFits_151 N k100 k106 C hk100 hk106 N x2 x3 x4 1 _ _ _ _ hW (lv_sub hl [1, 2, 3, 4, 0] rfl) h
set_option maxRecDepth 4000 in
theorem w_X12_makeFits_106 (N : Nat) (k100 : Int32 → St → Option (Int32 × St)) {r : Int32} {σ' : St} (C : xC KM g RX12 cX12_makeFits 7 (some .int) p s m args meth c) (hk100 : ∀ (x2 : Int32) (σ : St) (H : Heap) (locs : List Loc) (ls : Array Slot), xW KM g s σ H locs → lv_has ls 7 [(0, .ref (g.q 0)), (2, .int x2)] → k100 x2 σ = some (r, σ') → W p l e rm_X12_makeFits s m args below meth c H locs 0 0 (MQ below (xPost KM g (some (.int r)) σ') args s 0 0 (xA KM g.q)) (F0 m 100 ls [])) : ∀ (n : Nat), ∀ (x2 : Int32) (x3 : Int32) (σ : St) (H : Heap) (locs : List Loc) (ls : Array Slot), xW KM g s σ H locs → lv_has ls 7 [(0, .ref (g.q 0)), (2, .int x2), (3, .int x3)] → f_X12_makeFits_106 N k100 n x2 x3 σ = some (r, σ') → W p l e rm_X12_makeFits s m args below meth c H locs 0 0 (MQ below (xPost KM g (some (.int r)) σ') args s 0 0 (xA KM g.q)) (F0 m 106 ls []) := by
  have hx := C.1
  have hb := C.2.1
  intro n
  induction n with
  | zero => intro x2 x3 σ H locs ls hW hl h; rw [f_X12_makeFits_106] at h; cases h
  | succ n ih =>
    intro x2 x3 σ H locs ls hW hl h
    rw [f_X12_makeFits_106] at h
    refine lv_iload_n hx hb dX12_makeFits_106 rfl (lv_at hl 2 rfl) ?_
    refine lv_sipush (v := 144) hx hb dX12_makeFits_107 rfl ?_
    refine lv_icmp_gt (tgt := 276) hx hb dX12_makeFits_110 (by decide) (fun c11 => ?_) (fun c11 => ?_)
    · have h := xit c11 h
      refine lv_iinc (v := x2 + (-1)) (lv' := [(2, .int (x2 + (-1))), (0, .ref (g.q 0)), (3, .int x3)]) hx hb dX12_makeFits_276 hl (k := 1) rfl rfl (Nat.le_of_ble_eq_true rfl) rfl (fun ls hl => ?_)
      refine lv_goto (tgt := 100) hx hb dX12_makeFits_279 (by decide) ?_
      exact hk100 (x2 + (-1)) _ _ _ _ hW (lv_sub hl [1, 0] rfl) h
    · have h := xif c11 h
      refine lv_sipush (v := 145) hx hb dX12_makeFits_113 rfl ?_
      refine lv_iload_n hx hb dX12_makeFits_116 rfl (lv_at hl 1 rfl) ?_
      refine lv_imul hx hb dX12_makeFits_117 ?_
      refine lv_iload_n hx hb dX12_makeFits_118 rfl (lv_at hl 2 rfl) ?_
      refine lv_iadd hx hb dX12_makeFits_119 ?_
      refine lv_istore (lv' := [(4, .int ((145 * x2) + x3)), (0, .ref (g.q 0)), (2, .int x2), (3, .int x3)]) hx hb dX12_makeFits_120 hl (Nat.le_of_ble_eq_true rfl) rfl (fun ls hl => ?_)
      refine lv_aload_n hx hb dX12_makeFits_122 rfl (lv_at hl 1 rfl) ?_
      refine xg_r C hW fg_12_197 KM_0 rfl dX12_makeFits_123 ?_
      refine lv_iload hx hb dX12_makeFits_126 (lv_at hl 0 rfl) ?_
      refine lv_iload_n hx hb dX12_makeFits_128 rfl (lv_at hl 2 rfl) ?_
      refine lv_aload_n hx hb dX12_makeFits_129 rfl (lv_at hl 1 rfl) ?_
      refine xg_i C hW fg_12_515 KM_0 rfl (v := 1085) rfl (x := σ.1 1085 0) rfl dX12_makeFits_130 ?_
      refine lv_icmp_ne (tgt := 144) hx hb dX12_makeFits_133 (by decide) (fun c12 => ?_) (fun c12 => ?_)
      · have h := xif c12 h
        refine lv_ldcw (v := 1000000000) hx hb C.ow (C.hts _ kc_X12_435) dX12_makeFits_144 ?_
        exact w_X12_makeFits_147 N k100 (f_X12_makeFits_106 N k100 n) C hk100 ih x2 x3 ((145 * x2) + x3) ((145 * x2) + x3) 1000000000 _ _ _ _ hW (lv_sub hl [1, 2, 3, 0] rfl) h
      · have h := xit c12 h
        refine lv_iload_n hx hb dX12_makeFits_136 rfl (lv_at hl 3 rfl) ?_
        refine lv_if_ne (tgt := 144) hx hb dX12_makeFits_137 (by decide) (fun c13 => ?_) (fun c13 => ?_)
        · have h := xif c13 h
          refine lv_ldcw (v := 1000000000) hx hb C.ow (C.hts _ kc_X12_435) dX12_makeFits_144 ?_
          exact w_X12_makeFits_147 N k100 (f_X12_makeFits_106 N k100 n) C hk100 ih x2 x3 ((145 * x2) + x3) ((145 * x2) + x3) 1000000000 _ _ _ _ hW (lv_sub hl [1, 2, 3, 0] rfl) h
        · have h := xit c13 h
          refine lv_iconst (v := 0) hx hb dX12_makeFits_140 rfl ?_
          refine lv_goto (tgt := 147) hx hb dX12_makeFits_141 (by decide) ?_
          exact w_X12_makeFits_147 N k100 (f_X12_makeFits_106 N k100 n) C hk100 ih x2 x3 ((145 * x2) + x3) ((145 * x2) + x3) 0 _ _ _ _ hW (lv_sub hl [1, 2, 3, 0] rfl) h
set_option maxRecDepth 4000 in
theorem w_X12_makeFits_100 (N : Nat) {r : Int32} {σ' : St} (C : xC KM g RX12 cX12_makeFits 7 (some .int) p s m args meth c) : ∀ (n : Nat), ∀ (x2 : Int32) (σ : St) (H : Heap) (locs : List Loc) (ls : Array Slot), xW KM g s σ H locs → lv_has ls 7 [(0, .ref (g.q 0)), (2, .int x2)] → f_X12_makeFits_100 N n x2 σ = some (r, σ') → W p l e rm_X12_makeFits s m args below meth c H locs 0 0 (MQ below (xPost KM g (some (.int r)) σ') args s 0 0 (xA KM g.q)) (F0 m 100 ls []) := by
  have hx := C.1
  have hb := C.2.1
  intro n
  induction n with
  | zero => intro x2 σ H locs ls hW hl h; rw [f_X12_makeFits_100] at h; cases h
  | succ n ih =>
    intro x2 σ H locs ls hW hl h
    rw [f_X12_makeFits_100] at h
    refine lv_iload_n hx hb dX12_makeFits_100 rfl (lv_at hl 1 rfl) ?_
    refine lv_if_lt (tgt := 282) hx hb dX12_makeFits_101 (by decide) (fun c10 => ?_) (fun c10 => ?_)
    · have h := xit c10 h
      refine lv_iconst (v := 0) hx hb dX12_makeFits_282 rfl ?_
      cases h
      exact xr_i C hW dX12_makeFits_283
    · have h := xif c10 h
      refine lv_iconst (v := 0) hx hb dX12_makeFits_104 rfl ?_
      refine lv_istore_n (lv' := [(3, .int 0), (0, .ref (g.q 0)), (2, .int x2)]) hx hb dX12_makeFits_105 rfl hl (Nat.le_of_ble_eq_true rfl) rfl (fun ls hl => ?_)
      exact w_X12_makeFits_106 N (f_X12_makeFits_100 N n) C ih N x2 0 _ _ _ _ hW (lv_sub hl [1, 2, 0] rfl) h
set_option maxRecDepth 4000 in
theorem w_X12_makeFits_14 (N : Nat) {r : Int32} {σ' : St} (C : xC KM g RX12 cX12_makeFits 7 (some .int) p s m args meth c) : ∀ (n : Nat), ∀ (x1 : Int32) (x2 : Int32) (σ : St) (H : Heap) (locs : List Loc) (ls : Array Slot), xW KM g s σ H locs → lv_has ls 7 [(0, .ref (g.q 0)), (1, .int x1), (2, .int x2)] → f_X12_makeFits_14 N n x1 x2 σ = some (r, σ') → W p l e rm_X12_makeFits s m args below meth c H locs 0 0 (MQ below (xPost KM g (some (.int r)) σ') args s 0 0 (xA KM g.q)) (F0 m 14 ls []) := by
  have hx := C.1
  have hb := C.2.1
  intro n
  induction n with
  | zero => intro x1 x2 σ H locs ls hW hl h; rw [f_X12_makeFits_14] at h; cases h
  | succ n ih =>
    intro x1 x2 σ H locs ls hW hl h
    rw [f_X12_makeFits_14] at h
    refine lv_iload_n hx hb dX12_makeFits_14 rfl (lv_at hl 2 rfl) ?_
    refine lv_aload_n hx hb dX12_makeFits_15 rfl (lv_at hl 0 rfl) ?_
    refine xg_i C hW fg_12_515 KM_0 rfl (v := 1085) rfl (x := σ.1 1085 0) rfl dX12_makeFits_16 ?_
    refine lv_icmp_ge (tgt := 88) hx hb dX12_makeFits_19 (by decide) (fun c2 => ?_) (fun c2 => ?_)
    · have h := xit c2 h
      refine lv_iload_n hx hb dX12_makeFits_88 rfl (lv_at hl 1 rfl) ?_
      refine lv_if_eq (tgt := 95) hx hb dX12_makeFits_89 (by decide) (fun c3 => ?_) (fun c3 => ?_)
      · have h := xit c3 h
        refine lv_aload_n hx hb dX12_makeFits_95 rfl (lv_at hl 0 rfl) ?_
        refine xg_i C hW fg_12_515 KM_0 rfl (v := 1085) rfl (x := σ.1 1085 0) rfl dX12_makeFits_96 ?_
        refine lv_istore_n (lv' := [(2, .int (σ.1 1085 0)), (0, .ref (g.q 0)), (1, .int x1)]) hx hb dX12_makeFits_99 rfl hl (Nat.le_of_ble_eq_true rfl) rfl (fun ls hl => ?_)
        exact w_X12_makeFits_100 N C N (σ.1 1085 0) _ _ _ _ hW (lv_sub hl [1, 0] rfl) h
      · have h := xif c3 h
        refine lv_bipush (v := (-3)) hx hb dX12_makeFits_92 rfl ?_
        cases h
        exact xr_i C hW dX12_makeFits_94
    · have h := xif c2 h
      refine lv_aload_n hx hb dX12_makeFits_22 rfl (lv_at hl 0 rfl) ?_
      refine lv_iload_n hx hb dX12_makeFits_23 rfl (lv_at hl 2 rfl) ?_
      refine xp_i C hW fp_12_518 KM_0 rfl (v := 1091) rfl rfl rfl dX12_makeFits_24 (fun H locs hW => ?_)
      refine lv_iconst (v := 0) hx hb dX12_makeFits_27 rfl ?_
      refine lv_istore_n (lv' := [(3, .int 0), (0, .ref (g.q 0)), (1, .int x1), (2, .int x2)]) hx hb dX12_makeFits_28 rfl hl (Nat.le_of_ble_eq_true rfl) rfl (fun ls hl => ?_)
      exact w_X12_makeFits_29 N (f_X12_makeFits_14 N n) C ih N x1 x2 0 _ _ _ _ hW (lv_sub hl [1, 2, 3, 0] rfl) h
set_option maxRecDepth 4000 in
theorem m_X12_makeFits (N : Nat) (σ : St) {r : Int32} {σ' : St} (h : f_X12_makeFits N σ = some (r, σ')) : xM l KM g yX12_makeFits cX12_makeFits 7 (some .int) rm_X12_makeFits [.ref (g.q 0)] σ (some (.int r)) σ' := by
  refine xmet pn_X12 rfl (Nat.le_of_ble_eq_true rfl) (lv := [(0, .ref (g.q 0))]) rfl (fun p e s m args below meth c ls C hW hl => ?_)
  have hx := C.1
  have hb := C.2.1
  unfold f_X12_makeFits at h
  refine lv_aload_n hx hb dX12_makeFits_0 rfl (lv_at hl 0 rfl) ?_
  refine xg_i C hW fg_12_515 KM_0 rfl (v := 1085) rfl (x := σ.1 1085 0) rfl dX12_makeFits_1 ?_
  refine lv_if_ne (tgt := 10) hx hb dX12_makeFits_4 (by decide) (fun c1 => ?_) (fun c1 => ?_)
  · have h := xif c1 h
    refine lv_iconst (v := 0) hx hb dX12_makeFits_10 rfl ?_
    refine lv_istore_n (lv' := [(1, .int 0), (0, .ref (g.q 0))]) hx hb dX12_makeFits_11 rfl hl (Nat.le_of_ble_eq_true rfl) rfl (fun ls hl => ?_)
    refine lv_iconst (v := 0) hx hb dX12_makeFits_12 rfl ?_
    refine lv_istore_n (lv' := [(2, .int 0), (1, .int 0), (0, .ref (g.q 0))]) hx hb dX12_makeFits_13 rfl hl (Nat.le_of_ble_eq_true rfl) rfl (fun ls hl => ?_)
    exact w_X12_makeFits_14 N C N 0 0 _ _ _ _ hW (lv_sub hl [2, 1, 0] rfl) h
  · have h := xit c1 h
    refine lv_bipush (v := (-4)) hx hb dX12_makeFits_7 rfl ?_
    cases h
    exact xr_i C hW dX12_makeFits_9
end
