theorem dX12_write_0 : decode cX12_write 0 = .ok (.aload_n 0, 1) := by decide +kernel
theorem dX12_write_1 : decode cX12_write 1 = .ok (.invokevirtual 320, 3) := by decide +kernel
theorem dX12_write_4 : decode cX12_write 4 = .ok (.iconst 0, 1) := by decide +kernel
theorem dX12_write_5 : decode cX12_write 5 = .ok (.istore_n 1, 1) := by decide +kernel
theorem dX12_write_6 : decode cX12_write 6 = .ok (.aload_n 0, 1) := by decide +kernel
theorem dX12_write_7 : decode cX12_write 7 = .ok (.getfield 264, 3) := by decide +kernel
theorem dX12_write_10 : decode cX12_write 10 = .ok (.iconst 1, 1) := by decide +kernel
theorem dX12_write_11 : decode cX12_write 11 = .ok (.if_icmp .ne 49, 3) := by decide +kernel
theorem dX12_write_14 : decode cX12_write 14 = .ok (.aload_n 0, 1) := by decide +kernel
theorem dX12_write_15 : decode cX12_write 15 = .ok (.aload_n 0, 1) := by decide +kernel
theorem dX12_write_16 : decode cX12_write 16 = .ok (.getfield 271, 3) := by decide +kernel
theorem dX12_write_19 : decode cX12_write 19 = .ok (.iconst 0, 1) := by decide +kernel
theorem dX12_write_20 : decode cX12_write 20 = .ok (.aload_n 0, 1) := by decide +kernel
theorem dX12_write_21 : decode cX12_write 21 = .ok (.getfield 21, 3) := by decide +kernel
theorem dX12_write_24 : decode cX12_write 24 = .ok (.iconst 0, 1) := by decide +kernel
theorem dX12_write_25 : decode cX12_write 25 = .ok (.iaload, 1) := by decide +kernel
theorem dX12_write_26 : decode cX12_write 26 = .ok (.invokevirtual 302, 3) := by decide +kernel
theorem dX12_write_29 : decode cX12_write 29 = .ok (.istore_n 2, 1) := by decide +kernel
theorem dX12_write_30 : decode cX12_write 30 = .ok (.iload_n 2, 1) := by decide +kernel
theorem dX12_write_31 : decode cX12_write 31 = .ok (.iconst (-1), 1) := by decide +kernel
theorem dX12_write_32 : decode cX12_write 32 = .ok (.if_icmp .eq 9, 3) := by decide +kernel
theorem dX12_write_35 : decode cX12_write 35 = .ok (.iload_n 1, 1) := by decide +kernel
theorem dX12_write_36 : decode cX12_write 36 = .ok (.bipush 24, 2) := by decide +kernel
theorem dX12_write_38 : decode cX12_write 38 = .ok (.if_icmp .ne 5, 3) := by decide +kernel
theorem dX12_write_41 : decode cX12_write 41 = .ok (.iconst (-1), 1) := by decide +kernel
theorem dX12_write_42 : decode cX12_write 42 = .ok (.ireturn, 1) := by decide +kernel
theorem dX12_write_43 : decode cX12_write 43 = .ok (.aload_n 0, 1) := by decide +kernel
theorem dX12_write_44 : decode cX12_write 44 = .ok (.getfield 148, 3) := by decide +kernel
theorem dX12_write_47 : decode cX12_write 47 = .ok (.iload_n 1, 1) := by decide +kernel
theorem dX12_write_48 : decode cX12_write 48 = .ok (.iload_n 2, 1) := by decide +kernel
theorem dX12_write_49 : decode cX12_write 49 = .ok (.iastore, 1) := by decide +kernel
theorem dX12_write_50 : decode cX12_write 50 = .ok (.iinc 1 1, 3) := by decide +kernel
theorem dX12_write_53 : decode cX12_write 53 = .ok (.aload_n 0, 1) := by decide +kernel
theorem dX12_write_54 : decode cX12_write 54 = .ok (.invokevirtual 239, 3) := by decide +kernel
theorem dX12_write_57 : decode cX12_write 57 = .ok (.goto (-51), 3) := by decide +kernel
theorem dX12_write_60 : decode cX12_write 60 = .ok (.aload_n 0, 1) := by decide +kernel
theorem dX12_write_61 : decode cX12_write 61 = .ok (.getfield 264, 3) := by decide +kernel
theorem dX12_write_64 : decode cX12_write 64 = .ok (.bipush 10, 2) := by decide +kernel
theorem dX12_write_66 : decode cX12_write 66 = .ok (.if_icmp .ne 7, 3) := by decide +kernel
theorem dX12_write_69 : decode cX12_write 69 = .ok (.iload_n 1, 1) := by decide +kernel
theorem dX12_write_70 : decode cX12_write 70 = .ok (.ifCond .ne 5, 3) := by decide +kernel
theorem dX12_write_73 : decode cX12_write 73 = .ok (.iconst (-1), 1) := by decide +kernel
theorem dX12_write_74 : decode cX12_write 74 = .ok (.ireturn, 1) := by decide +kernel
theorem dX12_write_75 : decode cX12_write 75 = .ok (.iconst 0, 1) := by decide +kernel
theorem dX12_write_76 : decode cX12_write 76 = .ok (.istore_n 2, 1) := by decide +kernel
theorem dX12_write_77 : decode cX12_write 77 = .ok (.iload_n 2, 1) := by decide +kernel
theorem dX12_write_78 : decode cX12_write 78 = .ok (.iload_n 1, 1) := by decide +kernel
theorem dX12_write_79 : decode cX12_write 79 = .ok (.if_icmp .ge 21, 3) := by decide +kernel
theorem dX12_write_82 : decode cX12_write 82 = .ok (.aload_n 0, 1) := by decide +kernel
theorem dX12_write_83 : decode cX12_write 83 = .ok (.getfield 145, 3) := by decide +kernel
theorem dX12_write_86 : decode cX12_write 86 = .ok (.iload_n 2, 1) := by decide +kernel
theorem dX12_write_87 : decode cX12_write 87 = .ok (.aload_n 0, 1) := by decide +kernel
theorem dX12_write_88 : decode cX12_write 88 = .ok (.getfield 148, 3) := by decide +kernel
theorem dX12_write_91 : decode cX12_write 91 = .ok (.iload_n 2, 1) := by decide +kernel
theorem dX12_write_92 : decode cX12_write 92 = .ok (.iaload, 1) := by decide +kernel
theorem dX12_write_93 : decode cX12_write 93 = .ok (.iastore, 1) := by decide +kernel
theorem dX12_write_94 : decode cX12_write 94 = .ok (.iinc 2 1, 3) := by decide +kernel
theorem dX12_write_97 : decode cX12_write 97 = .ok (.goto (-20), 3) := by decide +kernel
theorem dX12_write_100 : decode cX12_write 100 = .ok (.aload_n 0, 1) := by decide +kernel
theorem dX12_write_101 : decode cX12_write 101 = .ok (.iload_n 1, 1) := by decide +kernel
theorem dX12_write_102 : decode cX12_write 102 = .ok (.putfield 332, 3) := by decide +kernel
theorem dX12_write_105 : decode cX12_write 105 = .ok (.aload_n 0, 1) := by decide +kernel
theorem dX12_write_106 : decode cX12_write 106 = .ok (.iconst 0, 1) := by decide +kernel
theorem dX12_write_107 : decode cX12_write 107 = .ok (.putfield 341, 3) := by decide +kernel
theorem dX12_write_110 : decode cX12_write 110 = .ok (.aload_n 0, 1) := by decide +kernel
theorem dX12_write_111 : decode cX12_write 111 = .ok (.iconst 0, 1) := by decide +kernel
theorem dX12_write_112 : decode cX12_write 112 = .ok (.putfield 344, 3) := by decide +kernel
theorem dX12_write_115 : decode cX12_write 115 = .ok (.iload_n 1, 1) := by decide +kernel
theorem dX12_write_116 : decode cX12_write 116 = .ok (.ireturn, 1) := by decide +kernel
abbrev rm_X12_write : Room := { frames := 7, cells := 0, slots := 0, locals := 190 }
def f_X12_write_77 (N : Nat) : Nat → Int32 → Int32 → St → Option (Int32 × St)
  | 0, _, _, _ => none
  | n + 1, x1, x2, σ => (if x1 ≤ x2 then some (x1, (si (si (si σ 1069 0 x1) 1074 0 0) 1082 0 0)) else grd (ib x2 24) (grd (ib x2 24) (f_X12_write_77 N n x1 (x2 + 1) (si σ 44 x2.toNatClampNeg (σ.1 45 x2.toNatClampNeg)))))
def f_X12_write_6 (N : Nat) : Nat → Int32 → St → Option (Int32 × St)
  | 0, _, _ => none
  | n + 1, x1, σ => (if (σ.1 1003 0) = 1 then grd (ib 0 2) (bo (f_X12_signOf N (σ.2 1010 0) 0 (σ.1 3 0) σ) (fun r6_ => (if r6_ = ((-1)) then some ((-1), σ) else (if x1 = 24 then some ((-1), σ) else grd (ib x1 24) (bo (f_X12_scan N (si σ 45 x1.toNatClampNeg r6_)) (fun σ10 => f_X12_write_6 N n (x1 + 1) σ10)))))) else (if (σ.1 1003 0) = 10 then (if x1 = 0 then some ((-1), σ) else f_X12_write_77 N N x1 0 σ) else some ((-1), σ)))
def f_X12_write (N : Nat) (σ : St) : Option (Int32 × St) := bo (f_X12_take N σ) (fun σ1 => f_X12_write_6 N N 0 σ1)
section
variable {p : Program} {l : Launch} {e : Env} {s : State} {m : MethodId} {args : Array Value} {below : List Frame} {meth : Method} {c : Code} {g : XG}
set_option maxRecDepth 4000 in
theorem w_X12_write_77 (N : Nat) {r : Int32} {σ' : St} (C : xC KM g RX12 cX12_write 3 (some .int) p s m args meth c) : ∀ (n : Nat), ∀ (x1 : Int32) (x2 : Int32) (σ : St) (H : Heap) (locs : List Loc) (ls : Array Slot), xW KM g s σ H locs → lv_has ls 3 [(0, .ref (g.q 0)), (1, .int x1), (2, .int x2)] → f_X12_write_77 N n x1 x2 σ = some (r, σ') → W p l e rm_X12_write s m args below meth c H locs 0 0 (MQ below (xPost KM g (some (.int r)) σ') args s 0 0 (xA KM g.q)) (F0 m 77 ls []) := by
  have hx := C.1
  have hb := C.2.1
  intro n
  induction n with
  | zero => intro x1 x2 σ H locs ls hW hl h; rw [f_X12_write_77] at h; cases h
  | succ n ih =>
    intro x1 x2 σ H locs ls hW hl h
    rw [f_X12_write_77] at h
    refine lv_iload_n hx hb dX12_write_77 rfl (lv_at hl 2 rfl) ?_
    refine lv_iload_n hx hb dX12_write_78 rfl (lv_at hl 1 rfl) ?_
    refine lv_icmp_ge (tgt := 100) hx hb dX12_write_79 (by decide) (fun c11 => ?_) (fun c11 => ?_)
    · have h := xit c11 h
      refine lv_aload_n hx hb dX12_write_100 rfl (lv_at hl 0 rfl) ?_
      refine lv_iload_n hx hb dX12_write_101 rfl (lv_at hl 1 rfl) ?_
      refine xp_i C hW fp_12_332 KM_0 rfl (v := 1069) rfl rfl rfl dX12_write_102 (fun H locs hW => ?_)
      refine lv_aload_n hx hb dX12_write_105 rfl (lv_at hl 0 rfl) ?_
      refine lv_iconst (v := 0) hx hb dX12_write_106 rfl ?_
      refine xp_i C hW fp_12_341 KM_0 rfl (v := 1074) rfl rfl rfl dX12_write_107 (fun H locs hW => ?_)
      refine lv_aload_n hx hb dX12_write_110 rfl (lv_at hl 0 rfl) ?_
      refine lv_iconst (v := 0) hx hb dX12_write_111 rfl ?_
      refine xp_i C hW fp_12_344 KM_0 rfl (v := 1082) rfl rfl rfl dX12_write_112 (fun H locs hW => ?_)
      refine lv_iload_n hx hb dX12_write_115 rfl (lv_at hl 1 rfl) ?_
      cases h
      exact xr_i C hW dX12_write_116
    · have h := xif c11 h
      refine lv_aload_n hx hb dX12_write_82 rfl (lv_at hl 0 rfl) ?_
      refine xg_r C hW fg_12_145 KM_0 rfl dX12_write_83 ?_
      refine lv_iload_n hx hb dX12_write_86 rfl (lv_at hl 2 rfl) ?_
      refine lv_aload_n hx hb dX12_write_87 rfl (lv_at hl 0 rfl) ?_
      refine xg_r C hW fg_12_148 KM_0 rfl dX12_write_88 ?_
      refine lv_iload_n hx hb dX12_write_91 rfl (lv_at hl 2 rfl) ?_
      obtain ⟨g12, h⟩ := xgd h
      refine xa_i C hW KM_45 g12 (x := σ.1 45 x2.toNatClampNeg) rfl dX12_write_92 ?_
      obtain ⟨g13, h⟩ := xgd h
      refine xs_i C hW KM_44 g13 dX12_write_93 (fun H locs hW => ?_)
      refine lv_iinc (v := x2 + 1) (lv' := [(2, .int (x2 + 1)), (0, .ref (g.q 0)), (1, .int x1)]) hx hb dX12_write_94 hl (k := 2) rfl rfl (Nat.le_of_ble_eq_true rfl) rfl (fun ls hl => ?_)
      refine lv_goto (tgt := 77) hx hb dX12_write_97 (by decide) ?_
      exact ih x1 (x2 + 1) _ _ _ _ hW (lv_sub hl [1, 2, 0] rfl) h
set_option maxRecDepth 4000 in
theorem w_X12_write_6 (N : Nat) {r : Int32} {σ' : St} (C : xC KM g RX12 cX12_write 3 (some .int) p s m args meth c) : ∀ (n : Nat), ∀ (x1 : Int32) (σ : St) (H : Heap) (locs : List Loc) (ls : Array Slot), xW KM g s σ H locs → lv_has ls 3 [(0, .ref (g.q 0)), (1, .int x1)] → f_X12_write_6 N n x1 σ = some (r, σ') → W p l e rm_X12_write s m args below meth c H locs 0 0 (MQ below (xPost KM g (some (.int r)) σ') args s 0 0 (xA KM g.q)) (F0 m 6 ls []) := by
  have hx := C.1
  have hb := C.2.1
  intro n
  induction n with
  | zero => intro x1 σ H locs ls hW hl h; rw [f_X12_write_6] at h; cases h
  | succ n ih =>
    intro x1 σ H locs ls hW hl h
    rw [f_X12_write_6] at h
    refine lv_aload_n hx hb dX12_write_6 rfl (lv_at hl 0 rfl) ?_
    refine xg_i C hW fg_12_264 KM_0 rfl (v := 1003) rfl (x := σ.1 1003 0) rfl dX12_write_7 ?_
    refine lv_iconst (v := 1) hx hb dX12_write_10 rfl ?_
    refine lv_icmp_ne (tgt := 60) hx hb dX12_write_11 (by decide) (fun c2 => ?_) (fun c2 => ?_)
    · have h := xif c2 h
      refine lv_aload_n hx hb dX12_write_60 rfl (lv_at hl 0 rfl) ?_
      refine xg_i C hW fg_12_264 KM_0 rfl (v := 1003) rfl (x := σ.1 1003 0) rfl dX12_write_61 ?_
      refine lv_bipush (v := 10) hx hb dX12_write_64 rfl ?_
      refine lv_icmp_ne (tgt := 73) hx hb dX12_write_66 (by decide) (fun c3 => ?_) (fun c3 => ?_)
      · have h := xif c3 h
        refine lv_iconst (v := (-1)) hx hb dX12_write_73 rfl ?_
        cases h
        exact xr_i C hW dX12_write_74
      · have h := xit c3 h
        refine lv_iload_n hx hb dX12_write_69 rfl (lv_at hl 1 rfl) ?_
        refine lv_if_ne (tgt := 75) hx hb dX12_write_70 (by decide) (fun c4 => ?_) (fun c4 => ?_)
        · have h := xif c4 h
          refine lv_iconst (v := 0) hx hb dX12_write_75 rfl ?_
          refine lv_istore_n (lv' := [(2, .int 0), (0, .ref (g.q 0)), (1, .int x1)]) hx hb dX12_write_76 rfl hl (Nat.le_of_ble_eq_true rfl) rfl (fun ls hl => ?_)
          exact w_X12_write_77 N C N x1 0 _ _ _ _ hW (lv_sub hl [1, 2, 0] rfl) h
        · have h := xit c4 h
          refine lv_iconst (v := (-1)) hx hb dX12_write_73 rfl ?_
          cases h
          exact xr_i C hW dX12_write_74
    · have h := xit c2 h
      refine lv_aload_n hx hb dX12_write_14 rfl (lv_at hl 0 rfl) ?_
      refine lv_aload_n hx hb dX12_write_15 rfl (lv_at hl 0 rfl) ?_
      refine xg_l C hW fg_12_271 KM_0 rfl (v := 1010) rfl (x := σ.2 1010 0) rfl dX12_write_16 ?_
      refine lv_iconst (v := 0) hx hb dX12_write_19 rfl ?_
      refine lv_aload_n hx hb dX12_write_20 rfl (lv_at hl 0 rfl) ?_
      refine xg_r C hW fg_12_21 KM_0 rfl dX12_write_21 ?_
      refine lv_iconst (v := 0) hx hb dX12_write_24 rfl ?_
      obtain ⟨g5, h⟩ := xgd h
      refine xa_i C hW KM_3 g5 (x := σ.1 3 0) rfl dX12_write_25 ?_
      obtain ⟨r6_, e6, h⟩ := xbo h
      refine xc_V (As := [.long (σ.2 1010 0), .int 0, .int (σ.1 3 0)]) (rest := []) C hW (m_X12_signOf N (σ.2 1010 0) 0 (σ.1 3 0) _ e6) mf_X12_signOf mv_X12_signOf ml_X12_302 ⟨rfl, rfl⟩ ⟨Nat.le_of_ble_eq_true rfl, Nat.le_of_ble_eq_true rfl⟩ KM_0 rfl hl.1 rfl rfl (Nat.le_of_ble_eq_true rfl) dX12_write_26 (fun H locs hW => W.eq (g2 := F0 m 29 ls [.int r6_]) rfl ?_)
      refine lv_istore_n (lv' := [(2, .int r6_), (0, .ref (g.q 0)), (1, .int x1)]) hx hb dX12_write_29 rfl hl (Nat.le_of_ble_eq_true rfl) rfl (fun ls hl => ?_)
      refine lv_iload_n hx hb dX12_write_30 rfl (lv_at hl 0 rfl) ?_
      refine lv_iconst (v := (-1)) hx hb dX12_write_31 rfl ?_
      refine lv_icmp_eq (tgt := 41) hx hb dX12_write_32 (by decide) (fun c7 => ?_) (fun c7 => ?_)
      · have h := xit c7 h
        refine lv_iconst (v := (-1)) hx hb dX12_write_41 rfl ?_
        cases h
        exact xr_i C hW dX12_write_42
      · have h := xif c7 h
        refine lv_iload_n hx hb dX12_write_35 rfl (lv_at hl 2 rfl) ?_
        refine lv_bipush (v := 24) hx hb dX12_write_36 rfl ?_
        refine lv_icmp_ne (tgt := 43) hx hb dX12_write_38 (by decide) (fun c8 => ?_) (fun c8 => ?_)
        · have h := xif c8 h
          refine lv_aload_n hx hb dX12_write_43 rfl (lv_at hl 1 rfl) ?_
          refine xg_r C hW fg_12_148 KM_0 rfl dX12_write_44 ?_
          refine lv_iload_n hx hb dX12_write_47 rfl (lv_at hl 2 rfl) ?_
          refine lv_iload_n hx hb dX12_write_48 rfl (lv_at hl 0 rfl) ?_
          obtain ⟨g9, h⟩ := xgd h
          refine xs_i C hW KM_45 g9 dX12_write_49 (fun H locs hW => ?_)
          refine lv_iinc (v := x1 + 1) (lv' := [(1, .int (x1 + 1)), (2, .int r6_), (0, .ref (g.q 0))]) hx hb dX12_write_50 hl (k := 2) rfl rfl (Nat.le_of_ble_eq_true rfl) rfl (fun ls hl => ?_)
          refine lv_aload_n hx hb dX12_write_53 rfl (lv_at hl 2 rfl) ?_
          obtain ⟨σ10, e10, h⟩ := xbo h
          refine xc_V (As := []) (rest := []) C hW (m_X12_scan N _ e10) mf_X12_scan mv_X12_scan ml_X12_239 ⟨rfl, rfl⟩ ⟨Nat.le_of_ble_eq_true rfl, Nat.le_of_ble_eq_true rfl⟩ KM_0 rfl hl.1 rfl rfl (Nat.le_of_ble_eq_true rfl) dX12_write_54 (fun H locs hW => W.eq (g2 := F0 m 57 ls []) rfl ?_)
          refine lv_goto (tgt := 6) hx hb dX12_write_57 (by decide) ?_
          exact ih (x1 + 1) _ _ _ _ hW (lv_sub hl [2, 0] rfl) h
        · have h := xit c8 h
          refine lv_iconst (v := (-1)) hx hb dX12_write_41 rfl ?_
          cases h
          exact xr_i C hW dX12_write_42
set_option maxRecDepth 4000 in
theorem m_X12_write (N : Nat) (σ : St) {r : Int32} {σ' : St} (h : f_X12_write N σ = some (r, σ')) : xM l KM g yX12_write cX12_write 3 (some .int) rm_X12_write [.ref (g.q 0)] σ (some (.int r)) σ' := by
  refine xmet pn_X12 rfl (Nat.le_of_ble_eq_true rfl) (lv := [(0, .ref (g.q 0))]) rfl (fun p e s m args below meth c ls C hW hl => ?_)
  have hx := C.1
  have hb := C.2.1
  unfold f_X12_write at h
  refine lv_aload_n hx hb dX12_write_0 rfl (lv_at hl 0 rfl) ?_
  obtain ⟨σ1, e1, h⟩ := xbo h
  refine xc_V (As := []) (rest := []) C hW (m_X12_take N _ e1) mf_X12_take mv_X12_take ml_X12_320 ⟨rfl, rfl⟩ ⟨Nat.le_of_ble_eq_true rfl, Nat.le_of_ble_eq_true rfl⟩ KM_0 rfl hl.1 rfl rfl (Nat.le_of_ble_eq_true rfl) dX12_write_1 (fun H locs hW => W.eq (g2 := F0 m 4 ls []) rfl ?_)
  refine lv_iconst (v := 0) hx hb dX12_write_4 rfl ?_
  refine lv_istore_n (lv' := [(1, .int 0), (0, .ref (g.q 0))]) hx hb dX12_write_5 rfl hl (Nat.le_of_ble_eq_true rfl) rfl (fun ls hl => ?_)
  exact w_X12_write_6 N C N 0 _ _ _ _ hW (lv_sub hl [1, 0] rfl) h
end
theorem dX12_written_0 : decode cX12_written 0 = .ok (.iload_n 1, 1) := by decide +kernel
theorem dX12_written_1 : decode cX12_written 1 = .ok (.iconst 0, 1) := by decide +kernel
theorem dX12_written_2 : decode cX12_written 2 = .ok (.aload_n 0, 1) := by decide +kernel
theorem dX12_written_3 : decode cX12_written 3 = .ok (.getfield 332, 3) := by decide +kernel
theorem dX12_written_6 : decode cX12_written 6 = .ok (.iconst 1, 1) := by decide +kernel
theorem dX12_written_7 : decode cX12_written 7 = .ok (.isub, 1) := by decide +kernel
theorem dX12_written_8 : decode cX12_written 8 = .ok (.invokestatic 295, 3) := by decide +kernel
theorem dX12_written_11 : decode cX12_written 11 = .ok (.ifCond .eq 12, 3) := by decide +kernel
theorem dX12_written_14 : decode cX12_written 14 = .ok (.aload_n 0, 1) := by decide +kernel
theorem dX12_written_15 : decode cX12_written 15 = .ok (.getfield 145, 3) := by decide +kernel
theorem dX12_written_18 : decode cX12_written 18 = .ok (.iload_n 1, 1) := by decide +kernel
theorem dX12_written_19 : decode cX12_written 19 = .ok (.iaload, 1) := by decide +kernel
theorem dX12_written_20 : decode cX12_written 20 = .ok (.goto 4, 3) := by decide +kernel
theorem dX12_written_23 : decode cX12_written 23 = .ok (.iconst (-1), 1) := by decide +kernel
theorem dX12_written_24 : decode cX12_written 24 = .ok (.ireturn, 1) := by decide +kernel
abbrev rm_X12_written : Room := { frames := 1, cells := 0, slots := 0, locals := 22 }
def f_X12_written (x1 : Int32) (σ : St) : Option Int32 := (if (f_X12_in x1 0 ((σ.1 1069 0) - 1) σ) = 0 then some ((-1)) else grd (ib x1 24) (some (σ.1 44 x1.toNatClampNeg)))
section
variable {p : Program} {l : Launch} {e : Env} {s : State} {m : MethodId} {args : Array Value} {below : List Frame} {meth : Method} {c : Code} {g : XG}
set_option maxRecDepth 4000 in
theorem m_X12_written (x1 : Int32) (σ : St) {r : Int32} (h : f_X12_written x1 σ = some r) : xM l KM g yX12_written cX12_written 2 (some .int) rm_X12_written [.ref (g.q 0), .int x1] σ (some (.int r)) σ := by
  refine xmet pn_X12 rfl (Nat.le_of_ble_eq_true rfl) (lv := [(0, .ref (g.q 0)), (1, .int x1)]) rfl (fun p e s m args below meth c ls C hW hl => ?_)
  have hx := C.1
  have hb := C.2.1
  unfold f_X12_written at h
  refine lv_iload_n hx hb dX12_written_0 rfl (lv_at hl 1 rfl) ?_
  refine lv_iconst (v := 0) hx hb dX12_written_1 rfl ?_
  refine lv_aload_n hx hb dX12_written_2 rfl (lv_at hl 0 rfl) ?_
  refine xg_i C hW fg_12_332 KM_0 rfl (v := 1069) rfl (x := σ.1 1069 0) rfl dX12_written_3 ?_
  refine lv_iconst (v := 1) hx hb dX12_written_6 rfl ?_
  refine lv_isub hx hb dX12_written_7 ?_
  refine xc_S (As := [.int x1, .int 0, .int ((σ.1 1069 0) - 1)]) (rest := []) C hW (m_X12_in x1 0 ((σ.1 1069 0) - 1) _ rfl) mf_X12_in mt_X12_in ml_X12_295 ⟨rfl, rfl⟩ ⟨Nat.le_of_ble_eq_true rfl, Nat.le_of_ble_eq_true rfl⟩ hl.1 rfl rfl (Nat.le_of_ble_eq_true rfl) dX12_written_8 (fun H locs hW => W.eq (g2 := F0 m 11 ls [.int (f_X12_in x1 0 ((σ.1 1069 0) - 1) σ)]) rfl ?_)
  refine lv_if_eq (tgt := 23) hx hb dX12_written_11 (by decide) (fun c1 => ?_) (fun c1 => ?_)
  · have h := xit c1 h
    refine lv_iconst (v := (-1)) hx hb dX12_written_23 rfl ?_
    cases h
    exact xr_i C hW dX12_written_24
  · have h := xif c1 h
    refine lv_aload_n hx hb dX12_written_14 rfl (lv_at hl 0 rfl) ?_
    refine xg_r C hW fg_12_145 KM_0 rfl dX12_written_15 ?_
    refine lv_iload_n hx hb dX12_written_18 rfl (lv_at hl 1 rfl) ?_
    obtain ⟨g2, h⟩ := xgd h
    refine xa_i C hW KM_44 g2 (x := σ.1 44 x1.toNatClampNeg) rfl dX12_written_19 ?_
    refine lv_goto (tgt := 24) hx hb dX12_written_20 (by decide) ?_
    cases h
    exact xr_i C hW dX12_written_24
end
theorem dX12_makeSpells_0 : decode cX12_makeSpells 0 = .ok (.iconst 0, 1) := by decide +kernel
theorem dX12_makeSpells_1 : decode cX12_makeSpells 1 = .ok (.istore_n 1, 1) := by decide +kernel
theorem dX12_makeSpells_2 : decode cX12_makeSpells 2 = .ok (.iload_n 1, 1) := by decide +kernel
theorem dX12_makeSpells_3 : decode cX12_makeSpells 3 = .ok (.aload_n 0, 1) := by decide +kernel
theorem dX12_makeSpells_4 : decode cX12_makeSpells 4 = .ok (.getfield 408, 3) := by decide +kernel
theorem dX12_makeSpells_7 : decode cX12_makeSpells 7 = .ok (.if_icmp .ge 73, 3) := by decide +kernel
theorem dX12_makeSpells_10 : decode cX12_makeSpells 10 = .ok (.iconst 0, 1) := by decide +kernel
theorem dX12_makeSpells_11 : decode cX12_makeSpells 11 = .ok (.istore_n 2, 1) := by decide +kernel
theorem dX12_makeSpells_12 : decode cX12_makeSpells 12 = .ok (.iload_n 2, 1) := by decide +kernel
theorem dX12_makeSpells_13 : decode cX12_makeSpells 13 = .ok (.aload_n 0, 1) := by decide +kernel
theorem dX12_makeSpells_14 : decode cX12_makeSpells 14 = .ok (.getfield 332, 3) := by decide +kernel
theorem dX12_makeSpells_17 : decode cX12_makeSpells 17 = .ok (.if_icmp .ge 57, 3) := by decide +kernel
theorem dX12_makeSpells_20 : decode cX12_makeSpells 20 = .ok (.iload_n 2, 1) := by decide +kernel
theorem dX12_makeSpells_21 : decode cX12_makeSpells 21 = .ok (.iconst 1, 1) := by decide +kernel
theorem dX12_makeSpells_22 : decode cX12_makeSpells 22 = .ok (.iadd, 1) := by decide +kernel
theorem dX12_makeSpells_23 : decode cX12_makeSpells 23 = .ok (.istore_n 3, 1) := by decide +kernel
theorem dX12_makeSpells_24 : decode cX12_makeSpells 24 = .ok (.iload_n 3, 1) := by decide +kernel
theorem dX12_makeSpells_25 : decode cX12_makeSpells 25 = .ok (.aload_n 0, 1) := by decide +kernel
theorem dX12_makeSpells_26 : decode cX12_makeSpells 26 = .ok (.getfield 332, 3) := by decide +kernel
theorem dX12_makeSpells_29 : decode cX12_makeSpells 29 = .ok (.if_icmp .gt 39, 3) := by decide +kernel
theorem dX12_makeSpells_32 : decode cX12_makeSpells 32 = .ok (.aload_n 0, 1) := by decide +kernel
theorem dX12_makeSpells_33 : decode cX12_makeSpells 33 = .ok (.getfield 163, 3) := by decide +kernel
theorem dX12_makeSpells_36 : decode cX12_makeSpells 36 = .ok (.sipush 576, 3) := by decide +kernel
theorem dX12_makeSpells_39 : decode cX12_makeSpells 39 = .ok (.iload_n 1, 1) := by decide +kernel
theorem dX12_makeSpells_40 : decode cX12_makeSpells 40 = .ok (.imul, 1) := by decide +kernel
theorem dX12_makeSpells_41 : decode cX12_makeSpells 41 = .ok (.bipush 24, 2) := by decide +kernel
theorem dX12_makeSpells_43 : decode cX12_makeSpells 43 = .ok (.iload_n 2, 1) := by decide +kernel
theorem dX12_makeSpells_44 : decode cX12_makeSpells 44 = .ok (.imul, 1) := by decide +kernel
theorem dX12_makeSpells_45 : decode cX12_makeSpells 45 = .ok (.iadd, 1) := by decide +kernel
theorem dX12_makeSpells_46 : decode cX12_makeSpells 46 = .ok (.iload_n 3, 1) := by decide +kernel
theorem dX12_makeSpells_47 : decode cX12_makeSpells 47 = .ok (.iadd, 1) := by decide +kernel
theorem dX12_makeSpells_48 : decode cX12_makeSpells 48 = .ok (.iconst 1, 1) := by decide +kernel
theorem dX12_makeSpells_49 : decode cX12_makeSpells 49 = .ok (.isub, 1) := by decide +kernel
theorem dX12_makeSpells_50 : decode cX12_makeSpells 50 = .ok (.aload_n 0, 1) := by decide +kernel
theorem dX12_makeSpells_51 : decode cX12_makeSpells 51 = .ok (.aload_n 0, 1) := by decide +kernel
theorem dX12_makeSpells_52 : decode cX12_makeSpells 52 = .ok (.getfield 145, 3) := by decide +kernel
theorem dX12_makeSpells_55 : decode cX12_makeSpells 55 = .ok (.iload_n 2, 1) := by decide +kernel
theorem dX12_makeSpells_56 : decode cX12_makeSpells 56 = .ok (.iload_n 3, 1) := by decide +kernel
theorem dX12_makeSpells_57 : decode cX12_makeSpells 57 = .ok (.iload_n 1, 1) := by decide +kernel
theorem dX12_makeSpells_58 : decode cX12_makeSpells 58 = .ok (.invokevirtual 482, 3) := by decide +kernel
theorem dX12_makeSpells_61 : decode cX12_makeSpells 61 = .ok (.bastore, 1) := by decide +kernel
theorem dX12_makeSpells_62 : decode cX12_makeSpells 62 = .ok (.iinc 3 1, 3) := by decide +kernel
theorem dX12_makeSpells_65 : decode cX12_makeSpells 65 = .ok (.goto (-41), 3) := by decide +kernel
theorem dX12_makeSpells_68 : decode cX12_makeSpells 68 = .ok (.iinc 2 1, 3) := by decide +kernel
theorem dX12_makeSpells_71 : decode cX12_makeSpells 71 = .ok (.goto (-59), 3) := by decide +kernel
theorem dX12_makeSpells_74 : decode cX12_makeSpells 74 = .ok (.iinc 1 1, 3) := by decide +kernel
theorem dX12_makeSpells_77 : decode cX12_makeSpells 77 = .ok (.goto (-75), 3) := by decide +kernel
theorem dX12_makeSpells_80 : decode cX12_makeSpells 80 = .ok (.return_, 1) := by decide +kernel
abbrev rm_X12_makeSpells : Room := { frames := 3, cells := 0, slots := 0, locals := 77 }
def f_X12_makeSpells_24 (N : Nat) (k2 : Int32 → St → Option St) (k12 : Int32 → Int32 → St → Option St) : Nat → Int32 → Int32 → Int32 → St → Option St
  | 0, _, _, _, _ => none
  | n + 1, x1, x2, x3, σ => (if (σ.1 1069 0) < x3 then k12 x1 (x2 + 1) σ else bd (f_X12_isSpelling 44 24 N x2 x3 x1 σ) (fun r4_ σ4 => grd (ib ((((576 * x1) + (24 * x2)) + x3) - 1) 23040) (f_X12_makeSpells_24 N k2 k12 n x1 x2 (x3 + 1) (si σ4 50 ((((576 * x1) + (24 * x2)) + x3) - 1).toNatClampNeg (vp_nar .boolean r4_)))))
def f_X12_makeSpells_12 (N : Nat) (k2 : Int32 → St → Option St) : Nat → Int32 → Int32 → St → Option St
  | 0, _, _, _ => none
  | n + 1, x1, x2, σ => (if (σ.1 1069 0) ≤ x2 then k2 (x1 + 1) σ else f_X12_makeSpells_24 N k2 (f_X12_makeSpells_12 N k2 n) N x1 x2 (x2 + 1) σ)
def f_X12_makeSpells_2 (N : Nat) : Nat → Int32 → St → Option St
  | 0, _, _ => none
  | n + 1, x1, σ => (if (σ.1 1049 0) ≤ x1 then some σ else f_X12_makeSpells_12 N (f_X12_makeSpells_2 N n) N x1 0 σ)
def f_X12_makeSpells (N : Nat) (σ : St) : Option St := f_X12_makeSpells_2 N N 0 σ
section
variable {p : Program} {l : Launch} {e : Env} {s : State} {m : MethodId} {args : Array Value} {below : List Frame} {meth : Method} {c : Code} {g : XG}
set_option maxRecDepth 4000 in
theorem w_X12_makeSpells_24 (N : Nat) (k2 : Int32 → St → Option St) (k12 : Int32 → Int32 → St → Option St) {σ' : St} (C : xC KM g RX12 cX12_makeSpells 4 none p s m args meth c) (hk2 : ∀ (x1 : Int32) (σ : St) (H : Heap) (locs : List Loc) (ls : Array Slot), xW KM g s σ H locs → lv_has ls 4 [(0, .ref (g.q 0)), (1, .int x1)] → k2 x1 σ = some σ' → W p l e rm_X12_makeSpells s m args below meth c H locs 0 0 (MQ below (xPost KM g none σ') args s 0 0 (xA KM g.q)) (F0 m 2 ls [])) (hk12 : ∀ (x1 : Int32) (x2 : Int32) (σ : St) (H : Heap) (locs : List Loc) (ls : Array Slot), xW KM g s σ H locs → lv_has ls 4 [(0, .ref (g.q 0)), (1, .int x1), (2, .int x2)] → k12 x1 x2 σ = some σ' → W p l e rm_X12_makeSpells s m args below meth c H locs 0 0 (MQ below (xPost KM g none σ') args s 0 0 (xA KM g.q)) (F0 m 12 ls [])) : ∀ (n : Nat), ∀ (x1 : Int32) (x2 : Int32) (x3 : Int32) (σ : St) (H : Heap) (locs : List Loc) (ls : Array Slot), xW KM g s σ H locs → lv_has ls 4 [(0, .ref (g.q 0)), (1, .int x1), (2, .int x2), (3, .int x3)] → f_X12_makeSpells_24 N k2 k12 n x1 x2 x3 σ = some σ' → W p l e rm_X12_makeSpells s m args below meth c H locs 0 0 (MQ below (xPost KM g none σ') args s 0 0 (xA KM g.q)) (F0 m 24 ls []) := by
  have hx := C.1
  have hb := C.2.1
  intro n
  induction n with
  | zero => intro x1 x2 x3 σ H locs ls hW hl h; rw [f_X12_makeSpells_24] at h; cases h
  | succ n ih =>
    intro x1 x2 x3 σ H locs ls hW hl h
    rw [f_X12_makeSpells_24] at h
    refine lv_iload_n hx hb dX12_makeSpells_24 rfl (lv_at hl 3 rfl) ?_
    refine lv_aload_n hx hb dX12_makeSpells_25 rfl (lv_at hl 0 rfl) ?_
    refine xg_i C hW fg_12_332 KM_0 rfl (v := 1069) rfl (x := σ.1 1069 0) rfl dX12_makeSpells_26 ?_
    refine lv_icmp_gt (tgt := 68) hx hb dX12_makeSpells_29 (by decide) (fun c3 => ?_) (fun c3 => ?_)
    · have h := xit c3 h
      refine lv_iinc (v := x2 + 1) (lv' := [(2, .int (x2 + 1)), (0, .ref (g.q 0)), (1, .int x1), (3, .int x3)]) hx hb dX12_makeSpells_68 hl (k := 2) rfl rfl (Nat.le_of_ble_eq_true rfl) rfl (fun ls hl => ?_)
      refine lv_goto (tgt := 12) hx hb dX12_makeSpells_71 (by decide) ?_
      exact hk12 x1 (x2 + 1) _ _ _ _ hW (lv_sub hl [1, 2, 0] rfl) h
    · have h := xif c3 h
      refine lv_aload_n hx hb dX12_makeSpells_32 rfl (lv_at hl 0 rfl) ?_
      refine xg_r C hW fg_12_163 KM_0 rfl dX12_makeSpells_33 ?_
      refine lv_sipush (v := 576) hx hb dX12_makeSpells_36 rfl ?_
      refine lv_iload_n hx hb dX12_makeSpells_39 rfl (lv_at hl 1 rfl) ?_
      refine lv_imul hx hb dX12_makeSpells_40 ?_
      refine lv_bipush (v := 24) hx hb dX12_makeSpells_41 rfl ?_
      refine lv_iload_n hx hb dX12_makeSpells_43 rfl (lv_at hl 2 rfl) ?_
      refine lv_imul hx hb dX12_makeSpells_44 ?_
      refine lv_iadd hx hb dX12_makeSpells_45 ?_
      refine lv_iload_n hx hb dX12_makeSpells_46 rfl (lv_at hl 3 rfl) ?_
      refine lv_iadd hx hb dX12_makeSpells_47 ?_
      refine lv_iconst (v := 1) hx hb dX12_makeSpells_48 rfl ?_
      refine lv_isub hx hb dX12_makeSpells_49 ?_
      refine lv_aload_n hx hb dX12_makeSpells_50 rfl (lv_at hl 0 rfl) ?_
      refine lv_aload_n hx hb dX12_makeSpells_51 rfl (lv_at hl 0 rfl) ?_
      refine xg_r C hW fg_12_145 KM_0 rfl dX12_makeSpells_52 ?_
      refine lv_iload_n hx hb dX12_makeSpells_55 rfl (lv_at hl 2 rfl) ?_
      refine lv_iload_n hx hb dX12_makeSpells_56 rfl (lv_at hl 3 rfl) ?_
      refine lv_iload_n hx hb dX12_makeSpells_57 rfl (lv_at hl 1 rfl) ?_
      obtain ⟨r4_, σ4, e4, h⟩ := xbd h
      refine xc_V (As := [.ref (g.q 44), .int x2, .int x3, .int x1]) (rest := [.int ((((576 * x1) + (24 * x2)) + x3) - 1), .ref (g.q 50)]) C hW (m_X12_isSpelling 44 24 KM_44 N x2 x3 x1 _ e4) mf_X12_isSpelling mv_X12_isSpelling ml_X12_482 ⟨rfl, rfl⟩ ⟨Nat.le_of_ble_eq_true rfl, Nat.le_of_ble_eq_true rfl⟩ KM_0 rfl hl.1 rfl rfl (Nat.le_of_ble_eq_true rfl) dX12_makeSpells_58 (fun H locs hW => W.eq (g2 := F0 m 61 ls [.int r4_, .int ((((576 * x1) + (24 * x2)) + x3) - 1), .ref (g.q 50)]) rfl ?_)
      obtain ⟨g5, h⟩ := xgd h
      refine xs_z C hW KM_50 g5 dX12_makeSpells_61 (fun H locs hW => ?_)
      refine lv_iinc (v := x3 + 1) (lv' := [(3, .int (x3 + 1)), (0, .ref (g.q 0)), (1, .int x1), (2, .int x2)]) hx hb dX12_makeSpells_62 hl (k := 3) rfl rfl (Nat.le_of_ble_eq_true rfl) rfl (fun ls hl => ?_)
      refine lv_goto (tgt := 24) hx hb dX12_makeSpells_65 (by decide) ?_
      exact ih x1 x2 (x3 + 1) _ _ _ _ hW (lv_sub hl [1, 2, 3, 0] rfl) h
set_option maxRecDepth 4000 in
theorem w_X12_makeSpells_12 (N : Nat) (k2 : Int32 → St → Option St) {σ' : St} (C : xC KM g RX12 cX12_makeSpells 4 none p s m args meth c) (hk2 : ∀ (x1 : Int32) (σ : St) (H : Heap) (locs : List Loc) (ls : Array Slot), xW KM g s σ H locs → lv_has ls 4 [(0, .ref (g.q 0)), (1, .int x1)] → k2 x1 σ = some σ' → W p l e rm_X12_makeSpells s m args below meth c H locs 0 0 (MQ below (xPost KM g none σ') args s 0 0 (xA KM g.q)) (F0 m 2 ls [])) : ∀ (n : Nat), ∀ (x1 : Int32) (x2 : Int32) (σ : St) (H : Heap) (locs : List Loc) (ls : Array Slot), xW KM g s σ H locs → lv_has ls 4 [(0, .ref (g.q 0)), (1, .int x1), (2, .int x2)] → f_X12_makeSpells_12 N k2 n x1 x2 σ = some σ' → W p l e rm_X12_makeSpells s m args below meth c H locs 0 0 (MQ below (xPost KM g none σ') args s 0 0 (xA KM g.q)) (F0 m 12 ls []) := by
  have hx := C.1
  have hb := C.2.1
  intro n
  induction n with
  | zero => intro x1 x2 σ H locs ls hW hl h; rw [f_X12_makeSpells_12] at h; cases h
  | succ n ih =>
    intro x1 x2 σ H locs ls hW hl h
    rw [f_X12_makeSpells_12] at h
    refine lv_iload_n hx hb dX12_makeSpells_12 rfl (lv_at hl 2 rfl) ?_
    refine lv_aload_n hx hb dX12_makeSpells_13 rfl (lv_at hl 0 rfl) ?_
    refine xg_i C hW fg_12_332 KM_0 rfl (v := 1069) rfl (x := σ.1 1069 0) rfl dX12_makeSpells_14 ?_
    refine lv_icmp_ge (tgt := 74) hx hb dX12_makeSpells_17 (by decide) (fun c2 => ?_) (fun c2 => ?_)
    · have h := xit c2 h
      refine lv_iinc (v := x1 + 1) (lv' := [(1, .int (x1 + 1)), (0, .ref (g.q 0)), (2, .int x2)]) hx hb dX12_makeSpells_74 hl (k := 1) rfl rfl (Nat.le_of_ble_eq_true rfl) rfl (fun ls hl => ?_)
      refine lv_goto (tgt := 2) hx hb dX12_makeSpells_77 (by decide) ?_
      exact hk2 (x1 + 1) _ _ _ _ hW (lv_sub hl [1, 0] rfl) h
    · have h := xif c2 h
      refine lv_iload_n hx hb dX12_makeSpells_20 rfl (lv_at hl 2 rfl) ?_
      refine lv_iconst (v := 1) hx hb dX12_makeSpells_21 rfl ?_
      refine lv_iadd hx hb dX12_makeSpells_22 ?_
      refine lv_istore_n (lv' := [(3, .int (x2 + 1)), (0, .ref (g.q 0)), (1, .int x1), (2, .int x2)]) hx hb dX12_makeSpells_23 rfl hl (Nat.le_of_ble_eq_true rfl) rfl (fun ls hl => ?_)
      exact w_X12_makeSpells_24 N k2 (f_X12_makeSpells_12 N k2 n) C hk2 ih N x1 x2 (x2 + 1) _ _ _ _ hW (lv_sub hl [1, 2, 3, 0] rfl) h
set_option maxRecDepth 4000 in
theorem w_X12_makeSpells_2 (N : Nat) {σ' : St} (C : xC KM g RX12 cX12_makeSpells 4 none p s m args meth c) : ∀ (n : Nat), ∀ (x1 : Int32) (σ : St) (H : Heap) (locs : List Loc) (ls : Array Slot), xW KM g s σ H locs → lv_has ls 4 [(0, .ref (g.q 0)), (1, .int x1)] → f_X12_makeSpells_2 N n x1 σ = some σ' → W p l e rm_X12_makeSpells s m args below meth c H locs 0 0 (MQ below (xPost KM g none σ') args s 0 0 (xA KM g.q)) (F0 m 2 ls []) := by
  have hx := C.1
  have hb := C.2.1
  intro n
  induction n with
  | zero => intro x1 σ H locs ls hW hl h; rw [f_X12_makeSpells_2] at h; cases h
  | succ n ih =>
    intro x1 σ H locs ls hW hl h
    rw [f_X12_makeSpells_2] at h
    refine lv_iload_n hx hb dX12_makeSpells_2 rfl (lv_at hl 1 rfl) ?_
    refine lv_aload_n hx hb dX12_makeSpells_3 rfl (lv_at hl 0 rfl) ?_
    refine xg_i C hW fg_12_408 KM_0 rfl (v := 1049) rfl (x := σ.1 1049 0) rfl dX12_makeSpells_4 ?_
    refine lv_icmp_ge (tgt := 80) hx hb dX12_makeSpells_7 (by decide) (fun c1 => ?_) (fun c1 => ?_)
    · have h := xit c1 h
      cases h
      exact xr_v C hW dX12_makeSpells_80
    · have h := xif c1 h
      refine lv_iconst (v := 0) hx hb dX12_makeSpells_10 rfl ?_
      refine lv_istore_n (lv' := [(2, .int 0), (0, .ref (g.q 0)), (1, .int x1)]) hx hb dX12_makeSpells_11 rfl hl (Nat.le_of_ble_eq_true rfl) rfl (fun ls hl => ?_)
      exact w_X12_makeSpells_12 N (f_X12_makeSpells_2 N n) C ih N x1 0 _ _ _ _ hW (lv_sub hl [1, 2, 0] rfl) h
set_option maxRecDepth 4000 in
theorem m_X12_makeSpells (N : Nat) (σ : St) {σ' : St} (h : f_X12_makeSpells N σ = some σ') : xM l KM g yX12_makeSpells cX12_makeSpells 4 none rm_X12_makeSpells [.ref (g.q 0)] σ none σ' := by
  refine xmet pn_X12 rfl (Nat.le_of_ble_eq_true rfl) (lv := [(0, .ref (g.q 0))]) rfl (fun p e s m args below meth c ls C hW hl => ?_)
  have hx := C.1
  have hb := C.2.1
  unfold f_X12_makeSpells at h
  refine lv_iconst (v := 0) hx hb dX12_makeSpells_0 rfl ?_
  refine lv_istore_n (lv' := [(1, .int 0), (0, .ref (g.q 0))]) hx hb dX12_makeSpells_1 rfl hl (Nat.le_of_ble_eq_true rfl) rfl (fun ls hl => ?_)
  exact w_X12_makeSpells_2 N C N 0 _ _ _ _ hW (lv_sub hl [1, 0] rfl) h
end
theorem dX12_waysNow_0 : decode cX12_waysNow 0 = .ok (.aload_n 0, 1) := by decide +kernel
theorem dX12_waysNow_1 : decode cX12_waysNow 1 = .ok (.invokevirtual 486, 3) := by decide +kernel
theorem dX12_waysNow_4 : decode cX12_waysNow 4 = .ok (.aload_n 0, 1) := by decide +kernel
theorem dX12_waysNow_5 : decode cX12_waysNow 5 = .ok (.getfield 332, 3) := by decide +kernel
theorem dX12_waysNow_8 : decode cX12_waysNow 8 = .ok (.istore_n 1, 1) := by decide +kernel
theorem dX12_waysNow_9 : decode cX12_waysNow 9 = .ok (.iload_n 1, 1) := by decide +kernel
theorem dX12_waysNow_10 : decode cX12_waysNow 10 = .ok (.ifCond .lt 118, 3) := by decide +kernel
theorem dX12_waysNow_13 : decode cX12_waysNow 13 = .ok (.iload_n 1, 1) := by decide +kernel
theorem dX12_waysNow_14 : decode cX12_waysNow 14 = .ok (.aload_n 0, 1) := by decide +kernel
theorem dX12_waysNow_15 : decode cX12_waysNow 15 = .ok (.getfield 332, 3) := by decide +kernel
theorem dX12_waysNow_18 : decode cX12_waysNow 18 = .ok (.if_icmp .ne 7, 3) := by decide +kernel
theorem dX12_waysNow_21 : decode cX12_waysNow 21 = .ok (.lconst 1, 1) := by decide +kernel
theorem dX12_waysNow_22 : decode cX12_waysNow 22 = .ok (.goto 4, 3) := by decide +kernel
theorem dX12_waysNow_25 : decode cX12_waysNow 25 = .ok (.lconst 0, 1) := by decide +kernel
theorem dX12_waysNow_26 : decode cX12_waysNow 26 = .ok (.lstore_n 2, 1) := by decide +kernel
theorem dX12_waysNow_27 : decode cX12_waysNow 27 = .ok (.iconst 0, 1) := by decide +kernel
theorem dX12_waysNow_28 : decode cX12_waysNow 28 = .ok (.istore 4, 2) := by decide +kernel
theorem dX12_waysNow_30 : decode cX12_waysNow 30 = .ok (.iload 4, 2) := by decide +kernel
theorem dX12_waysNow_32 : decode cX12_waysNow 32 = .ok (.aload_n 0, 1) := by decide +kernel
theorem dX12_waysNow_33 : decode cX12_waysNow 33 = .ok (.getfield 408, 3) := by decide +kernel
theorem dX12_waysNow_36 : decode cX12_waysNow 36 = .ok (.if_icmp .ge 64, 3) := by decide +kernel
theorem dX12_waysNow_39 : decode cX12_waysNow 39 = .ok (.iload_n 1, 1) := by decide +kernel
theorem dX12_waysNow_40 : decode cX12_waysNow 40 = .ok (.iconst 1, 1) := by decide +kernel
theorem dX12_waysNow_41 : decode cX12_waysNow 41 = .ok (.iadd, 1) := by decide +kernel
theorem dX12_waysNow_42 : decode cX12_waysNow 42 = .ok (.istore 5, 2) := by decide +kernel
theorem dX12_waysNow_44 : decode cX12_waysNow 44 = .ok (.iload 5, 2) := by decide +kernel
theorem dX12_waysNow_46 : decode cX12_waysNow 46 = .ok (.aload_n 0, 1) := by decide +kernel
theorem dX12_waysNow_47 : decode cX12_waysNow 47 = .ok (.getfield 332, 3) := by decide +kernel
theorem dX12_waysNow_50 : decode cX12_waysNow 50 = .ok (.if_icmp .gt 44, 3) := by decide +kernel
theorem dX12_waysNow_53 : decode cX12_waysNow 53 = .ok (.aload_n 0, 1) := by decide +kernel
theorem dX12_waysNow_54 : decode cX12_waysNow 54 = .ok (.getfield 163, 3) := by decide +kernel
theorem dX12_waysNow_57 : decode cX12_waysNow 57 = .ok (.sipush 576, 3) := by decide +kernel
theorem dX12_waysNow_60 : decode cX12_waysNow 60 = .ok (.iload 4, 2) := by decide +kernel
theorem dX12_waysNow_62 : decode cX12_waysNow 62 = .ok (.imul, 1) := by decide +kernel
theorem dX12_waysNow_63 : decode cX12_waysNow 63 = .ok (.bipush 24, 2) := by decide +kernel
theorem dX12_waysNow_65 : decode cX12_waysNow 65 = .ok (.iload_n 1, 1) := by decide +kernel
theorem dX12_waysNow_66 : decode cX12_waysNow 66 = .ok (.imul, 1) := by decide +kernel
theorem dX12_waysNow_67 : decode cX12_waysNow 67 = .ok (.iadd, 1) := by decide +kernel
theorem dX12_waysNow_68 : decode cX12_waysNow 68 = .ok (.iload 5, 2) := by decide +kernel
theorem dX12_waysNow_70 : decode cX12_waysNow 70 = .ok (.iadd, 1) := by decide +kernel
theorem dX12_waysNow_71 : decode cX12_waysNow 71 = .ok (.iconst 1, 1) := by decide +kernel
theorem dX12_waysNow_72 : decode cX12_waysNow 72 = .ok (.isub, 1) := by decide +kernel
theorem dX12_waysNow_73 : decode cX12_waysNow 73 = .ok (.baload, 1) := by decide +kernel
theorem dX12_waysNow_74 : decode cX12_waysNow 74 = .ok (.ifCond .eq 14, 3) := by decide +kernel
theorem dX12_waysNow_77 : decode cX12_waysNow 77 = .ok (.lload_n 2, 1) := by decide +kernel
theorem dX12_waysNow_78 : decode cX12_waysNow 78 = .ok (.aload_n 0, 1) := by decide +kernel
theorem dX12_waysNow_79 : decode cX12_waysNow 79 = .ok (.getfield 151, 3) := by decide +kernel
theorem dX12_waysNow_82 : decode cX12_waysNow 82 = .ok (.iload 5, 2) := by decide +kernel
theorem dX12_waysNow_84 : decode cX12_waysNow 84 = .ok (.iaload, 1) := by decide +kernel
theorem dX12_waysNow_85 : decode cX12_waysNow 85 = .ok (.i2l, 1) := by decide +kernel
theorem dX12_waysNow_86 : decode cX12_waysNow 86 = .ok (.ladd, 1) := by decide +kernel
theorem dX12_waysNow_87 : decode cX12_waysNow 87 = .ok (.lstore_n 2, 1) := by decide +kernel
theorem dX12_waysNow_88 : decode cX12_waysNow 88 = .ok (.iinc 5 1, 3) := by decide +kernel
theorem dX12_waysNow_91 : decode cX12_waysNow 91 = .ok (.goto (-47), 3) := by decide +kernel
theorem dX12_waysNow_94 : decode cX12_waysNow 94 = .ok (.iinc 4 1, 3) := by decide +kernel
theorem dX12_waysNow_97 : decode cX12_waysNow 97 = .ok (.goto (-67), 3) := by decide +kernel
theorem dX12_waysNow_100 : decode cX12_waysNow 100 = .ok (.aload_n 0, 1) := by decide +kernel
theorem dX12_waysNow_101 : decode cX12_waysNow 101 = .ok (.getfield 151, 3) := by decide +kernel
theorem dX12_waysNow_104 : decode cX12_waysNow 104 = .ok (.iload_n 1, 1) := by decide +kernel
theorem dX12_waysNow_105 : decode cX12_waysNow 105 = .ok (.lload_n 2, 1) := by decide +kernel
theorem dX12_waysNow_106 : decode cX12_waysNow 106 = .ok (.ldc2_w 489, 3) := by decide +kernel
theorem dX12_waysNow_109 : decode cX12_waysNow 109 = .ok (.lcmp, 1) := by decide +kernel
theorem dX12_waysNow_110 : decode cX12_waysNow 110 = .ok (.ifCond .le 9, 3) := by decide +kernel
theorem dX12_waysNow_113 : decode cX12_waysNow 113 = .ok (.ldc_w 491, 3) := by decide +kernel
theorem dX12_waysNow_116 : decode cX12_waysNow 116 = .ok (.goto 5, 3) := by decide +kernel
theorem dX12_waysNow_119 : decode cX12_waysNow 119 = .ok (.lload_n 2, 1) := by decide +kernel
theorem dX12_waysNow_120 : decode cX12_waysNow 120 = .ok (.l2i, 1) := by decide +kernel
theorem dX12_waysNow_121 : decode cX12_waysNow 121 = .ok (.iastore, 1) := by decide +kernel
theorem dX12_waysNow_122 : decode cX12_waysNow 122 = .ok (.iinc 1 (-1), 3) := by decide +kernel
theorem dX12_waysNow_125 : decode cX12_waysNow 125 = .ok (.goto (-116), 3) := by decide +kernel
theorem dX12_waysNow_128 : decode cX12_waysNow 128 = .ok (.aload_n 0, 1) := by decide +kernel
theorem dX12_waysNow_129 : decode cX12_waysNow 129 = .ok (.getfield 151, 3) := by decide +kernel
theorem dX12_waysNow_132 : decode cX12_waysNow 132 = .ok (.iconst 0, 1) := by decide +kernel
theorem dX12_waysNow_133 : decode cX12_waysNow 133 = .ok (.iaload, 1) := by decide +kernel
theorem dX12_waysNow_134 : decode cX12_waysNow 134 = .ok (.ldc_w 435, 3) := by decide +kernel
theorem dX12_waysNow_137 : decode cX12_waysNow 137 = .ok (.if_icmp .le 8, 3) := by decide +kernel
theorem dX12_waysNow_140 : decode cX12_waysNow 140 = .ok (.bipush (-3), 2) := by decide +kernel
theorem dX12_waysNow_142 : decode cX12_waysNow 142 = .ok (.goto 9, 3) := by decide +kernel
theorem dX12_waysNow_145 : decode cX12_waysNow 145 = .ok (.aload_n 0, 1) := by decide +kernel
theorem dX12_waysNow_146 : decode cX12_waysNow 146 = .ok (.getfield 151, 3) := by decide +kernel
theorem dX12_waysNow_149 : decode cX12_waysNow 149 = .ok (.iconst 0, 1) := by decide +kernel
theorem dX12_waysNow_150 : decode cX12_waysNow 150 = .ok (.iaload, 1) := by decide +kernel
theorem dX12_waysNow_151 : decode cX12_waysNow 151 = .ok (.ireturn, 1) := by decide +kernel
abbrev rm_X12_waysNow : Room := { frames := 4, cells := 0, slots := 0, locals := 100 }
def f_X12_waysNow_44 (N : Nat) (k9 : Int32 → St → Option (Int32 × St)) (k30 : Int32 → Int64 → Int32 → St → Option (Int32 × St)) : Nat → Int32 → Int64 → Int32 → Int32 → St → Option (Int32 × St)
  | 0, _, _, _, _, _ => none
  | n + 1, x1, x2, x4, x5, σ => (if (σ.1 1069 0) < x5 then k30 x1 x2 (x4 + 1) σ else grd (ib ((((576 * x4) + (24 * x1)) + x5) - 1) 23040) ((if (σ.1 50 ((((576 * x4) + (24 * x1)) + x5) - 1).toNatClampNeg) = 0 then f_X12_waysNow_44 N k9 k30 n x1 x2 x4 (x5 + 1) σ else grd (ib x5 25) (f_X12_waysNow_44 N k9 k30 n x1 (x2 + ((σ.1 46 x5.toNatClampNeg).toInt64)) x4 (x5 + 1) σ))))
def f_X12_waysNow_121 (N : Nat) (k9 : Int32 → St → Option (Int32 × St)) (x1 : Int32) (t1 : Int32) (t2 : Int32) (σ : St) : Option (Int32 × St) := grd (ib t1 25) (k9 (x1 + (-1)) (si σ 46 t1.toNatClampNeg t2))
def f_X12_waysNow_30 (N : Nat) (k9 : Int32 → St → Option (Int32 × St)) : Nat → Int32 → Int64 → Int32 → St → Option (Int32 × St)
  | 0, _, _, _, _ => none
  | n + 1, x1, x2, x4, σ => (if (σ.1 1049 0) ≤ x4 then (if (lg_cmp x2 1000000000) ≤ 0 then f_X12_waysNow_121 N k9 x1 x1 x2.toInt32 σ else f_X12_waysNow_121 N k9 x1 x1 1000000001 σ) else f_X12_waysNow_44 N k9 (f_X12_waysNow_30 N k9 n) N x1 x2 x4 (x1 + 1) σ)
def f_X12_waysNow_9 (N : Nat) : Nat → Int32 → St → Option (Int32 × St)
  | 0, _, _ => none
  | n + 1, x1, σ => (if x1 < 0 then grd (ib 0 25) ((if (σ.1 46 0) ≤ 1000000000 then grd (ib 0 25) (some (σ.1 46 0, σ)) else some ((-3), σ))) else (if x1 = (σ.1 1069 0) then f_X12_waysNow_30 N (f_X12_waysNow_9 N n) N x1 1 0 σ else f_X12_waysNow_30 N (f_X12_waysNow_9 N n) N x1 0 0 σ))
def f_X12_waysNow (N : Nat) (σ : St) : Option (Int32 × St) := bo (f_X12_makeSpells N σ) (fun σ1 => f_X12_waysNow_9 N N (σ1.1 1069 0) σ1)
section
variable {p : Program} {l : Launch} {e : Env} {s : State} {m : MethodId} {args : Array Value} {below : List Frame} {meth : Method} {c : Code} {g : XG}
set_option maxRecDepth 4000 in
theorem w_X12_waysNow_44 (N : Nat) (k9 : Int32 → St → Option (Int32 × St)) (k30 : Int32 → Int64 → Int32 → St → Option (Int32 × St)) {r : Int32} {σ' : St} (C : xC KM g RX12 cX12_waysNow 6 (some .int) p s m args meth c) (hk9 : ∀ (x1 : Int32) (σ : St) (H : Heap) (locs : List Loc) (ls : Array Slot), xW KM g s σ H locs → lv_has ls 6 [(0, .ref (g.q 0)), (1, .int x1)] → k9 x1 σ = some (r, σ') → W p l e rm_X12_waysNow s m args below meth c H locs 0 0 (MQ below (xPost KM g (some (.int r)) σ') args s 0 0 (xA KM g.q)) (F0 m 9 ls [])) (hk30 : ∀ (x1 : Int32) (x2 : Int64) (x4 : Int32) (σ : St) (H : Heap) (locs : List Loc) (ls : Array Slot), xW KM g s σ H locs → lv_has ls 6 [(0, .ref (g.q 0)), (1, .int x1), (2, .long x2), (4, .int x4)] → k30 x1 x2 x4 σ = some (r, σ') → W p l e rm_X12_waysNow s m args below meth c H locs 0 0 (MQ below (xPost KM g (some (.int r)) σ') args s 0 0 (xA KM g.q)) (F0 m 30 ls [])) : ∀ (n : Nat), ∀ (x1 : Int32) (x2 : Int64) (x4 : Int32) (x5 : Int32) (σ : St) (H : Heap) (locs : List Loc) (ls : Array Slot), xW KM g s σ H locs → lv_has ls 6 [(0, .ref (g.q 0)), (1, .int x1), (2, .long x2), (4, .int x4), (5, .int x5)] → f_X12_waysNow_44 N k9 k30 n x1 x2 x4 x5 σ = some (r, σ') → W p l e rm_X12_waysNow s m args below meth c H locs 0 0 (MQ below (xPost KM g (some (.int r)) σ') args s 0 0 (xA KM g.q)) (F0 m 44 ls []) := by
  have hx := C.1
  have hb := C.2.1
  intro n
  induction n with
  | zero => intro x1 x2 x4 x5 σ H locs ls hW hl h; rw [f_X12_waysNow_44] at h; cases h
  | succ n ih =>
    intro x1 x2 x4 x5 σ H locs ls hW hl h
    rw [f_X12_waysNow_44] at h
    refine lv_iload hx hb dX12_waysNow_44 (lv_at hl 4 rfl) ?_
    refine lv_aload_n hx hb dX12_waysNow_46 rfl (lv_at hl 0 rfl) ?_
    refine xg_i C hW fg_12_332 KM_0 rfl (v := 1069) rfl (x := σ.1 1069 0) rfl dX12_waysNow_47 ?_
    refine lv_icmp_gt (tgt := 94) hx hb dX12_waysNow_50 (by decide) (fun c9 => ?_) (fun c9 => ?_)
    · have h := xit c9 h
      refine lv_iinc (v := x4 + 1) (lv' := [(4, .int (x4 + 1)), (0, .ref (g.q 0)), (1, .int x1), (2, .long x2), (5, .int x5)]) hx hb dX12_waysNow_94 hl (k := 3) rfl rfl (Nat.le_of_ble_eq_true rfl) rfl (fun ls hl => ?_)
      refine lv_goto (tgt := 30) hx hb dX12_waysNow_97 (by decide) ?_
      exact hk30 x1 x2 (x4 + 1) _ _ _ _ hW (lv_sub hl [1, 2, 3, 0] rfl) h
    · have h := xif c9 h
      refine lv_aload_n hx hb dX12_waysNow_53 rfl (lv_at hl 0 rfl) ?_
      refine xg_r C hW fg_12_163 KM_0 rfl dX12_waysNow_54 ?_
      refine lv_sipush (v := 576) hx hb dX12_waysNow_57 rfl ?_
      refine lv_iload hx hb dX12_waysNow_60 (lv_at hl 3 rfl) ?_
      refine lv_imul hx hb dX12_waysNow_62 ?_
      refine lv_bipush (v := 24) hx hb dX12_waysNow_63 rfl ?_
      refine lv_iload_n hx hb dX12_waysNow_65 rfl (lv_at hl 1 rfl) ?_
      refine lv_imul hx hb dX12_waysNow_66 ?_
      refine lv_iadd hx hb dX12_waysNow_67 ?_
      refine lv_iload hx hb dX12_waysNow_68 (lv_at hl 4 rfl) ?_
      refine lv_iadd hx hb dX12_waysNow_70 ?_
      refine lv_iconst (v := 1) hx hb dX12_waysNow_71 rfl ?_
      refine lv_isub hx hb dX12_waysNow_72 ?_
      obtain ⟨g10, h⟩ := xgd h
      refine xa_z C hW KM_50 g10 (x := σ.1 50 ((((576 * x4) + (24 * x1)) + x5) - 1).toNatClampNeg) rfl dX12_waysNow_73 ?_
      refine lv_if_eq (tgt := 88) hx hb dX12_waysNow_74 (by decide) (fun c11 => ?_) (fun c11 => ?_)
      · have h := xit c11 h
        refine lv_iinc (v := x5 + 1) (lv' := [(5, .int (x5 + 1)), (0, .ref (g.q 0)), (1, .int x1), (2, .long x2), (4, .int x4)]) hx hb dX12_waysNow_88 hl (k := 4) rfl rfl (Nat.le_of_ble_eq_true rfl) rfl (fun ls hl => ?_)
        refine lv_goto (tgt := 44) hx hb dX12_waysNow_91 (by decide) ?_
        exact ih x1 x2 x4 (x5 + 1) _ _ _ _ hW (lv_sub hl [1, 2, 3, 4, 0] rfl) h
      · have h := xif c11 h
        refine lv_lload_n hx hb dX12_waysNow_77 rfl (lv_at hl 2 rfl) ?_
        refine lv_aload_n hx hb dX12_waysNow_78 rfl (lv_at hl 0 rfl) ?_
        refine xg_r C hW fg_12_151 KM_0 rfl dX12_waysNow_79 ?_
        refine lv_iload hx hb dX12_waysNow_82 (lv_at hl 4 rfl) ?_
        obtain ⟨g12, h⟩ := xgd h
        refine xa_i C hW KM_46 g12 (x := σ.1 46 x5.toNatClampNeg) rfl dX12_waysNow_84 ?_
        refine lv_i2l (v := (σ.1 46 x5.toNatClampNeg).toInt64) hx hb dX12_waysNow_85 rfl ?_
        refine lv_ladd hx hb dX12_waysNow_86 ?_
        refine lv_lstore_n (lv' := [(2, .long (x2 + ((σ.1 46 x5.toNatClampNeg).toInt64))), (0, .ref (g.q 0)), (1, .int x1), (4, .int x4), (5, .int x5)]) hx hb dX12_waysNow_87 rfl hl (Nat.le_of_ble_eq_true rfl) rfl (fun ls hl => ?_)
        refine lv_iinc (v := x5 + 1) (lv' := [(5, .int (x5 + 1)), (2, .long (x2 + ((σ.1 46 x5.toNatClampNeg).toInt64))), (0, .ref (g.q 0)), (1, .int x1), (4, .int x4)]) hx hb dX12_waysNow_88 hl (k := 4) rfl rfl (Nat.le_of_ble_eq_true rfl) rfl (fun ls hl => ?_)
        refine lv_goto (tgt := 44) hx hb dX12_waysNow_91 (by decide) ?_
        exact ih x1 (x2 + ((σ.1 46 x5.toNatClampNeg).toInt64)) x4 (x5 + 1) _ _ _ _ hW (lv_sub hl [2, 3, 1, 4, 0] rfl) h
set_option maxRecDepth 4000 in
theorem w_X12_waysNow_121 (N : Nat) (k9 : Int32 → St → Option (Int32 × St)) {r : Int32} {σ' : St} (C : xC KM g RX12 cX12_waysNow 6 (some .int) p s m args meth c) (hk9 : ∀ (x1 : Int32) (σ : St) (H : Heap) (locs : List Loc) (ls : Array Slot), xW KM g s σ H locs → lv_has ls 6 [(0, .ref (g.q 0)), (1, .int x1)] → k9 x1 σ = some (r, σ') → W p l e rm_X12_waysNow s m args below meth c H locs 0 0 (MQ below (xPost KM g (some (.int r)) σ') args s 0 0 (xA KM g.q)) (F0 m 9 ls [])) : ∀ (x1 : Int32) (t1 : Int32) (t2 : Int32) (σ : St) (H : Heap) (locs : List Loc) (ls : Array Slot), xW KM g s σ H locs → lv_has ls 6 [(0, .ref (g.q 0)), (1, .int x1)] → f_X12_waysNow_121 N k9 x1 t1 t2 σ = some (r, σ') → W p l e rm_X12_waysNow s m args below meth c H locs 0 0 (MQ below (xPost KM g (some (.int r)) σ') args s 0 0 (xA KM g.q)) (F0 m 121 ls [.int t2, .int t1, .ref (g.q 46)]) := by
  have hx := C.1
  have hb := C.2.1
  intro x1 t1 t2 σ H locs ls hW hl h
  unfold f_X12_waysNow_121 at h
  obtain ⟨g13, h⟩ := xgd h
  refine xs_i C hW KM_46 g13 dX12_waysNow_121 (fun H locs hW => ?_)
  refine lv_iinc (v := x1 + (-1)) (lv' := [(1, .int (x1 + (-1))), (0, .ref (g.q 0))]) hx hb dX12_waysNow_122 hl (k := 1) rfl rfl (Nat.le_of_ble_eq_true rfl) rfl (fun ls hl => ?_)
  refine lv_goto (tgt := 9) hx hb dX12_waysNow_125 (by decide) ?_
  exact hk9 (x1 + (-1)) _ _ _ _ hW (lv_sub hl [1, 0] rfl) h
set_option maxRecDepth 4000 in
theorem w_X12_waysNow_30 (N : Nat) (k9 : Int32 → St → Option (Int32 × St)) {r : Int32} {σ' : St} (C : xC KM g RX12 cX12_waysNow 6 (some .int) p s m args meth c) (hk9 : ∀ (x1 : Int32) (σ : St) (H : Heap) (locs : List Loc) (ls : Array Slot), xW KM g s σ H locs → lv_has ls 6 [(0, .ref (g.q 0)), (1, .int x1)] → k9 x1 σ = some (r, σ') → W p l e rm_X12_waysNow s m args below meth c H locs 0 0 (MQ below (xPost KM g (some (.int r)) σ') args s 0 0 (xA KM g.q)) (F0 m 9 ls [])) : ∀ (n : Nat), ∀ (x1 : Int32) (x2 : Int64) (x4 : Int32) (σ : St) (H : Heap) (locs : List Loc) (ls : Array Slot), xW KM g s σ H locs → lv_has ls 6 [(0, .ref (g.q 0)), (1, .int x1), (2, .long x2), (4, .int x4)] → f_X12_waysNow_30 N k9 n x1 x2 x4 σ = some (r, σ') → W p l e rm_X12_waysNow s m args below meth c H locs 0 0 (MQ below (xPost KM g (some (.int r)) σ') args s 0 0 (xA KM g.q)) (F0 m 30 ls []) := by
  have hx := C.1
  have hb := C.2.1
  intro n
  induction n with
  | zero => intro x1 x2 x4 σ H locs ls hW hl h; rw [f_X12_waysNow_30] at h; cases h
  | succ n ih =>
    intro x1 x2 x4 σ H locs ls hW hl h
    rw [f_X12_waysNow_30] at h
    refine lv_iload hx hb dX12_waysNow_30 (lv_at hl 3 rfl) ?_
    refine lv_aload_n hx hb dX12_waysNow_32 rfl (lv_at hl 0 rfl) ?_
    refine xg_i C hW fg_12_408 KM_0 rfl (v := 1049) rfl (x := σ.1 1049 0) rfl dX12_waysNow_33 ?_
    refine lv_icmp_ge (tgt := 100) hx hb dX12_waysNow_36 (by decide) (fun c7 => ?_) (fun c7 => ?_)
    · have h := xit c7 h
      refine lv_aload_n hx hb dX12_waysNow_100 rfl (lv_at hl 0 rfl) ?_
      refine xg_r C hW fg_12_151 KM_0 rfl dX12_waysNow_101 ?_
      refine lv_iload_n hx hb dX12_waysNow_104 rfl (lv_at hl 1 rfl) ?_
      refine lv_lload_n hx hb dX12_waysNow_105 rfl (lv_at hl 2 rfl) ?_
      refine lv_ldc2 (v := 1000000000) hx hb C.ow (C.hts _ kl_X12_489) dX12_waysNow_106 ?_
      refine W.lcmp hx hb dX12_waysNow_109 ?_
      refine lv_if_le (tgt := 119) hx hb dX12_waysNow_110 (by decide) (fun c8 => ?_) (fun c8 => ?_)
      · have h := xit c8 h
        refine lv_lload_n hx hb dX12_waysNow_119 rfl (lv_at hl 2 rfl) ?_
        refine lv_l2i (v := x2.toInt32) hx hb dX12_waysNow_120 rfl ?_
        exact w_X12_waysNow_121 N k9 C hk9 x1 x1 x2.toInt32 _ _ _ _ hW (lv_sub hl [0, 1] rfl) h
      · have h := xif c8 h
        refine lv_ldcw (v := 1000000001) hx hb C.ow (C.hts _ kc_X12_491) dX12_waysNow_113 ?_
        refine lv_goto (tgt := 121) hx hb dX12_waysNow_116 (by decide) ?_
        exact w_X12_waysNow_121 N k9 C hk9 x1 x1 1000000001 _ _ _ _ hW (lv_sub hl [0, 1] rfl) h
    · have h := xif c7 h
      refine lv_iload_n hx hb dX12_waysNow_39 rfl (lv_at hl 1 rfl) ?_
      refine lv_iconst (v := 1) hx hb dX12_waysNow_40 rfl ?_
      refine lv_iadd hx hb dX12_waysNow_41 ?_
      refine lv_istore (lv' := [(5, .int (x1 + 1)), (0, .ref (g.q 0)), (1, .int x1), (2, .long x2), (4, .int x4)]) hx hb dX12_waysNow_42 hl (Nat.le_of_ble_eq_true rfl) rfl (fun ls hl => ?_)
      exact w_X12_waysNow_44 N k9 (f_X12_waysNow_30 N k9 n) C hk9 ih N x1 x2 x4 (x1 + 1) _ _ _ _ hW (lv_sub hl [1, 2, 3, 4, 0] rfl) h
set_option maxRecDepth 4000 in
theorem w_X12_waysNow_9 (N : Nat) {r : Int32} {σ' : St} (C : xC KM g RX12 cX12_waysNow 6 (some .int) p s m args meth c) : ∀ (n : Nat), ∀ (x1 : Int32) (σ : St) (H : Heap) (locs : List Loc) (ls : Array Slot), xW KM g s σ H locs → lv_has ls 6 [(0, .ref (g.q 0)), (1, .int x1)] → f_X12_waysNow_9 N n x1 σ = some (r, σ') → W p l e rm_X12_waysNow s m args below meth c H locs 0 0 (MQ below (xPost KM g (some (.int r)) σ') args s 0 0 (xA KM g.q)) (F0 m 9 ls []) := by
  have hx := C.1
  have hb := C.2.1
  intro n
  induction n with
  | zero => intro x1 σ H locs ls hW hl h; rw [f_X12_waysNow_9] at h; cases h
  | succ n ih =>
    intro x1 σ H locs ls hW hl h
    rw [f_X12_waysNow_9] at h
    refine lv_iload_n hx hb dX12_waysNow_9 rfl (lv_at hl 1 rfl) ?_
    refine lv_if_lt (tgt := 128) hx hb dX12_waysNow_10 (by decide) (fun c2 => ?_) (fun c2 => ?_)
    · have h := xit c2 h
      refine lv_aload_n hx hb dX12_waysNow_128 rfl (lv_at hl 0 rfl) ?_
      refine xg_r C hW fg_12_151 KM_0 rfl dX12_waysNow_129 ?_
      refine lv_iconst (v := 0) hx hb dX12_waysNow_132 rfl ?_
      obtain ⟨g3, h⟩ := xgd h
      refine xa_i C hW KM_46 g3 (x := σ.1 46 0) rfl dX12_waysNow_133 ?_
      refine lv_ldcw (v := 1000000000) hx hb C.ow (C.hts _ kc_X12_435) dX12_waysNow_134 ?_
      refine lv_icmp_le (tgt := 145) hx hb dX12_waysNow_137 (by decide) (fun c4 => ?_) (fun c4 => ?_)
      · have h := xit c4 h
        refine lv_aload_n hx hb dX12_waysNow_145 rfl (lv_at hl 0 rfl) ?_
        refine xg_r C hW fg_12_151 KM_0 rfl dX12_waysNow_146 ?_
        refine lv_iconst (v := 0) hx hb dX12_waysNow_149 rfl ?_
        obtain ⟨g5, h⟩ := xgd h
        refine xa_i C hW KM_46 g5 (x := σ.1 46 0) rfl dX12_waysNow_150 ?_
        cases h
        exact xr_i C hW dX12_waysNow_151
      · have h := xif c4 h
        refine lv_bipush (v := (-3)) hx hb dX12_waysNow_140 rfl ?_
        refine lv_goto (tgt := 151) hx hb dX12_waysNow_142 (by decide) ?_
        cases h
        exact xr_i C hW dX12_waysNow_151
    · have h := xif c2 h
      refine lv_iload_n hx hb dX12_waysNow_13 rfl (lv_at hl 1 rfl) ?_
      refine lv_aload_n hx hb dX12_waysNow_14 rfl (lv_at hl 0 rfl) ?_
      refine xg_i C hW fg_12_332 KM_0 rfl (v := 1069) rfl (x := σ.1 1069 0) rfl dX12_waysNow_15 ?_
      refine lv_icmp_ne (tgt := 25) hx hb dX12_waysNow_18 (by decide) (fun c6 => ?_) (fun c6 => ?_)
      · have h := xif c6 h
        refine lv_lconst (v := 0) hx hb dX12_waysNow_25 rfl ?_
        refine lv_lstore_n (lv' := [(2, .long 0), (0, .ref (g.q 0)), (1, .int x1)]) hx hb dX12_waysNow_26 rfl hl (Nat.le_of_ble_eq_true rfl) rfl (fun ls hl => ?_)
        refine lv_iconst (v := 0) hx hb dX12_waysNow_27 rfl ?_
        refine lv_istore (lv' := [(4, .int 0), (2, .long 0), (0, .ref (g.q 0)), (1, .int x1)]) hx hb dX12_waysNow_28 hl (Nat.le_of_ble_eq_true rfl) rfl (fun ls hl => ?_)
        exact w_X12_waysNow_30 N (f_X12_waysNow_9 N n) C ih N x1 0 0 _ _ _ _ hW (lv_sub hl [2, 3, 1, 0] rfl) h
      · have h := xit c6 h
        refine lv_lconst (v := 1) hx hb dX12_waysNow_21 rfl ?_
        refine lv_goto (tgt := 26) hx hb dX12_waysNow_22 (by decide) ?_
        refine lv_lstore_n (lv' := [(2, .long 1), (0, .ref (g.q 0)), (1, .int x1)]) hx hb dX12_waysNow_26 rfl hl (Nat.le_of_ble_eq_true rfl) rfl (fun ls hl => ?_)
        refine lv_iconst (v := 0) hx hb dX12_waysNow_27 rfl ?_
        refine lv_istore (lv' := [(4, .int 0), (2, .long 1), (0, .ref (g.q 0)), (1, .int x1)]) hx hb dX12_waysNow_28 hl (Nat.le_of_ble_eq_true rfl) rfl (fun ls hl => ?_)
        exact w_X12_waysNow_30 N (f_X12_waysNow_9 N n) C ih N x1 1 0 _ _ _ _ hW (lv_sub hl [2, 3, 1, 0] rfl) h
set_option maxRecDepth 4000 in
theorem m_X12_waysNow (N : Nat) (σ : St) {r : Int32} {σ' : St} (h : f_X12_waysNow N σ = some (r, σ')) : xM l KM g yX12_waysNow cX12_waysNow 6 (some .int) rm_X12_waysNow [.ref (g.q 0)] σ (some (.int r)) σ' := by
  refine xmet pn_X12 rfl (Nat.le_of_ble_eq_true rfl) (lv := [(0, .ref (g.q 0))]) rfl (fun p e s m args below meth c ls C hW hl => ?_)
  have hx := C.1
  have hb := C.2.1
  unfold f_X12_waysNow at h
  refine lv_aload_n hx hb dX12_waysNow_0 rfl (lv_at hl 0 rfl) ?_
  obtain ⟨σ1, e1, h⟩ := xbo h
  refine xc_V (As := []) (rest := []) C hW (m_X12_makeSpells N _ e1) mf_X12_makeSpells mv_X12_makeSpells ml_X12_486 ⟨rfl, rfl⟩ ⟨Nat.le_of_ble_eq_true rfl, Nat.le_of_ble_eq_true rfl⟩ KM_0 rfl hl.1 rfl rfl (Nat.le_of_ble_eq_true rfl) dX12_waysNow_1 (fun H locs hW => W.eq (g2 := F0 m 4 ls []) rfl ?_)
  refine lv_aload_n hx hb dX12_waysNow_4 rfl (lv_at hl 0 rfl) ?_
  refine xg_i C hW fg_12_332 KM_0 rfl (v := 1069) rfl (x := σ1.1 1069 0) rfl dX12_waysNow_5 ?_
  refine lv_istore_n (lv' := [(1, .int (σ1.1 1069 0)), (0, .ref (g.q 0))]) hx hb dX12_waysNow_8 rfl hl (Nat.le_of_ble_eq_true rfl) rfl (fun ls hl => ?_)
  exact w_X12_waysNow_9 N C N (σ1.1 1069 0) _ _ _ _ hW (lv_sub hl [1, 0] rfl) h
end
theorem dX12_ways_0 : decode cX12_ways 0 = .ok (.aload_n 0, 1) := by decide +kernel
theorem dX12_ways_1 : decode cX12_ways 1 = .ok (.getfield 332, 3) := by decide +kernel
theorem dX12_ways_4 : decode cX12_ways 4 = .ok (.ifCond .ne 6, 3) := by decide +kernel
theorem dX12_ways_7 : decode cX12_ways 7 = .ok (.bipush (-4), 2) := by decide +kernel
theorem dX12_ways_9 : decode cX12_ways 9 = .ok (.ireturn, 1) := by decide +kernel
theorem dX12_ways_10 : decode cX12_ways 10 = .ok (.aload_n 0, 1) := by decide +kernel
theorem dX12_ways_11 : decode cX12_ways 11 = .ok (.invokevirtual 462, 3) := by decide +kernel
theorem dX12_ways_14 : decode cX12_ways 14 = .ok (.aload_n 0, 1) := by decide +kernel
theorem dX12_ways_15 : decode cX12_ways 15 = .ok (.invokevirtual 492, 3) := by decide +kernel
theorem dX12_ways_18 : decode cX12_ways 18 = .ok (.ireturn, 1) := by decide +kernel
abbrev rm_X12_ways : Room := { frames := 5, cells := 0, slots := 0, locals := 125 }
def f_X12_ways (N : Nat) (σ : St) : Option (Int32 × St) := (if (σ.1 1069 0) = 0 then some ((-4), σ) else bo (f_X12_asListed N σ) (fun σ2 => bd (f_X12_waysNow N σ2) (fun r3_ σ3 => some (r3_, σ3))))
section
variable {p : Program} {l : Launch} {e : Env} {s : State} {m : MethodId} {args : Array Value} {below : List Frame} {meth : Method} {c : Code} {g : XG}
set_option maxRecDepth 4000 in
theorem m_X12_ways (N : Nat) (σ : St) {r : Int32} {σ' : St} (h : f_X12_ways N σ = some (r, σ')) : xM l KM g yX12_ways cX12_ways 1 (some .int) rm_X12_ways [.ref (g.q 0)] σ (some (.int r)) σ' := by
  refine xmet pn_X12 rfl (Nat.le_of_ble_eq_true rfl) (lv := [(0, .ref (g.q 0))]) rfl (fun p e s m args below meth c ls C hW hl => ?_)
  have hx := C.1
  have hb := C.2.1
  unfold f_X12_ways at h
  refine lv_aload_n hx hb dX12_ways_0 rfl (lv_at hl 0 rfl) ?_
  refine xg_i C hW fg_12_332 KM_0 rfl (v := 1069) rfl (x := σ.1 1069 0) rfl dX12_ways_1 ?_
  refine lv_if_ne (tgt := 10) hx hb dX12_ways_4 (by decide) (fun c1 => ?_) (fun c1 => ?_)
  · have h := xif c1 h
    refine lv_aload_n hx hb dX12_ways_10 rfl (lv_at hl 0 rfl) ?_
    obtain ⟨σ2, e2, h⟩ := xbo h
    refine xc_V (As := []) (rest := []) C hW (m_X12_asListed N _ e2) mf_X12_asListed mv_X12_asListed ml_X12_462 ⟨rfl, rfl⟩ ⟨Nat.le_of_ble_eq_true rfl, Nat.le_of_ble_eq_true rfl⟩ KM_0 rfl hl.1 rfl rfl (Nat.le_of_ble_eq_true rfl) dX12_ways_11 (fun H locs hW => W.eq (g2 := F0 m 14 ls []) rfl ?_)
    refine lv_aload_n hx hb dX12_ways_14 rfl (lv_at hl 0 rfl) ?_
    obtain ⟨r3_, σ3, e3, h⟩ := xbd h
    refine xc_V (As := []) (rest := []) C hW (m_X12_waysNow N _ e3) mf_X12_waysNow mv_X12_waysNow ml_X12_492 ⟨rfl, rfl⟩ ⟨Nat.le_of_ble_eq_true rfl, Nat.le_of_ble_eq_true rfl⟩ KM_0 rfl hl.1 rfl rfl (Nat.le_of_ble_eq_true rfl) dX12_ways_15 (fun H locs hW => W.eq (g2 := F0 m 18 ls [.int r3_]) rfl ?_)
    cases h
    exact xr_i C hW dX12_ways_18
  · have h := xit c1 h
    refine lv_bipush (v := (-4)) hx hb dX12_ways_7 rfl ?_
    cases h
    exact xr_i C hW dX12_ways_9
end
theorem dX12_isDay_0 : decode cX12_isDay 0 = .ok (.iload_n 0, 1) := by decide +kernel
theorem dX12_isDay_1 : decode cX12_isDay 1 = .ok (.iconst 0, 1) := by decide +kernel
theorem dX12_isDay_2 : decode cX12_isDay 2 = .ok (.sipush 999, 3) := by decide +kernel
theorem dX12_isDay_5 : decode cX12_isDay 5 = .ok (.invokestatic 295, 3) := by decide +kernel
theorem dX12_isDay_8 : decode cX12_isDay 8 = .ok (.ireturn, 1) := by decide +kernel
abbrev rm_X12_isDay : Room := { frames := 1, cells := 0, slots := 0, locals := 22 }
def f_X12_isDay (x0 : Int32) (σ : St) : Option Int32 := grd (zbb (f_X12_in x0 0 999 σ)) (some (f_X12_in x0 0 999 σ))
section
variable {p : Program} {l : Launch} {e : Env} {s : State} {m : MethodId} {args : Array Value} {below : List Frame} {meth : Method} {c : Code} {g : XG}
set_option maxRecDepth 4000 in
theorem m_X12_isDay (x0 : Int32) (σ : St) {r : Int32} (h : f_X12_isDay x0 σ = some r) : xM l KM g yX12_isDay cX12_isDay 1 (some .boolean) rm_X12_isDay [.int x0] σ (some (.int r)) σ := by
  refine xmet pn_X12 rfl (Nat.le_of_ble_eq_true rfl) (lv := [(0, .int x0)]) rfl (fun p e s m args below meth c ls C hW hl => ?_)
  have hx := C.1
  have hb := C.2.1
  unfold f_X12_isDay at h
  refine lv_iload_n hx hb dX12_isDay_0 rfl (lv_at hl 0 rfl) ?_
  refine lv_iconst (v := 0) hx hb dX12_isDay_1 rfl ?_
  refine lv_sipush (v := 999) hx hb dX12_isDay_2 rfl ?_
  refine xc_S (As := [.int x0, .int 0, .int 999]) (rest := []) C hW (m_X12_in x0 0 999 _ rfl) mf_X12_in mt_X12_in ml_X12_295 ⟨rfl, rfl⟩ ⟨Nat.le_of_ble_eq_true rfl, Nat.le_of_ble_eq_true rfl⟩ hl.1 rfl rfl (Nat.le_of_ble_eq_true rfl) dX12_isDay_5 (fun H locs hW => W.eq (g2 := F0 m 8 ls [.int (f_X12_in x0 0 999 σ)]) rfl ?_)
  obtain ⟨g1, h⟩ := xgd h
  cases h
  exact xr_z C hW g1 dX12_isDay_8
end
theorem dX12_valueAt_0 : decode cX12_valueAt 0 = .ok (.iconst (-1), 1) := by decide +kernel
theorem dX12_valueAt_1 : decode cX12_valueAt 1 = .ok (.istore 4, 2) := by decide +kernel
theorem dX12_valueAt_3 : decode cX12_valueAt 3 = .ok (.iconst 0, 1) := by decide +kernel
theorem dX12_valueAt_4 : decode cX12_valueAt 4 = .ok (.istore 5, 2) := by decide +kernel
theorem dX12_valueAt_6 : decode cX12_valueAt 6 = .ok (.iload 5, 2) := by decide +kernel
theorem dX12_valueAt_8 : decode cX12_valueAt 8 = .ok (.aload_n 0, 1) := by decide +kernel
theorem dX12_valueAt_9 : decode cX12_valueAt 9 = .ok (.getfield 335, 3) := by decide +kernel
theorem dX12_valueAt_12 : decode cX12_valueAt 12 = .ok (.if_icmp .ge 69, 3) := by decide +kernel
theorem dX12_valueAt_15 : decode cX12_valueAt 15 = .ok (.aload_n 0, 1) := by decide +kernel
theorem dX12_valueAt_16 : decode cX12_valueAt 16 = .ok (.getfield 209, 3) := by decide +kernel
theorem dX12_valueAt_19 : decode cX12_valueAt 19 = .ok (.iload 5, 2) := by decide +kernel
theorem dX12_valueAt_21 : decode cX12_valueAt 21 = .ok (.iaload, 1) := by decide +kernel
theorem dX12_valueAt_22 : decode cX12_valueAt 22 = .ok (.iload_n 1, 1) := by decide +kernel
theorem dX12_valueAt_23 : decode cX12_valueAt 23 = .ok (.if_icmp .ne 52, 3) := by decide +kernel
theorem dX12_valueAt_26 : decode cX12_valueAt 26 = .ok (.aload_n 0, 1) := by decide +kernel
theorem dX12_valueAt_27 : decode cX12_valueAt 27 = .ok (.getfield 215, 3) := by decide +kernel
theorem dX12_valueAt_30 : decode cX12_valueAt 30 = .ok (.iload 5, 2) := by decide +kernel
theorem dX12_valueAt_32 : decode cX12_valueAt 32 = .ok (.iaload, 1) := by decide +kernel
theorem dX12_valueAt_33 : decode cX12_valueAt 33 = .ok (.iload_n 3, 1) := by decide +kernel
theorem dX12_valueAt_34 : decode cX12_valueAt 34 = .ok (.if_icmp .gt 41, 3) := by decide +kernel
theorem dX12_valueAt_37 : decode cX12_valueAt 37 = .ok (.aload_n 0, 1) := by decide +kernel
theorem dX12_valueAt_38 : decode cX12_valueAt 38 = .ok (.getfield 212, 3) := by decide +kernel
theorem dX12_valueAt_41 : decode cX12_valueAt 41 = .ok (.iload 5, 2) := by decide +kernel
theorem dX12_valueAt_43 : decode cX12_valueAt 43 = .ok (.iaload, 1) := by decide +kernel
theorem dX12_valueAt_44 : decode cX12_valueAt 44 = .ok (.iload_n 2, 1) := by decide +kernel
theorem dX12_valueAt_45 : decode cX12_valueAt 45 = .ok (.if_icmp .gt 30, 3) := by decide +kernel
theorem dX12_valueAt_48 : decode cX12_valueAt 48 = .ok (.iload 4, 2) := by decide +kernel
theorem dX12_valueAt_50 : decode cX12_valueAt 50 = .ok (.iconst (-1), 1) := by decide +kernel
theorem dX12_valueAt_51 : decode cX12_valueAt 51 = .ok (.if_icmp .eq 20, 3) := by decide +kernel
theorem dX12_valueAt_54 : decode cX12_valueAt 54 = .ok (.aload_n 0, 1) := by decide +kernel
theorem dX12_valueAt_55 : decode cX12_valueAt 55 = .ok (.getfield 212, 3) := by decide +kernel
theorem dX12_valueAt_58 : decode cX12_valueAt 58 = .ok (.iload 5, 2) := by decide +kernel
theorem dX12_valueAt_60 : decode cX12_valueAt 60 = .ok (.iaload, 1) := by decide +kernel
theorem dX12_valueAt_61 : decode cX12_valueAt 61 = .ok (.aload_n 0, 1) := by decide +kernel
theorem dX12_valueAt_62 : decode cX12_valueAt 62 = .ok (.getfield 212, 3) := by decide +kernel
theorem dX12_valueAt_65 : decode cX12_valueAt 65 = .ok (.iload 4, 2) := by decide +kernel
theorem dX12_valueAt_67 : decode cX12_valueAt 67 = .ok (.iaload, 1) := by decide +kernel
theorem dX12_valueAt_68 : decode cX12_valueAt 68 = .ok (.if_icmp .lt 7, 3) := by decide +kernel
theorem dX12_valueAt_71 : decode cX12_valueAt 71 = .ok (.iload 5, 2) := by decide +kernel
theorem dX12_valueAt_73 : decode cX12_valueAt 73 = .ok (.istore 4, 2) := by decide +kernel
theorem dX12_valueAt_75 : decode cX12_valueAt 75 = .ok (.iinc 5 1, 3) := by decide +kernel
theorem dX12_valueAt_78 : decode cX12_valueAt 78 = .ok (.goto (-72), 3) := by decide +kernel
theorem dX12_valueAt_81 : decode cX12_valueAt 81 = .ok (.iload 4, 2) := by decide +kernel
theorem dX12_valueAt_83 : decode cX12_valueAt 83 = .ok (.ireturn, 1) := by decide +kernel
abbrev rm_X12_valueAt : Room := { frames := 0, cells := 0, slots := 0, locals := 0 }
def f_X12_valueAt_6 (N : Nat) : Nat → Int32 → Int32 → Int32 → Int32 → Int32 → St → Option Int32
  | 0, _, _, _, _, _, _ => none
  | n + 1, x1, x2, x3, x4, x5, σ => (if (σ.1 1096 0) ≤ x5 then some x4 else grd (ib x5 60) ((if (σ.1 65 x5.toNatClampNeg) = x1 then grd (ib x5 60) ((if x3 < (σ.1 67 x5.toNatClampNeg) then f_X12_valueAt_6 N n x1 x2 x3 x4 (x5 + 1) σ else grd (ib x5 60) ((if x2 < (σ.1 66 x5.toNatClampNeg) then f_X12_valueAt_6 N n x1 x2 x3 x4 (x5 + 1) σ else (if x4 = ((-1)) then f_X12_valueAt_6 N n x1 x2 x3 x5 (x5 + 1) σ else grd (ib x5 60) (grd (ib x4 60) ((if (σ.1 66 x5.toNatClampNeg) < (σ.1 66 x4.toNatClampNeg) then f_X12_valueAt_6 N n x1 x2 x3 x4 (x5 + 1) σ else f_X12_valueAt_6 N n x1 x2 x3 x5 (x5 + 1) σ)))))))) else f_X12_valueAt_6 N n x1 x2 x3 x4 (x5 + 1) σ)))
def f_X12_valueAt (N : Nat) (x1 : Int32) (x2 : Int32) (x3 : Int32) (σ : St) : Option Int32 := f_X12_valueAt_6 N N x1 x2 x3 ((-1)) 0 σ
section
variable {p : Program} {l : Launch} {e : Env} {s : State} {m : MethodId} {args : Array Value} {below : List Frame} {meth : Method} {c : Code} {g : XG}
set_option maxRecDepth 4000 in
theorem w_X12_valueAt_6 (N : Nat) (σ : St) {r : Int32} (C : xC KM g RX12 cX12_valueAt 6 (some .int) p s m args meth c) : ∀ (n : Nat), ∀ (x1 : Int32) (x2 : Int32) (x3 : Int32) (x4 : Int32) (x5 : Int32) (H : Heap) (locs : List Loc) (ls : Array Slot), xW KM g s σ H locs → lv_has ls 6 [(0, .ref (g.q 0)), (1, .int x1), (2, .int x2), (3, .int x3), (4, .int x4), (5, .int x5)] → f_X12_valueAt_6 N n x1 x2 x3 x4 x5 σ = some r → W p l e rm_X12_valueAt s m args below meth c H locs 0 0 (MQ below (xPost KM g (some (.int r)) σ) args s 0 0 (xA KM g.q)) (F0 m 6 ls []) := by
  have hx := C.1
  have hb := C.2.1
  intro n
  induction n with
  | zero => intro x1 x2 x3 x4 x5 H locs ls hW hl h; rw [f_X12_valueAt_6] at h; cases h
  | succ n ih =>
    intro x1 x2 x3 x4 x5 H locs ls hW hl h
    rw [f_X12_valueAt_6] at h
    refine lv_iload hx hb dX12_valueAt_6 (lv_at hl 5 rfl) ?_
    refine lv_aload_n hx hb dX12_valueAt_8 rfl (lv_at hl 0 rfl) ?_
    refine xg_i C hW fg_12_335 KM_0 rfl (v := 1096) rfl (x := σ.1 1096 0) rfl dX12_valueAt_9 ?_
    refine lv_icmp_ge (tgt := 81) hx hb dX12_valueAt_12 (by decide) (fun c1 => ?_) (fun c1 => ?_)
    · have h := xit c1 h
      refine lv_iload hx hb dX12_valueAt_81 (lv_at hl 4 rfl) ?_
      cases h
      exact xr_i C hW dX12_valueAt_83
    · have h := xif c1 h
      refine lv_aload_n hx hb dX12_valueAt_15 rfl (lv_at hl 0 rfl) ?_
      refine xg_r C hW fg_12_209 KM_0 rfl dX12_valueAt_16 ?_
      refine lv_iload hx hb dX12_valueAt_19 (lv_at hl 5 rfl) ?_
      obtain ⟨g2, h⟩ := xgd h
      refine xa_i C hW KM_65 g2 (x := σ.1 65 x5.toNatClampNeg) rfl dX12_valueAt_21 ?_
      refine lv_iload_n hx hb dX12_valueAt_22 rfl (lv_at hl 1 rfl) ?_
      refine lv_icmp_ne (tgt := 75) hx hb dX12_valueAt_23 (by decide) (fun c3 => ?_) (fun c3 => ?_)
      · have h := xif c3 h
        refine lv_iinc (v := x5 + 1) (lv' := [(5, .int (x5 + 1)), (0, .ref (g.q 0)), (1, .int x1), (2, .int x2), (3, .int x3), (4, .int x4)]) hx hb dX12_valueAt_75 hl (k := 5) rfl rfl (Nat.le_of_ble_eq_true rfl) rfl (fun ls hl => ?_)
        refine lv_goto (tgt := 6) hx hb dX12_valueAt_78 (by decide) ?_
        exact ih x1 x2 x3 x4 (x5 + 1) _ _ _ hW (lv_sub hl [1, 2, 3, 4, 5, 0] rfl) h
      · have h := xit c3 h
        refine lv_aload_n hx hb dX12_valueAt_26 rfl (lv_at hl 0 rfl) ?_
        refine xg_r C hW fg_12_215 KM_0 rfl dX12_valueAt_27 ?_
        refine lv_iload hx hb dX12_valueAt_30 (lv_at hl 5 rfl) ?_
        obtain ⟨g4, h⟩ := xgd h
        refine xa_i C hW KM_67 g4 (x := σ.1 67 x5.toNatClampNeg) rfl dX12_valueAt_32 ?_
        refine lv_iload_n hx hb dX12_valueAt_33 rfl (lv_at hl 3 rfl) ?_
        refine lv_icmp_gt (tgt := 75) hx hb dX12_valueAt_34 (by decide) (fun c5 => ?_) (fun c5 => ?_)
        · have h := xit c5 h
          refine lv_iinc (v := x5 + 1) (lv' := [(5, .int (x5 + 1)), (0, .ref (g.q 0)), (1, .int x1), (2, .int x2), (3, .int x3), (4, .int x4)]) hx hb dX12_valueAt_75 hl (k := 5) rfl rfl (Nat.le_of_ble_eq_true rfl) rfl (fun ls hl => ?_)
          refine lv_goto (tgt := 6) hx hb dX12_valueAt_78 (by decide) ?_
          exact ih x1 x2 x3 x4 (x5 + 1) _ _ _ hW (lv_sub hl [1, 2, 3, 4, 5, 0] rfl) h
        · have h := xif c5 h
          refine lv_aload_n hx hb dX12_valueAt_37 rfl (lv_at hl 0 rfl) ?_
          refine xg_r C hW fg_12_212 KM_0 rfl dX12_valueAt_38 ?_
          refine lv_iload hx hb dX12_valueAt_41 (lv_at hl 5 rfl) ?_
          obtain ⟨g6, h⟩ := xgd h
          refine xa_i C hW KM_66 g6 (x := σ.1 66 x5.toNatClampNeg) rfl dX12_valueAt_43 ?_
          refine lv_iload_n hx hb dX12_valueAt_44 rfl (lv_at hl 2 rfl) ?_
          refine lv_icmp_gt (tgt := 75) hx hb dX12_valueAt_45 (by decide) (fun c7 => ?_) (fun c7 => ?_)
          · have h := xit c7 h
            refine lv_iinc (v := x5 + 1) (lv' := [(5, .int (x5 + 1)), (0, .ref (g.q 0)), (1, .int x1), (2, .int x2), (3, .int x3), (4, .int x4)]) hx hb dX12_valueAt_75 hl (k := 5) rfl rfl (Nat.le_of_ble_eq_true rfl) rfl (fun ls hl => ?_)
            refine lv_goto (tgt := 6) hx hb dX12_valueAt_78 (by decide) ?_
            exact ih x1 x2 x3 x4 (x5 + 1) _ _ _ hW (lv_sub hl [1, 2, 3, 4, 5, 0] rfl) h
          · have h := xif c7 h
            refine lv_iload hx hb dX12_valueAt_48 (lv_at hl 4 rfl) ?_
            refine lv_iconst (v := (-1)) hx hb dX12_valueAt_50 rfl ?_
            refine lv_icmp_eq (tgt := 71) hx hb dX12_valueAt_51 (by decide) (fun c8 => ?_) (fun c8 => ?_)
            · have h := xit c8 h
              refine lv_iload hx hb dX12_valueAt_71 (lv_at hl 5 rfl) ?_
              refine lv_istore (lv' := [(4, .int x5), (0, .ref (g.q 0)), (1, .int x1), (2, .int x2), (3, .int x3), (5, .int x5)]) hx hb dX12_valueAt_73 hl (Nat.le_of_ble_eq_true rfl) rfl (fun ls hl => ?_)
              refine lv_iinc (v := x5 + 1) (lv' := [(5, .int (x5 + 1)), (4, .int x5), (0, .ref (g.q 0)), (1, .int x1), (2, .int x2), (3, .int x3)]) hx hb dX12_valueAt_75 hl (k := 5) rfl rfl (Nat.le_of_ble_eq_true rfl) rfl (fun ls hl => ?_)
              refine lv_goto (tgt := 6) hx hb dX12_valueAt_78 (by decide) ?_
              exact ih x1 x2 x3 x5 (x5 + 1) _ _ _ hW (lv_sub hl [2, 3, 4, 5, 1, 0] rfl) h
            · have h := xif c8 h
              refine lv_aload_n hx hb dX12_valueAt_54 rfl (lv_at hl 0 rfl) ?_
              refine xg_r C hW fg_12_212 KM_0 rfl dX12_valueAt_55 ?_
              refine lv_iload hx hb dX12_valueAt_58 (lv_at hl 5 rfl) ?_
              obtain ⟨g9, h⟩ := xgd h
              refine xa_i C hW KM_66 g9 (x := σ.1 66 x5.toNatClampNeg) rfl dX12_valueAt_60 ?_
              refine lv_aload_n hx hb dX12_valueAt_61 rfl (lv_at hl 0 rfl) ?_
              refine xg_r C hW fg_12_212 KM_0 rfl dX12_valueAt_62 ?_
              refine lv_iload hx hb dX12_valueAt_65 (lv_at hl 4 rfl) ?_
              obtain ⟨g10, h⟩ := xgd h
              refine xa_i C hW KM_66 g10 (x := σ.1 66 x4.toNatClampNeg) rfl dX12_valueAt_67 ?_
              refine lv_icmp_lt (tgt := 75) hx hb dX12_valueAt_68 (by decide) (fun c11 => ?_) (fun c11 => ?_)
              · have h := xit c11 h
                refine lv_iinc (v := x5 + 1) (lv' := [(5, .int (x5 + 1)), (0, .ref (g.q 0)), (1, .int x1), (2, .int x2), (3, .int x3), (4, .int x4)]) hx hb dX12_valueAt_75 hl (k := 5) rfl rfl (Nat.le_of_ble_eq_true rfl) rfl (fun ls hl => ?_)
                refine lv_goto (tgt := 6) hx hb dX12_valueAt_78 (by decide) ?_
                exact ih x1 x2 x3 x4 (x5 + 1) _ _ _ hW (lv_sub hl [1, 2, 3, 4, 5, 0] rfl) h
              · have h := xif c11 h
                refine lv_iload hx hb dX12_valueAt_71 (lv_at hl 5 rfl) ?_
                refine lv_istore (lv' := [(4, .int x5), (0, .ref (g.q 0)), (1, .int x1), (2, .int x2), (3, .int x3), (5, .int x5)]) hx hb dX12_valueAt_73 hl (Nat.le_of_ble_eq_true rfl) rfl (fun ls hl => ?_)
                refine lv_iinc (v := x5 + 1) (lv' := [(5, .int (x5 + 1)), (4, .int x5), (0, .ref (g.q 0)), (1, .int x1), (2, .int x2), (3, .int x3)]) hx hb dX12_valueAt_75 hl (k := 5) rfl rfl (Nat.le_of_ble_eq_true rfl) rfl (fun ls hl => ?_)
                refine lv_goto (tgt := 6) hx hb dX12_valueAt_78 (by decide) ?_
                exact ih x1 x2 x3 x5 (x5 + 1) _ _ _ hW (lv_sub hl [2, 3, 4, 5, 1, 0] rfl) h
set_option maxRecDepth 4000 in
theorem m_X12_valueAt (N : Nat) (x1 : Int32) (x2 : Int32) (x3 : Int32) (σ : St) {r : Int32} (h : f_X12_valueAt N x1 x2 x3 σ = some r) : xM l KM g yX12_valueAt cX12_valueAt 6 (some .int) rm_X12_valueAt [.ref (g.q 0), .int x1, .int x2, .int x3] σ (some (.int r)) σ := by
  refine xmet pn_X12 rfl (Nat.le_of_ble_eq_true rfl) (lv := [(0, .ref (g.q 0)), (1, .int x1), (2, .int x2), (3, .int x3)]) rfl (fun p e s m args below meth c ls C hW hl => ?_)
  have hx := C.1
  have hb := C.2.1
  unfold f_X12_valueAt at h
  refine lv_iconst (v := (-1)) hx hb dX12_valueAt_0 rfl ?_
  refine lv_istore (lv' := [(4, .int ((-1))), (0, .ref (g.q 0)), (1, .int x1), (2, .int x2), (3, .int x3)]) hx hb dX12_valueAt_1 hl (Nat.le_of_ble_eq_true rfl) rfl (fun ls hl => ?_)
  refine lv_iconst (v := 0) hx hb dX12_valueAt_3 rfl ?_
  refine lv_istore (lv' := [(5, .int 0), (4, .int ((-1))), (0, .ref (g.q 0)), (1, .int x1), (2, .int x2), (3, .int x3)]) hx hb dX12_valueAt_4 hl (Nat.le_of_ble_eq_true rfl) rfl (fun ls hl => ?_)
  exact w_X12_valueAt_6 N σ C N x1 x2 x3 ((-1)) 0 _ _ _ hW (lv_sub hl [2, 3, 4, 5, 1, 0] rfl) h
end
theorem dX12_waysOn_0 : decode cX12_waysOn 0 = .ok (.iload_n 1, 1) := by decide +kernel
theorem dX12_waysOn_1 : decode cX12_waysOn 1 = .ok (.invokestatic 495, 3) := by decide +kernel
theorem dX12_waysOn_4 : decode cX12_waysOn 4 = .ok (.ifCond .eq 10, 3) := by decide +kernel
theorem dX12_waysOn_7 : decode cX12_waysOn 7 = .ok (.iload_n 2, 1) := by decide +kernel
theorem dX12_waysOn_8 : decode cX12_waysOn 8 = .ok (.invokestatic 495, 3) := by decide +kernel
theorem dX12_waysOn_11 : decode cX12_waysOn 11 = .ok (.ifCond .ne 6, 3) := by decide +kernel
theorem dX12_waysOn_14 : decode cX12_waysOn 14 = .ok (.bipush (-2), 2) := by decide +kernel
theorem dX12_waysOn_16 : decode cX12_waysOn 16 = .ok (.ireturn, 1) := by decide +kernel
theorem dX12_waysOn_17 : decode cX12_waysOn 17 = .ok (.aload_n 0, 1) := by decide +kernel
theorem dX12_waysOn_18 : decode cX12_waysOn 18 = .ok (.getfield 332, 3) := by decide +kernel
theorem dX12_waysOn_21 : decode cX12_waysOn 21 = .ok (.ifCond .ne 6, 3) := by decide +kernel
theorem dX12_waysOn_24 : decode cX12_waysOn 24 = .ok (.bipush (-4), 2) := by decide +kernel
theorem dX12_waysOn_26 : decode cX12_waysOn 26 = .ok (.ireturn, 1) := by decide +kernel
theorem dX12_waysOn_27 : decode cX12_waysOn 27 = .ok (.aload_n 0, 1) := by decide +kernel
theorem dX12_waysOn_28 : decode cX12_waysOn 28 = .ok (.invokevirtual 462, 3) := by decide +kernel
theorem dX12_waysOn_31 : decode cX12_waysOn 31 = .ok (.iconst 0, 1) := by decide +kernel
theorem dX12_waysOn_32 : decode cX12_waysOn 32 = .ok (.istore_n 3, 1) := by decide +kernel
theorem dX12_waysOn_33 : decode cX12_waysOn 33 = .ok (.iload_n 3, 1) := by decide +kernel
theorem dX12_waysOn_34 : decode cX12_waysOn 34 = .ok (.aload_n 0, 1) := by decide +kernel
theorem dX12_waysOn_35 : decode cX12_waysOn 35 = .ok (.getfield 21, 3) := by decide +kernel
theorem dX12_waysOn_38 : decode cX12_waysOn 38 = .ok (.iconst 0, 1) := by decide +kernel
theorem dX12_waysOn_39 : decode cX12_waysOn 39 = .ok (.iaload, 1) := by decide +kernel
theorem dX12_waysOn_40 : decode cX12_waysOn 40 = .ok (.if_icmp .ge 85, 3) := by decide +kernel
theorem dX12_waysOn_43 : decode cX12_waysOn 43 = .ok (.aload_n 0, 1) := by decide +kernel
theorem dX12_waysOn_44 : decode cX12_waysOn 44 = .ok (.iload_n 3, 1) := by decide +kernel
theorem dX12_waysOn_45 : decode cX12_waysOn 45 = .ok (.iload_n 1, 1) := by decide +kernel
theorem dX12_waysOn_46 : decode cX12_waysOn 46 = .ok (.iload_n 2, 1) := by decide +kernel
theorem dX12_waysOn_47 : decode cX12_waysOn 47 = .ok (.invokevirtual 498, 3) := by decide +kernel
theorem dX12_waysOn_50 : decode cX12_waysOn 50 = .ok (.istore 4, 2) := by decide +kernel
theorem dX12_waysOn_52 : decode cX12_waysOn 52 = .ok (.iload 4, 2) := by decide +kernel
theorem dX12_waysOn_54 : decode cX12_waysOn 54 = .ok (.iconst (-1), 1) := by decide +kernel
theorem dX12_waysOn_55 : decode cX12_waysOn 55 = .ok (.if_icmp .ne 6, 3) := by decide +kernel
theorem dX12_waysOn_58 : decode cX12_waysOn 58 = .ok (.goto 61, 3) := by decide +kernel
theorem dX12_waysOn_61 : decode cX12_waysOn 61 = .ok (.aload_n 0, 1) := by decide +kernel
theorem dX12_waysOn_62 : decode cX12_waysOn 62 = .ok (.getfield 115, 3) := by decide +kernel
theorem dX12_waysOn_65 : decode cX12_waysOn 65 = .ok (.iload_n 3, 1) := by decide +kernel
theorem dX12_waysOn_66 : decode cX12_waysOn 66 = .ok (.iconst 1, 1) := by decide +kernel
theorem dX12_waysOn_67 : decode cX12_waysOn 67 = .ok (.iastore, 1) := by decide +kernel
theorem dX12_waysOn_68 : decode cX12_waysOn 68 = .ok (.aload_n 0, 1) := by decide +kernel
theorem dX12_waysOn_69 : decode cX12_waysOn 69 = .ok (.getfield 118, 3) := by decide +kernel
theorem dX12_waysOn_72 : decode cX12_waysOn 72 = .ok (.iload_n 3, 1) := by decide +kernel
theorem dX12_waysOn_73 : decode cX12_waysOn 73 = .ok (.aload_n 0, 1) := by decide +kernel
theorem dX12_waysOn_74 : decode cX12_waysOn 74 = .ok (.getfield 218, 3) := by decide +kernel
theorem dX12_waysOn_77 : decode cX12_waysOn 77 = .ok (.iload 4, 2) := by decide +kernel
theorem dX12_waysOn_79 : decode cX12_waysOn 79 = .ok (.iaload, 1) := by decide +kernel
theorem dX12_waysOn_80 : decode cX12_waysOn 80 = .ok (.iastore, 1) := by decide +kernel
theorem dX12_waysOn_81 : decode cX12_waysOn 81 = .ok (.iconst 0, 1) := by decide +kernel
theorem dX12_waysOn_82 : decode cX12_waysOn 82 = .ok (.istore 5, 2) := by decide +kernel
theorem dX12_waysOn_84 : decode cX12_waysOn 84 = .ok (.iload 5, 2) := by decide +kernel
theorem dX12_waysOn_86 : decode cX12_waysOn 86 = .ok (.iconst 3, 1) := by decide +kernel
theorem dX12_waysOn_87 : decode cX12_waysOn 87 = .ok (.if_icmp .ge 32, 3) := by decide +kernel
theorem dX12_waysOn_90 : decode cX12_waysOn 90 = .ok (.aload_n 0, 1) := by decide +kernel
theorem dX12_waysOn_91 : decode cX12_waysOn 91 = .ok (.getfield 121, 3) := by decide +kernel
theorem dX12_waysOn_94 : decode cX12_waysOn 94 = .ok (.iconst 3, 1) := by decide +kernel
theorem dX12_waysOn_95 : decode cX12_waysOn 95 = .ok (.iload_n 3, 1) := by decide +kernel
theorem dX12_waysOn_96 : decode cX12_waysOn 96 = .ok (.imul, 1) := by decide +kernel
theorem dX12_waysOn_97 : decode cX12_waysOn 97 = .ok (.iload 5, 2) := by decide +kernel
theorem dX12_waysOn_99 : decode cX12_waysOn 99 = .ok (.iadd, 1) := by decide +kernel
theorem dX12_waysOn_100 : decode cX12_waysOn 100 = .ok (.aload_n 0, 1) := by decide +kernel
theorem dX12_waysOn_101 : decode cX12_waysOn 101 = .ok (.getfield 221, 3) := by decide +kernel
theorem dX12_waysOn_104 : decode cX12_waysOn 104 = .ok (.iconst 3, 1) := by decide +kernel
theorem dX12_waysOn_105 : decode cX12_waysOn 105 = .ok (.iload 4, 2) := by decide +kernel
theorem dX12_waysOn_107 : decode cX12_waysOn 107 = .ok (.imul, 1) := by decide +kernel
theorem dX12_waysOn_108 : decode cX12_waysOn 108 = .ok (.iload 5, 2) := by decide +kernel
theorem dX12_waysOn_110 : decode cX12_waysOn 110 = .ok (.iadd, 1) := by decide +kernel
theorem dX12_waysOn_111 : decode cX12_waysOn 111 = .ok (.iaload, 1) := by decide +kernel
theorem dX12_waysOn_112 : decode cX12_waysOn 112 = .ok (.iastore, 1) := by decide +kernel
theorem dX12_waysOn_113 : decode cX12_waysOn 113 = .ok (.iinc 5 1, 3) := by decide +kernel
theorem dX12_waysOn_116 : decode cX12_waysOn 116 = .ok (.goto (-32), 3) := by decide +kernel
theorem dX12_waysOn_119 : decode cX12_waysOn 119 = .ok (.iinc 3 1, 3) := by decide +kernel
theorem dX12_waysOn_122 : decode cX12_waysOn 122 = .ok (.goto (-89), 3) := by decide +kernel
theorem dX12_waysOn_125 : decode cX12_waysOn 125 = .ok (.aload_n 0, 1) := by decide +kernel
theorem dX12_waysOn_126 : decode cX12_waysOn 126 = .ok (.invokevirtual 492, 3) := by decide +kernel
theorem dX12_waysOn_129 : decode cX12_waysOn 129 = .ok (.ireturn, 1) := by decide +kernel
abbrev rm_X12_waysOn : Room := { frames := 5, cells := 0, slots := 0, locals := 125 }
def f_X12_waysOn_84 (N : Nat) (k33 : Int32 → Int32 → Int32 → St → Option (Int32 × St)) : Nat → Int32 → Int32 → Int32 → Int32 → Int32 → St → Option (Int32 × St)
  | 0, _, _, _, _, _, _ => none
  | n + 1, x1, x2, x3, x4, x5, σ => (if 3 ≤ x5 then k33 x1 x2 (x3 + 1) σ else grd (ib ((3 * x4) + x5) 180) (grd (ib ((3 * x3) + x5) 120) (f_X12_waysOn_84 N k33 n x1 x2 x3 x4 (x5 + 1) (si σ 36 ((3 * x3) + x5).toNatClampNeg (σ.1 69 ((3 * x4) + x5).toNatClampNeg)))))
def f_X12_waysOn_33 (N : Nat) : Nat → Int32 → Int32 → Int32 → St → Option (Int32 × St)
  | 0, _, _, _, _ => none
  | n + 1, x1, x2, x3, σ => grd (ib 0 2) ((if (σ.1 3 0) ≤ x3 then bd (f_X12_waysNow N σ) (fun r9_ σ9 => some (r9_, σ9)) else bo (f_X12_valueAt N x3 x1 x2 σ) (fun r10_ => (if r10_ = ((-1)) then f_X12_waysOn_33 N n x1 x2 (x3 + 1) σ else grd (ib x3 40) (grd (ib r10_ 60) (grd (ib x3 40) (f_X12_waysOn_84 N (f_X12_waysOn_33 N n) N x1 x2 x3 r10_ 0 (si (si σ 34 x3.toNatClampNeg 1) 35 x3.toNatClampNeg (σ.1 68 r10_.toNatClampNeg)))))))))
def f_X12_waysOn (N : Nat) (x1 : Int32) (x2 : Int32) (σ : St) : Option (Int32 × St) := bo (f_X12_isDay x1 σ) (fun r1_ => (if r1_ = 0 then some ((-2), σ) else bo (f_X12_isDay x2 σ) (fun r3_ => (if r3_ = 0 then some ((-2), σ) else (if (σ.1 1069 0) = 0 then some ((-4), σ) else bo (f_X12_asListed N σ) (fun σ6 => f_X12_waysOn_33 N N x1 x2 0 σ6))))))
section
variable {p : Program} {l : Launch} {e : Env} {s : State} {m : MethodId} {args : Array Value} {below : List Frame} {meth : Method} {c : Code} {g : XG}
set_option maxRecDepth 4000 in
theorem w_X12_waysOn_84 (N : Nat) (k33 : Int32 → Int32 → Int32 → St → Option (Int32 × St)) {r : Int32} {σ' : St} (C : xC KM g RX12 cX12_waysOn 6 (some .int) p s m args meth c) (hk33 : ∀ (x1 : Int32) (x2 : Int32) (x3 : Int32) (σ : St) (H : Heap) (locs : List Loc) (ls : Array Slot), xW KM g s σ H locs → lv_has ls 6 [(0, .ref (g.q 0)), (1, .int x1), (2, .int x2), (3, .int x3)] → k33 x1 x2 x3 σ = some (r, σ') → W p l e rm_X12_waysOn s m args below meth c H locs 0 0 (MQ below (xPost KM g (some (.int r)) σ') args s 0 0 (xA KM g.q)) (F0 m 33 ls [])) : ∀ (n : Nat), ∀ (x1 : Int32) (x2 : Int32) (x3 : Int32) (x4 : Int32) (x5 : Int32) (σ : St) (H : Heap) (locs : List Loc) (ls : Array Slot), xW KM g s σ H locs → lv_has ls 6 [(0, .ref (g.q 0)), (1, .int x1), (2, .int x2), (3, .int x3), (4, .int x4), (5, .int x5)] → f_X12_waysOn_84 N k33 n x1 x2 x3 x4 x5 σ = some (r, σ') → W p l e rm_X12_waysOn s m args below meth c H locs 0 0 (MQ below (xPost KM g (some (.int r)) σ') args s 0 0 (xA KM g.q)) (F0 m 84 ls []) := by
  have hx := C.1
  have hb := C.2.1
  intro n
  induction n with
  | zero => intro x1 x2 x3 x4 x5 σ H locs ls hW hl h; rw [f_X12_waysOn_84] at h; cases h
  | succ n ih =>
    intro x1 x2 x3 x4 x5 σ H locs ls hW hl h
    rw [f_X12_waysOn_84] at h
    refine lv_iload hx hb dX12_waysOn_84 (lv_at hl 5 rfl) ?_
    refine lv_iconst (v := 3) hx hb dX12_waysOn_86 rfl ?_
    refine lv_icmp_ge (tgt := 119) hx hb dX12_waysOn_87 (by decide) (fun c15 => ?_) (fun c15 => ?_)
    · have h := xit c15 h
      refine lv_iinc (v := x3 + 1) (lv' := [(3, .int (x3 + 1)), (0, .ref (g.q 0)), (1, .int x1), (2, .int x2), (4, .int x4), (5, .int x5)]) hx hb dX12_waysOn_119 hl (k := 3) rfl rfl (Nat.le_of_ble_eq_true rfl) rfl (fun ls hl => ?_)
      refine lv_goto (tgt := 33) hx hb dX12_waysOn_122 (by decide) ?_
      exact hk33 x1 x2 (x3 + 1) _ _ _ _ hW (lv_sub hl [1, 2, 3, 0] rfl) h
    · have h := xif c15 h
      refine lv_aload_n hx hb dX12_waysOn_90 rfl (lv_at hl 0 rfl) ?_
      refine xg_r C hW fg_12_121 KM_0 rfl dX12_waysOn_91 ?_
      refine lv_iconst (v := 3) hx hb dX12_waysOn_94 rfl ?_
      refine lv_iload_n hx hb dX12_waysOn_95 rfl (lv_at hl 3 rfl) ?_
      refine lv_imul hx hb dX12_waysOn_96 ?_
      refine lv_iload hx hb dX12_waysOn_97 (lv_at hl 5 rfl) ?_
      refine lv_iadd hx hb dX12_waysOn_99 ?_
      refine lv_aload_n hx hb dX12_waysOn_100 rfl (lv_at hl 0 rfl) ?_
      refine xg_r C hW fg_12_221 KM_0 rfl dX12_waysOn_101 ?_
      refine lv_iconst (v := 3) hx hb dX12_waysOn_104 rfl ?_
      refine lv_iload hx hb dX12_waysOn_105 (lv_at hl 4 rfl) ?_
      refine lv_imul hx hb dX12_waysOn_107 ?_
      refine lv_iload hx hb dX12_waysOn_108 (lv_at hl 5 rfl) ?_
      refine lv_iadd hx hb dX12_waysOn_110 ?_
      obtain ⟨g16, h⟩ := xgd h
      refine xa_i C hW KM_69 g16 (x := σ.1 69 ((3 * x4) + x5).toNatClampNeg) rfl dX12_waysOn_111 ?_
      obtain ⟨g17, h⟩ := xgd h
      refine xs_i C hW KM_36 g17 dX12_waysOn_112 (fun H locs hW => ?_)
      refine lv_iinc (v := x5 + 1) (lv' := [(5, .int (x5 + 1)), (0, .ref (g.q 0)), (1, .int x1), (2, .int x2), (3, .int x3), (4, .int x4)]) hx hb dX12_waysOn_113 hl (k := 5) rfl rfl (Nat.le_of_ble_eq_true rfl) rfl (fun ls hl => ?_)
      refine lv_goto (tgt := 84) hx hb dX12_waysOn_116 (by decide) ?_
      exact ih x1 x2 x3 x4 (x5 + 1) _ _ _ _ hW (lv_sub hl [1, 2, 3, 4, 5, 0] rfl) h
set_option maxRecDepth 4000 in
theorem w_X12_waysOn_33 (N : Nat) {r : Int32} {σ' : St} (C : xC KM g RX12 cX12_waysOn 6 (some .int) p s m args meth c) : ∀ (n : Nat), ∀ (x1 : Int32) (x2 : Int32) (x3 : Int32) (σ : St) (H : Heap) (locs : List Loc) (ls : Array Slot), xW KM g s σ H locs → lv_has ls 6 [(0, .ref (g.q 0)), (1, .int x1), (2, .int x2), (3, .int x3)] → f_X12_waysOn_33 N n x1 x2 x3 σ = some (r, σ') → W p l e rm_X12_waysOn s m args below meth c H locs 0 0 (MQ below (xPost KM g (some (.int r)) σ') args s 0 0 (xA KM g.q)) (F0 m 33 ls []) := by
  have hx := C.1
  have hb := C.2.1
  intro n
  induction n with
  | zero => intro x1 x2 x3 σ H locs ls hW hl h; rw [f_X12_waysOn_33] at h; cases h
  | succ n ih =>
    intro x1 x2 x3 σ H locs ls hW hl h
    rw [f_X12_waysOn_33] at h
    refine lv_iload_n hx hb dX12_waysOn_33 rfl (lv_at hl 3 rfl) ?_
    refine lv_aload_n hx hb dX12_waysOn_34 rfl (lv_at hl 0 rfl) ?_
    refine xg_r C hW fg_12_21 KM_0 rfl dX12_waysOn_35 ?_
    refine lv_iconst (v := 0) hx hb dX12_waysOn_38 rfl ?_
    obtain ⟨g7, h⟩ := xgd h
    refine xa_i C hW KM_3 g7 (x := σ.1 3 0) rfl dX12_waysOn_39 ?_
    refine lv_icmp_ge (tgt := 125) hx hb dX12_waysOn_40 (by decide) (fun c8 => ?_) (fun c8 => ?_)
    · have h := xit c8 h
      refine lv_aload_n hx hb dX12_waysOn_125 rfl (lv_at hl 0 rfl) ?_
      obtain ⟨r9_, σ9, e9, h⟩ := xbd h
      refine xc_V (As := []) (rest := []) C hW (m_X12_waysNow N _ e9) mf_X12_waysNow mv_X12_waysNow ml_X12_492 ⟨rfl, rfl⟩ ⟨Nat.le_of_ble_eq_true rfl, Nat.le_of_ble_eq_true rfl⟩ KM_0 rfl hl.1 rfl rfl (Nat.le_of_ble_eq_true rfl) dX12_waysOn_126 (fun H locs hW => W.eq (g2 := F0 m 129 ls [.int r9_]) rfl ?_)
      cases h
      exact xr_i C hW dX12_waysOn_129
    · have h := xif c8 h
      refine lv_aload_n hx hb dX12_waysOn_43 rfl (lv_at hl 0 rfl) ?_
      refine lv_iload_n hx hb dX12_waysOn_44 rfl (lv_at hl 3 rfl) ?_
      refine lv_iload_n hx hb dX12_waysOn_45 rfl (lv_at hl 1 rfl) ?_
      refine lv_iload_n hx hb dX12_waysOn_46 rfl (lv_at hl 2 rfl) ?_
      obtain ⟨r10_, e10, h⟩ := xbo h
      refine xc_V (As := [.int x3, .int x1, .int x2]) (rest := []) C hW (m_X12_valueAt N x3 x1 x2 _ e10) mf_X12_valueAt mv_X12_valueAt ml_X12_498 ⟨rfl, rfl⟩ ⟨Nat.le_of_ble_eq_true rfl, Nat.le_of_ble_eq_true rfl⟩ KM_0 rfl hl.1 rfl rfl (Nat.le_of_ble_eq_true rfl) dX12_waysOn_47 (fun H locs hW => W.eq (g2 := F0 m 50 ls [.int r10_]) rfl ?_)
      refine lv_istore (lv' := [(4, .int r10_), (0, .ref (g.q 0)), (1, .int x1), (2, .int x2), (3, .int x3)]) hx hb dX12_waysOn_50 hl (Nat.le_of_ble_eq_true rfl) rfl (fun ls hl => ?_)
      refine lv_iload hx hb dX12_waysOn_52 (lv_at hl 0 rfl) ?_
      refine lv_iconst (v := (-1)) hx hb dX12_waysOn_54 rfl ?_
      refine lv_icmp_ne (tgt := 61) hx hb dX12_waysOn_55 (by decide) (fun c11 => ?_) (fun c11 => ?_)
      · have h := xif c11 h
        refine lv_aload_n hx hb dX12_waysOn_61 rfl (lv_at hl 1 rfl) ?_
        refine xg_r C hW fg_12_115 KM_0 rfl dX12_waysOn_62 ?_
        refine lv_iload_n hx hb dX12_waysOn_65 rfl (lv_at hl 4 rfl) ?_
        refine lv_iconst (v := 1) hx hb dX12_waysOn_66 rfl ?_
        obtain ⟨g12, h⟩ := xgd h
        refine xs_i C hW KM_34 g12 dX12_waysOn_67 (fun H locs hW => ?_)
        refine lv_aload_n hx hb dX12_waysOn_68 rfl (lv_at hl 1 rfl) ?_
        refine xg_r C hW fg_12_118 KM_0 rfl dX12_waysOn_69 ?_
        refine lv_iload_n hx hb dX12_waysOn_72 rfl (lv_at hl 4 rfl) ?_
        refine lv_aload_n hx hb dX12_waysOn_73 rfl (lv_at hl 1 rfl) ?_
        refine xg_r C hW fg_12_218 KM_0 rfl dX12_waysOn_74 ?_
        refine lv_iload hx hb dX12_waysOn_77 (lv_at hl 0 rfl) ?_
        obtain ⟨g13, h⟩ := xgd h
        refine xa_i C hW KM_68 g13 (x := σ.1 68 r10_.toNatClampNeg) rfl dX12_waysOn_79 ?_
        obtain ⟨g14, h⟩ := xgd h
        refine xs_i C hW KM_35 g14 dX12_waysOn_80 (fun H locs hW => ?_)
        refine lv_iconst (v := 0) hx hb dX12_waysOn_81 rfl ?_
        refine lv_istore (lv' := [(5, .int 0), (4, .int r10_), (0, .ref (g.q 0)), (1, .int x1), (2, .int x2), (3, .int x3)]) hx hb dX12_waysOn_82 hl (Nat.le_of_ble_eq_true rfl) rfl (fun ls hl => ?_)
        exact w_X12_waysOn_84 N (f_X12_waysOn_33 N n) C ih N x1 x2 x3 r10_ 0 _ _ _ _ hW (lv_sub hl [2, 3, 4, 5, 1, 0] rfl) h
      · have h := xit c11 h
        refine lv_goto (tgt := 119) hx hb dX12_waysOn_58 (by decide) ?_
        refine lv_iinc (v := x3 + 1) (lv' := [(3, .int (x3 + 1)), (4, .int r10_), (0, .ref (g.q 0)), (1, .int x1), (2, .int x2)]) hx hb dX12_waysOn_119 hl (k := 4) rfl rfl (Nat.le_of_ble_eq_true rfl) rfl (fun ls hl => ?_)
        refine lv_goto (tgt := 33) hx hb dX12_waysOn_122 (by decide) ?_
        exact ih x1 x2 (x3 + 1) _ _ _ _ hW (lv_sub hl [2, 3, 4, 0] rfl) h
set_option maxRecDepth 4000 in
theorem m_X12_waysOn (N : Nat) (x1 : Int32) (x2 : Int32) (σ : St) {r : Int32} {σ' : St} (h : f_X12_waysOn N x1 x2 σ = some (r, σ')) : xM l KM g yX12_waysOn cX12_waysOn 6 (some .int) rm_X12_waysOn [.ref (g.q 0), .int x1, .int x2] σ (some (.int r)) σ' := by
  refine xmet pn_X12 rfl (Nat.le_of_ble_eq_true rfl) (lv := [(0, .ref (g.q 0)), (1, .int x1), (2, .int x2)]) rfl (fun p e s m args below meth c ls C hW hl => ?_)
  have hx := C.1
  have hb := C.2.1
  unfold f_X12_waysOn at h
  refine lv_iload_n hx hb dX12_waysOn_0 rfl (lv_at hl 1 rfl) ?_
  obtain ⟨r1_, e1, h⟩ := xbo h
  refine xc_S (As := [.int x1]) (rest := []) C hW (m_X12_isDay x1 _ e1) mf_X12_isDay mt_X12_isDay ml_X12_495 ⟨rfl, rfl⟩ ⟨Nat.le_of_ble_eq_true rfl, Nat.le_of_ble_eq_true rfl⟩ hl.1 rfl rfl (Nat.le_of_ble_eq_true rfl) dX12_waysOn_1 (fun H locs hW => W.eq (g2 := F0 m 4 ls [.int r1_]) rfl ?_)
  refine lv_if_eq (tgt := 14) hx hb dX12_waysOn_4 (by decide) (fun c2 => ?_) (fun c2 => ?_)
  · have h := xit c2 h
    refine lv_bipush (v := (-2)) hx hb dX12_waysOn_14 rfl ?_
    cases h
    exact xr_i C hW dX12_waysOn_16
  · have h := xif c2 h
    refine lv_iload_n hx hb dX12_waysOn_7 rfl (lv_at hl 2 rfl) ?_
    obtain ⟨r3_, e3, h⟩ := xbo h
    refine xc_S (As := [.int x2]) (rest := []) C hW (m_X12_isDay x2 _ e3) mf_X12_isDay mt_X12_isDay ml_X12_495 ⟨rfl, rfl⟩ ⟨Nat.le_of_ble_eq_true rfl, Nat.le_of_ble_eq_true rfl⟩ hl.1 rfl rfl (Nat.le_of_ble_eq_true rfl) dX12_waysOn_8 (fun H locs hW => W.eq (g2 := F0 m 11 ls [.int r3_]) rfl ?_)
    refine lv_if_ne (tgt := 17) hx hb dX12_waysOn_11 (by decide) (fun c4 => ?_) (fun c4 => ?_)
    · have h := xif c4 h
      refine lv_aload_n hx hb dX12_waysOn_17 rfl (lv_at hl 0 rfl) ?_
      refine xg_i C hW fg_12_332 KM_0 rfl (v := 1069) rfl (x := σ.1 1069 0) rfl dX12_waysOn_18 ?_
      refine lv_if_ne (tgt := 27) hx hb dX12_waysOn_21 (by decide) (fun c5 => ?_) (fun c5 => ?_)
      · have h := xif c5 h
        refine lv_aload_n hx hb dX12_waysOn_27 rfl (lv_at hl 0 rfl) ?_
        obtain ⟨σ6, e6, h⟩ := xbo h
        refine xc_V (As := []) (rest := []) C hW (m_X12_asListed N _ e6) mf_X12_asListed mv_X12_asListed ml_X12_462 ⟨rfl, rfl⟩ ⟨Nat.le_of_ble_eq_true rfl, Nat.le_of_ble_eq_true rfl⟩ KM_0 rfl hl.1 rfl rfl (Nat.le_of_ble_eq_true rfl) dX12_waysOn_28 (fun H locs hW => W.eq (g2 := F0 m 31 ls []) rfl ?_)
        refine lv_iconst (v := 0) hx hb dX12_waysOn_31 rfl ?_
        refine lv_istore_n (lv' := [(3, .int 0), (0, .ref (g.q 0)), (1, .int x1), (2, .int x2)]) hx hb dX12_waysOn_32 rfl hl (Nat.le_of_ble_eq_true rfl) rfl (fun ls hl => ?_)
        exact w_X12_waysOn_33 N C N x1 x2 0 _ _ _ _ hW (lv_sub hl [1, 2, 3, 0] rfl) h
      · have h := xit c5 h
        refine lv_bipush (v := (-4)) hx hb dX12_waysOn_24 rfl ?_
        cases h
        exact xr_i C hW dX12_waysOn_26
    · have h := xit c4 h
      refine lv_bipush (v := (-2)) hx hb dX12_waysOn_14 rfl ?_
      cases h
      exact xr_i C hW dX12_waysOn_16
end
