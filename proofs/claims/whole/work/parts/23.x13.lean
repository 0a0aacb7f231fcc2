theorem dX9_take_0 : decode cX9_take 0 = .ok (.aload_n 1, 1) := by decide +kernel
theorem dX9_take_1 : decode cX9_take 1 = .ok (.invokevirtual 29, 3) := by decide +kernel
theorem dX9_take_4 : decode cX9_take 4 = .ok (.aload_n 1, 1) := by decide +kernel
theorem dX9_take_5 : decode cX9_take 5 = .ok (.getfield 34, 3) := by decide +kernel
theorem dX9_take_8 : decode cX9_take 8 = .ok (.iconst 1, 1) := by decide +kernel
theorem dX9_take_9 : decode cX9_take 9 = .ok (.if_icmp .eq 5, 3) := by decide +kernel
theorem dX9_take_12 : decode cX9_take 12 = .ok (.iconst (-1), 1) := by decide +kernel
theorem dX9_take_13 : decode cX9_take 13 = .ok (.ireturn, 1) := by decide +kernel
theorem dX9_take_14 : decode cX9_take 14 = .ok (.aload_n 1, 1) := by decide +kernel
theorem dX9_take_15 : decode cX9_take 15 = .ok (.getfield 37, 3) := by decide +kernel
theorem dX9_take_18 : decode cX9_take 18 = .ok (.lstore_n 2, 1) := by decide +kernel
theorem dX9_take_19 : decode cX9_take 19 = .ok (.aload_n 1, 1) := by decide +kernel
theorem dX9_take_20 : decode cX9_take 20 = .ok (.invokevirtual 29, 3) := by decide +kernel
theorem dX9_take_23 : decode cX9_take 23 = .ok (.aload_n 1, 1) := by decide +kernel
theorem dX9_take_24 : decode cX9_take 24 = .ok (.bipush 8, 2) := by decide +kernel
theorem dX9_take_26 : decode cX9_take 26 = .ok (.invokevirtual 41, 3) := by decide +kernel
theorem dX9_take_29 : decode cX9_take 29 = .ok (.ifCond .ne 5, 3) := by decide +kernel
theorem dX9_take_32 : decode cX9_take 32 = .ok (.iconst (-1), 1) := by decide +kernel
theorem dX9_take_33 : decode cX9_take 33 = .ok (.ireturn, 1) := by decide +kernel
theorem dX9_take_34 : decode cX9_take 34 = .ok (.aload_n 1, 1) := by decide +kernel
theorem dX9_take_35 : decode cX9_take 35 = .ok (.getfield 45, 3) := by decide +kernel
theorem dX9_take_38 : decode cX9_take 38 = .ok (.istore 4, 2) := by decide +kernel
theorem dX9_take_40 : decode cX9_take 40 = .ok (.aload_n 1, 1) := by decide +kernel
theorem dX9_take_41 : decode cX9_take 41 = .ok (.getfield 48, 3) := by decide +kernel
theorem dX9_take_44 : decode cX9_take 44 = .ok (.istore 5, 2) := by decide +kernel
theorem dX9_take_46 : decode cX9_take 46 = .ok (.lconst 0, 1) := by decide +kernel
theorem dX9_take_47 : decode cX9_take 47 = .ok (.lstore 6, 2) := by decide +kernel
theorem dX9_take_49 : decode cX9_take 49 = .ok (.aload_n 1, 1) := by decide +kernel
theorem dX9_take_50 : decode cX9_take 50 = .ok (.invokevirtual 29, 3) := by decide +kernel
theorem dX9_take_53 : decode cX9_take 53 = .ok (.aload_n 1, 1) := by decide +kernel
theorem dX9_take_54 : decode cX9_take 54 = .ok (.getfield 34, 3) := by decide +kernel
theorem dX9_take_57 : decode cX9_take 57 = .ok (.iconst 1, 1) := by decide +kernel
theorem dX9_take_58 : decode cX9_take 58 = .ok (.if_icmp .ne 13, 3) := by decide +kernel
theorem dX9_take_61 : decode cX9_take 61 = .ok (.aload_n 1, 1) := by decide +kernel
theorem dX9_take_62 : decode cX9_take 62 = .ok (.getfield 37, 3) := by decide +kernel
theorem dX9_take_65 : decode cX9_take 65 = .ok (.lstore 6, 2) := by decide +kernel
theorem dX9_take_67 : decode cX9_take 67 = .ok (.aload_n 1, 1) := by decide +kernel
theorem dX9_take_68 : decode cX9_take 68 = .ok (.invokevirtual 29, 3) := by decide +kernel
theorem dX9_take_71 : decode cX9_take 71 = .ok (.aload_n 1, 1) := by decide +kernel
theorem dX9_take_72 : decode cX9_take 72 = .ok (.getfield 34, 3) := by decide +kernel
theorem dX9_take_75 : decode cX9_take 75 = .ok (.ifCond .eq 5, 3) := by decide +kernel
theorem dX9_take_78 : decode cX9_take 78 = .ok (.iconst (-1), 1) := by decide +kernel
theorem dX9_take_79 : decode cX9_take 79 = .ok (.ireturn, 1) := by decide +kernel
theorem dX9_take_80 : decode cX9_take 80 = .ok (.aload_n 0, 1) := by decide +kernel
theorem dX9_take_81 : decode cX9_take 81 = .ok (.lload_n 2, 1) := by decide +kernel
theorem dX9_take_82 : decode cX9_take 82 = .ok (.invokevirtual 51, 3) := by decide +kernel
theorem dX9_take_85 : decode cX9_take 85 = .ok (.ifCond .eq 6, 3) := by decide +kernel
theorem dX9_take_88 : decode cX9_take 88 = .ok (.bipush (-4), 2) := by decide +kernel
theorem dX9_take_90 : decode cX9_take 90 = .ok (.ireturn, 1) := by decide +kernel
theorem dX9_take_91 : decode cX9_take 91 = .ok (.aload_n 0, 1) := by decide +kernel
theorem dX9_take_92 : decode cX9_take 92 = .ok (.getfield 25, 3) := by decide +kernel
theorem dX9_take_95 : decode cX9_take 95 = .ok (.bipush 40, 2) := by decide +kernel
theorem dX9_take_97 : decode cX9_take 97 = .ok (.if_icmp .lt 8, 3) := by decide +kernel
theorem dX9_take_100 : decode cX9_take 100 = .ok (.bipush (-3), 2) := by decide +kernel
theorem dX9_take_102 : decode cX9_take 102 = .ok (.goto 14, 3) := by decide +kernel
theorem dX9_take_105 : decode cX9_take 105 = .ok (.aload_n 0, 1) := by decide +kernel
theorem dX9_take_106 : decode cX9_take 106 = .ok (.lload_n 2, 1) := by decide +kernel
theorem dX9_take_107 : decode cX9_take 107 = .ok (.iload 4, 2) := by decide +kernel
theorem dX9_take_109 : decode cX9_take 109 = .ok (.iload 5, 2) := by decide +kernel
theorem dX9_take_111 : decode cX9_take 111 = .ok (.lload 6, 2) := by decide +kernel
theorem dX9_take_113 : decode cX9_take 113 = .ok (.invokevirtual 55, 3) := by decide +kernel
theorem dX9_take_116 : decode cX9_take 116 = .ok (.ireturn, 1) := by decide +kernel
abbrev rm_X9_take : Room := { frames := 3, cells := 0, slots := 0, locals := 61 }
def f_X9_take_71 (N : Nat) (x2 : Int64) (x4 : Int32) (x5 : Int32) (x6 : Int64) (σ : St) : Option (Int32 × St) := (if (σ.1 4803 0) = 0 then bo (f_X9_isNamed N x2 σ) (fun r9_ => (if r9_ = 0 then (if (σ.1 7600 0) < 40 then bd (f_X9_put x2 x4 x5 x6 σ) (fun r12_ σ12 => some (r12_, σ12)) else some ((-3), σ)) else some ((-4), σ))) else some ((-1), σ))
def f_X9_take (N : Nat) (σ : St) : Option (Int32 × St) := bo (f_X8_next N σ) (fun σ1 => (if (σ1.1 4803 0) = 1 then bo (f_X8_next N σ1) (fun σ3 => (if (f_X8_isRow 8 σ3) = 0 then some ((-1), σ3) else bo (f_X8_next N σ3) (fun σ5 => (if (σ5.1 4803 0) = 1 then bo (f_X8_next N σ5) (fun σ7 => f_X9_take_71 N (σ1.2 4806 0) (σ3.1 4807 0) (σ3.1 4805 0) (σ5.2 4806 0) σ7) else f_X9_take_71 N (σ1.2 4806 0) (σ3.1 4807 0) (σ3.1 4805 0) 0 σ5)))) else some ((-1), σ1)))
section
variable {p : Program} {l : Launch} {e : Env} {s : State} {m : MethodId} {args : Array Value} {below : List Frame} {meth : Method} {c : Code} {g : XG}
set_option maxRecDepth 4000 in
theorem w_X9_take_71 (N : Nat) {r : Int32} {σ' : St} (C : xC KX g RX9 cX9_take 8 (some .int) p s m args meth c) : ∀ (x2 : Int64) (x4 : Int32) (x5 : Int32) (x6 : Int64) (σ : St) (H : Heap) (locs : List Loc) (ls : Array Slot), xW KX g s σ H locs → lv_has ls 8 [(0, .ref (g.q 33)), (1, .ref (g.q 19)), (2, .long x2), (4, .int x4), (5, .int x5), (6, .long x6)] → f_X9_take_71 N x2 x4 x5 x6 σ = some (r, σ') → W p l e rm_X9_take s m args below meth c H locs 0 0 (MQ below (xPost KX g (some (.int r)) σ') args s 0 0 (xA KX g.q)) (F0 m 71 ls []) := by
  have hx := C.1
  have hb := C.2.1
  intro x2 x4 x5 x6 σ H locs ls hW hl h
  unfold f_X9_take_71 at h
  refine lv_aload_n hx hb dX9_take_71 rfl (lv_at hl 1 rfl) ?_
  refine xg_i C hW fg_9_34 KX_19 rfl (v := 4803) rfl (x := σ.1 4803 0) rfl dX9_take_72 ?_
  refine lv_if_eq (tgt := 80) hx hb dX9_take_75 (by decide) (fun c8 => ?_) (fun c8 => ?_)
  · have h := xit c8 h
    refine lv_aload_n hx hb dX9_take_80 rfl (lv_at hl 0 rfl) ?_
    refine lv_lload_n hx hb dX9_take_81 rfl (lv_at hl 2 rfl) ?_
    obtain ⟨r9_, e9, h⟩ := xbo h
    refine xc_V (As := [.long x2]) (rest := []) C hW (m_X9_isNamed N x2 _ e9) mf_X9_isNamed mv_X9_isNamed ml_X9_51 ⟨rfl, rfl⟩ ⟨Nat.le_of_ble_eq_true rfl, Nat.le_of_ble_eq_true rfl⟩ KX_33 rfl hl.1 rfl rfl (Nat.le_of_ble_eq_true rfl) dX9_take_82 (fun H locs hW => W.eq (g2 := F0 m 85 ls [.int r9_]) rfl ?_)
    refine lv_if_eq (tgt := 91) hx hb dX9_take_85 (by decide) (fun c10 => ?_) (fun c10 => ?_)
    · have h := xit c10 h
      refine lv_aload_n hx hb dX9_take_91 rfl (lv_at hl 0 rfl) ?_
      refine xg_i C hW fg_9_25 KX_33 rfl (v := 7600) rfl (x := σ.1 7600 0) rfl dX9_take_92 ?_
      refine lv_bipush (v := 40) hx hb dX9_take_95 rfl ?_
      refine lv_icmp_lt (tgt := 105) hx hb dX9_take_97 (by decide) (fun c11 => ?_) (fun c11 => ?_)
      · have h := xit c11 h
        refine lv_aload_n hx hb dX9_take_105 rfl (lv_at hl 0 rfl) ?_
        refine lv_lload_n hx hb dX9_take_106 rfl (lv_at hl 2 rfl) ?_
        refine lv_iload hx hb dX9_take_107 (lv_at hl 3 rfl) ?_
        refine lv_iload hx hb dX9_take_109 (lv_at hl 4 rfl) ?_
        refine lv_lload hx hb dX9_take_111 (lv_at hl 5 rfl) ?_
        obtain ⟨r12_, σ12, e12, h⟩ := xbd h
        refine xc_V (As := [.long x2, .int x4, .int x5, .long x6]) (rest := []) C hW (m_X9_put x2 x4 x5 x6 _ e12) mf_X9_put mv_X9_put ml_X9_55 ⟨rfl, rfl⟩ ⟨Nat.le_of_ble_eq_true rfl, Nat.le_of_ble_eq_true rfl⟩ KX_33 rfl hl.1 rfl rfl (Nat.le_of_ble_eq_true rfl) dX9_take_113 (fun H locs hW => W.eq (g2 := F0 m 116 ls [.int r12_]) rfl ?_)
        cases h
        exact xr_i C hW dX9_take_116
      · have h := xif c11 h
        refine lv_bipush (v := (-3)) hx hb dX9_take_100 rfl ?_
        refine lv_goto (tgt := 116) hx hb dX9_take_102 (by decide) ?_
        cases h
        exact xr_i C hW dX9_take_116
    · have h := xif c10 h
      refine lv_bipush (v := (-4)) hx hb dX9_take_88 rfl ?_
      cases h
      exact xr_i C hW dX9_take_90
  · have h := xif c8 h
    refine lv_iconst (v := (-1)) hx hb dX9_take_78 rfl ?_
    cases h
    exact xr_i C hW dX9_take_79
set_option maxRecDepth 4000 in
theorem m_X9_take (N : Nat) (σ : St) {r : Int32} {σ' : St} (h : f_X9_take N σ = some (r, σ')) : xM l KX g yX9_take cX9_take 8 (some .int) rm_X9_take [.ref (g.q 33), .ref (g.q 19)] σ (some (.int r)) σ' := by
  refine xmet pn_X9 rfl (Nat.le_of_ble_eq_true rfl) (lv := [(0, .ref (g.q 33)), (1, .ref (g.q 19))]) rfl (fun p e s m args below meth c ls C hW hl => ?_)
  have hx := C.1
  have hb := C.2.1
  unfold f_X9_take at h
  refine lv_aload_n hx hb dX9_take_0 rfl (lv_at hl 1 rfl) ?_
  obtain ⟨σ1, e1, h⟩ := xbo h
  refine xc_V (As := []) (rest := []) C hW (m_X8_next N _ e1) mf_X8_next mv_X8_next ml_X9_29 ⟨rfl, rfl⟩ ⟨Nat.le_of_ble_eq_true rfl, Nat.le_of_ble_eq_true rfl⟩ KX_19 rfl hl.1 rfl rfl (Nat.le_of_ble_eq_true rfl) dX9_take_1 (fun H locs hW => W.eq (g2 := F0 m 4 ls []) rfl ?_)
  refine lv_aload_n hx hb dX9_take_4 rfl (lv_at hl 1 rfl) ?_
  refine xg_i C hW fg_9_34 KX_19 rfl (v := 4803) rfl (x := σ1.1 4803 0) rfl dX9_take_5 ?_
  refine lv_iconst (v := 1) hx hb dX9_take_8 rfl ?_
  refine lv_icmp_eq (tgt := 14) hx hb dX9_take_9 (by decide) (fun c2 => ?_) (fun c2 => ?_)
  · have h := xit c2 h
    refine lv_aload_n hx hb dX9_take_14 rfl (lv_at hl 1 rfl) ?_
    refine xg_l C hW fg_9_37 KX_19 rfl (v := 4806) rfl (x := σ1.2 4806 0) rfl dX9_take_15 ?_
    refine lv_lstore_n (lv' := [(2, .long (σ1.2 4806 0)), (0, .ref (g.q 33)), (1, .ref (g.q 19))]) hx hb dX9_take_18 rfl hl (Nat.le_of_ble_eq_true rfl) rfl (fun ls hl => ?_)
    refine lv_aload_n hx hb dX9_take_19 rfl (lv_at hl 2 rfl) ?_
    obtain ⟨σ3, e3, h⟩ := xbo h
    refine xc_V (As := []) (rest := []) C hW (m_X8_next N _ e3) mf_X8_next mv_X8_next ml_X9_29 ⟨rfl, rfl⟩ ⟨Nat.le_of_ble_eq_true rfl, Nat.le_of_ble_eq_true rfl⟩ KX_19 rfl hl.1 rfl rfl (Nat.le_of_ble_eq_true rfl) dX9_take_20 (fun H locs hW => W.eq (g2 := F0 m 23 ls []) rfl ?_)
    refine lv_aload_n hx hb dX9_take_23 rfl (lv_at hl 2 rfl) ?_
    refine lv_bipush (v := 8) hx hb dX9_take_24 rfl ?_
    refine xc_V (As := [.int 8]) (rest := []) C hW (m_X8_isRow 8 _ rfl) mf_X8_isRow mv_X8_isRow ml_X9_41 ⟨rfl, rfl⟩ ⟨Nat.le_of_ble_eq_true rfl, Nat.le_of_ble_eq_true rfl⟩ KX_19 rfl hl.1 rfl rfl (Nat.le_of_ble_eq_true rfl) dX9_take_26 (fun H locs hW => W.eq (g2 := F0 m 29 ls [.int (f_X8_isRow 8 σ3)]) rfl ?_)
    refine lv_if_ne (tgt := 34) hx hb dX9_take_29 (by decide) (fun c4 => ?_) (fun c4 => ?_)
    · have h := xif c4 h
      refine lv_aload_n hx hb dX9_take_34 rfl (lv_at hl 2 rfl) ?_
      refine xg_i C hW fg_9_45 KX_19 rfl (v := 4807) rfl (x := σ3.1 4807 0) rfl dX9_take_35 ?_
      refine lv_istore (lv' := [(4, .int (σ3.1 4807 0)), (2, .long (σ1.2 4806 0)), (0, .ref (g.q 33)), (1, .ref (g.q 19))]) hx hb dX9_take_38 hl (Nat.le_of_ble_eq_true rfl) rfl (fun ls hl => ?_)
      refine lv_aload_n hx hb dX9_take_40 rfl (lv_at hl 3 rfl) ?_
      refine xg_i C hW fg_9_48 KX_19 rfl (v := 4805) rfl (x := σ3.1 4805 0) rfl dX9_take_41 ?_
      refine lv_istore (lv' := [(5, .int (σ3.1 4805 0)), (4, .int (σ3.1 4807 0)), (2, .long (σ1.2 4806 0)), (0, .ref (g.q 33)), (1, .ref (g.q 19))]) hx hb dX9_take_44 hl (Nat.le_of_ble_eq_true rfl) rfl (fun ls hl => ?_)
      refine lv_lconst (v := 0) hx hb dX9_take_46 rfl ?_
      refine lv_lstore (lv' := [(6, .long 0), (5, .int (σ3.1 4805 0)), (4, .int (σ3.1 4807 0)), (2, .long (σ1.2 4806 0)), (0, .ref (g.q 33)), (1, .ref (g.q 19))]) hx hb dX9_take_47 hl (Nat.le_of_ble_eq_true rfl) rfl (fun ls hl => ?_)
      refine lv_aload_n hx hb dX9_take_49 rfl (lv_at hl 5 rfl) ?_
      obtain ⟨σ5, e5, h⟩ := xbo h
      refine xc_V (As := []) (rest := []) C hW (m_X8_next N _ e5) mf_X8_next mv_X8_next ml_X9_29 ⟨rfl, rfl⟩ ⟨Nat.le_of_ble_eq_true rfl, Nat.le_of_ble_eq_true rfl⟩ KX_19 rfl hl.1 rfl rfl (Nat.le_of_ble_eq_true rfl) dX9_take_50 (fun H locs hW => W.eq (g2 := F0 m 53 ls []) rfl ?_)
      refine lv_aload_n hx hb dX9_take_53 rfl (lv_at hl 5 rfl) ?_
      refine xg_i C hW fg_9_34 KX_19 rfl (v := 4803) rfl (x := σ5.1 4803 0) rfl dX9_take_54 ?_
      refine lv_iconst (v := 1) hx hb dX9_take_57 rfl ?_
      refine lv_icmp_ne (tgt := 71) hx hb dX9_take_58 (by decide) (fun c6 => ?_) (fun c6 => ?_)
      · have h := xif c6 h
        exact w_X9_take_71 N C (σ1.2 4806 0) (σ3.1 4807 0) (σ3.1 4805 0) 0 _ _ _ _ hW (lv_sub hl [4, 5, 3, 2, 1, 0] rfl) h
      · have h := xit c6 h
        refine lv_aload_n hx hb dX9_take_61 rfl (lv_at hl 5 rfl) ?_
        refine xg_l C hW fg_9_37 KX_19 rfl (v := 4806) rfl (x := σ5.2 4806 0) rfl dX9_take_62 ?_
        refine lv_lstore (lv' := [(6, .long (σ5.2 4806 0)), (5, .int (σ3.1 4805 0)), (4, .int (σ3.1 4807 0)), (2, .long (σ1.2 4806 0)), (0, .ref (g.q 33)), (1, .ref (g.q 19))]) hx hb dX9_take_65 hl (Nat.le_of_ble_eq_true rfl) rfl (fun ls hl => ?_)
        refine lv_aload_n hx hb dX9_take_67 rfl (lv_at hl 5 rfl) ?_
        obtain ⟨σ7, e7, h⟩ := xbo h
        refine xc_V (As := []) (rest := []) C hW (m_X8_next N _ e7) mf_X8_next mv_X8_next ml_X9_29 ⟨rfl, rfl⟩ ⟨Nat.le_of_ble_eq_true rfl, Nat.le_of_ble_eq_true rfl⟩ KX_19 rfl hl.1 rfl rfl (Nat.le_of_ble_eq_true rfl) dX9_take_68 (fun H locs hW => W.eq (g2 := F0 m 71 ls []) rfl ?_)
        exact w_X9_take_71 N C (σ1.2 4806 0) (σ3.1 4807 0) (σ3.1 4805 0) (σ5.2 4806 0) _ _ _ _ hW (lv_sub hl [4, 5, 3, 2, 1, 0] rfl) h
    · have h := xit c4 h
      refine lv_iconst (v := (-1)) hx hb dX9_take_32 rfl ?_
      cases h
      exact xr_i C hW dX9_take_33
  · have h := xif c2 h
    refine lv_iconst (v := (-1)) hx hb dX9_take_12 rfl ?_
    cases h
    exact xr_i C hW dX9_take_13
end
theorem dX10_forget_0 : decode cX10_forget 0 = .ok (.aload_n 0, 1) := by decide +kernel
theorem dX10_forget_1 : decode cX10_forget 1 = .ok (.iconst 0, 1) := by decide +kernel
theorem dX10_forget_2 : decode cX10_forget 2 = .ok (.putfield 27, 3) := by decide +kernel
theorem dX10_forget_5 : decode cX10_forget 5 = .ok (.aload_n 0, 1) := by decide +kernel
theorem dX10_forget_6 : decode cX10_forget 6 = .ok (.iconst 0, 1) := by decide +kernel
theorem dX10_forget_7 : decode cX10_forget 7 = .ok (.putfield 31, 3) := by decide +kernel
theorem dX10_forget_10 : decode cX10_forget 10 = .ok (.return_, 1) := by decide +kernel
abbrev rm_X10_forget : Room := { frames := 0, cells := 0, slots := 0, locals := 0 }
def f_X10_forget (σ : St) : Option St := some ((si (si σ 15600 0 0) 15601 0 0))
section
variable {p : Program} {l : Launch} {e : Env} {s : State} {m : MethodId} {args : Array Value} {below : List Frame} {meth : Method} {c : Code} {g : XG}
set_option maxRecDepth 4000 in
theorem m_X10_forget (σ : St) {σ' : St} (h : f_X10_forget σ = some σ') : xM l KX g yX10_forget cX10_forget 1 none rm_X10_forget [.ref (g.q 73)] σ none σ' := by
  refine xmet pn_X10 rfl (Nat.le_of_ble_eq_true rfl) (lv := [(0, .ref (g.q 73))]) rfl (fun p e s m args below meth c ls C hW hl => ?_)
  have hx := C.1
  have hb := C.2.1
  unfold f_X10_forget at h
  refine lv_aload_n hx hb dX10_forget_0 rfl (lv_at hl 0 rfl) ?_
  refine lv_iconst (v := 0) hx hb dX10_forget_1 rfl ?_
  refine xp_i C hW fp_10_27 KX_73 rfl (v := 15600) rfl rfl rfl dX10_forget_2 (fun H locs hW => ?_)
  refine lv_aload_n hx hb dX10_forget_5 rfl (lv_at hl 0 rfl) ?_
  refine lv_iconst (v := 0) hx hb dX10_forget_6 rfl ?_
  refine xp_i C hW fp_10_31 KX_73 rfl (v := 15601) rfl rfl rfl dX10_forget_7 (fun H locs hW => ?_)
  cases h
  exact xr_v C hW dX10_forget_10
end
theorem dX10_put_0 : decode cX10_put 0 = .ok (.aload_n 0, 1) := by decide +kernel
theorem dX10_put_1 : decode cX10_put 1 = .ok (.getfield 27, 3) := by decide +kernel
theorem dX10_put_4 : decode cX10_put 4 = .ok (.bipush 60, 2) := by decide +kernel
theorem dX10_put_6 : decode cX10_put 6 = .ok (.if_icmp .lt 4, 3) := by decide +kernel
theorem dX10_put_9 : decode cX10_put 9 = .ok (.return_, 1) := by decide +kernel
theorem dX10_put_10 : decode cX10_put 10 = .ok (.aload_n 0, 1) := by decide +kernel
theorem dX10_put_11 : decode cX10_put 11 = .ok (.getfield 11, 3) := by decide +kernel
theorem dX10_put_14 : decode cX10_put 14 = .ok (.aload_n 0, 1) := by decide +kernel
theorem dX10_put_15 : decode cX10_put 15 = .ok (.getfield 27, 3) := by decide +kernel
theorem dX10_put_18 : decode cX10_put 18 = .ok (.iload_n 1, 1) := by decide +kernel
theorem dX10_put_19 : decode cX10_put 19 = .ok (.iastore, 1) := by decide +kernel
theorem dX10_put_20 : decode cX10_put 20 = .ok (.aload_n 0, 1) := by decide +kernel
theorem dX10_put_21 : decode cX10_put 21 = .ok (.getfield 15, 3) := by decide +kernel
theorem dX10_put_24 : decode cX10_put 24 = .ok (.aload_n 0, 1) := by decide +kernel
theorem dX10_put_25 : decode cX10_put 25 = .ok (.getfield 27, 3) := by decide +kernel
theorem dX10_put_28 : decode cX10_put 28 = .ok (.iload_n 2, 1) := by decide +kernel
theorem dX10_put_29 : decode cX10_put 29 = .ok (.iastore, 1) := by decide +kernel
theorem dX10_put_30 : decode cX10_put 30 = .ok (.aload_n 0, 1) := by decide +kernel
theorem dX10_put_31 : decode cX10_put 31 = .ok (.getfield 18, 3) := by decide +kernel
theorem dX10_put_34 : decode cX10_put 34 = .ok (.aload_n 0, 1) := by decide +kernel
theorem dX10_put_35 : decode cX10_put 35 = .ok (.getfield 27, 3) := by decide +kernel
theorem dX10_put_38 : decode cX10_put 38 = .ok (.iload_n 3, 1) := by decide +kernel
theorem dX10_put_39 : decode cX10_put 39 = .ok (.iastore, 1) := by decide +kernel
theorem dX10_put_40 : decode cX10_put 40 = .ok (.aload_n 0, 1) := by decide +kernel
theorem dX10_put_41 : decode cX10_put 41 = .ok (.iload_n 3, 1) := by decide +kernel
theorem dX10_put_42 : decode cX10_put 42 = .ok (.putfield 31, 3) := by decide +kernel
theorem dX10_put_45 : decode cX10_put 45 = .ok (.aload_n 0, 1) := by decide +kernel
theorem dX10_put_46 : decode cX10_put 46 = .ok (.dup, 1) := by decide +kernel
theorem dX10_put_47 : decode cX10_put 47 = .ok (.getfield 27, 3) := by decide +kernel
theorem dX10_put_50 : decode cX10_put 50 = .ok (.iconst 1, 1) := by decide +kernel
theorem dX10_put_51 : decode cX10_put 51 = .ok (.iadd, 1) := by decide +kernel
theorem dX10_put_52 : decode cX10_put 52 = .ok (.putfield 27, 3) := by decide +kernel
theorem dX10_put_55 : decode cX10_put 55 = .ok (.return_, 1) := by decide +kernel
abbrev rm_X10_put : Room := { frames := 0, cells := 0, slots := 0, locals := 0 }
def f_X10_put (x1 : Int32) (x2 : Int32) (x3 : Int32) (σ : St) : Option St := (if (σ.1 15600 0) < 60 then grd (ib (σ.1 15600 0) 60) (grd (ib (σ.1 15600 0) 60) (grd (ib (σ.1 15600 0) 60) (some ((si (si (si (si (si σ 74 (σ.1 15600 0).toNatClampNeg x1) 75 (σ.1 15600 0).toNatClampNeg x2) 76 (σ.1 15600 0).toNatClampNeg x3) 15601 0 x3) 15600 0 ((σ.1 15600 0) + 1)))))) else some σ)
section
variable {p : Program} {l : Launch} {e : Env} {s : State} {m : MethodId} {args : Array Value} {below : List Frame} {meth : Method} {c : Code} {g : XG}
set_option maxRecDepth 4000 in
theorem m_X10_put (x1 : Int32) (x2 : Int32) (x3 : Int32) (σ : St) {σ' : St} (h : f_X10_put x1 x2 x3 σ = some σ') : xM l KX g yX10_put cX10_put 4 none rm_X10_put [.ref (g.q 73), .int x1, .int x2, .int x3] σ none σ' := by
  refine xmet pn_X10 rfl (Nat.le_of_ble_eq_true rfl) (lv := [(0, .ref (g.q 73)), (1, .int x1), (2, .int x2), (3, .int x3)]) rfl (fun p e s m args below meth c ls C hW hl => ?_)
  have hx := C.1
  have hb := C.2.1
  unfold f_X10_put at h
  refine lv_aload_n hx hb dX10_put_0 rfl (lv_at hl 0 rfl) ?_
  refine xg_i C hW fg_10_27 KX_73 rfl (v := 15600) rfl (x := σ.1 15600 0) rfl dX10_put_1 ?_
  refine lv_bipush (v := 60) hx hb dX10_put_4 rfl ?_
  refine lv_icmp_lt (tgt := 10) hx hb dX10_put_6 (by decide) (fun c1 => ?_) (fun c1 => ?_)
  · have h := xit c1 h
    refine lv_aload_n hx hb dX10_put_10 rfl (lv_at hl 0 rfl) ?_
    refine xg_r C hW fg_10_11 KX_73 rfl dX10_put_11 ?_
    refine lv_aload_n hx hb dX10_put_14 rfl (lv_at hl 0 rfl) ?_
    refine xg_i C hW fg_10_27 KX_73 rfl (v := 15600) rfl (x := σ.1 15600 0) rfl dX10_put_15 ?_
    refine lv_iload_n hx hb dX10_put_18 rfl (lv_at hl 1 rfl) ?_
    obtain ⟨g2, h⟩ := xgd h
    refine xs_i C hW KX_74 g2 dX10_put_19 (fun H locs hW => ?_)
    refine lv_aload_n hx hb dX10_put_20 rfl (lv_at hl 0 rfl) ?_
    refine xg_r C hW fg_10_15 KX_73 rfl dX10_put_21 ?_
    refine lv_aload_n hx hb dX10_put_24 rfl (lv_at hl 0 rfl) ?_
    refine xg_i C hW fg_10_27 KX_73 rfl (v := 15600) rfl (x := σ.1 15600 0) rfl dX10_put_25 ?_
    refine lv_iload_n hx hb dX10_put_28 rfl (lv_at hl 2 rfl) ?_
    obtain ⟨g3, h⟩ := xgd h
    refine xs_i C hW KX_75 g3 dX10_put_29 (fun H locs hW => ?_)
    refine lv_aload_n hx hb dX10_put_30 rfl (lv_at hl 0 rfl) ?_
    refine xg_r C hW fg_10_18 KX_73 rfl dX10_put_31 ?_
    refine lv_aload_n hx hb dX10_put_34 rfl (lv_at hl 0 rfl) ?_
    refine xg_i C hW fg_10_27 KX_73 rfl (v := 15600) rfl (x := σ.1 15600 0) rfl dX10_put_35 ?_
    refine lv_iload_n hx hb dX10_put_38 rfl (lv_at hl 3 rfl) ?_
    obtain ⟨g4, h⟩ := xgd h
    refine xs_i C hW KX_76 g4 dX10_put_39 (fun H locs hW => ?_)
    refine lv_aload_n hx hb dX10_put_40 rfl (lv_at hl 0 rfl) ?_
    refine lv_iload_n hx hb dX10_put_41 rfl (lv_at hl 3 rfl) ?_
    refine xp_i C hW fp_10_31 KX_73 rfl (v := 15601) rfl rfl rfl dX10_put_42 (fun H locs hW => ?_)
    refine lv_aload_n hx hb dX10_put_45 rfl (lv_at hl 0 rfl) ?_
    refine lv_dup hx hb dX10_put_46 rfl ?_
    refine xg_i C hW fg_10_27 KX_73 rfl (v := 15600) rfl (x := σ.1 15600 0) rfl dX10_put_47 ?_
    refine lv_iconst (v := 1) hx hb dX10_put_50 rfl ?_
    refine lv_iadd hx hb dX10_put_51 ?_
    refine xp_i C hW fp_10_27 KX_73 rfl (v := 15600) rfl rfl rfl dX10_put_52 (fun H locs hW => ?_)
    cases h
    exact xr_v C hW dX10_put_55
  · have h := xif c1 h
    cases h
    exact xr_v C hW dX10_put_9
end
theorem dX10_putSounds_0 : decode cX10_putSounds 0 = .ok (.aload_n 0, 1) := by decide +kernel
theorem dX10_putSounds_1 : decode cX10_putSounds 1 = .ok (.getfield 27, 3) := by decide +kernel
theorem dX10_putSounds_4 : decode cX10_putSounds 4 = .ok (.ifCond .le 27, 3) := by decide +kernel
theorem dX10_putSounds_7 : decode cX10_putSounds 7 = .ok (.aload_n 0, 1) := by decide +kernel
theorem dX10_putSounds_8 : decode cX10_putSounds 8 = .ok (.getfield 21, 3) := by decide +kernel
theorem dX10_putSounds_11 : decode cX10_putSounds 11 = .ok (.aload_n 0, 1) := by decide +kernel
theorem dX10_putSounds_12 : decode cX10_putSounds 12 = .ok (.getfield 27, 3) := by decide +kernel
theorem dX10_putSounds_15 : decode cX10_putSounds 15 = .ok (.iconst 1, 1) := by decide +kernel
theorem dX10_putSounds_16 : decode cX10_putSounds 16 = .ok (.isub, 1) := by decide +kernel
theorem dX10_putSounds_17 : decode cX10_putSounds 17 = .ok (.iload_n 1, 1) := by decide +kernel
theorem dX10_putSounds_18 : decode cX10_putSounds 18 = .ok (.iastore, 1) := by decide +kernel
theorem dX10_putSounds_19 : decode cX10_putSounds 19 = .ok (.aload_n 0, 1) := by decide +kernel
theorem dX10_putSounds_20 : decode cX10_putSounds 20 = .ok (.getfield 24, 3) := by decide +kernel
theorem dX10_putSounds_23 : decode cX10_putSounds 23 = .ok (.aload_n 0, 1) := by decide +kernel
theorem dX10_putSounds_24 : decode cX10_putSounds 24 = .ok (.getfield 27, 3) := by decide +kernel
theorem dX10_putSounds_27 : decode cX10_putSounds 27 = .ok (.iconst 1, 1) := by decide +kernel
theorem dX10_putSounds_28 : decode cX10_putSounds 28 = .ok (.isub, 1) := by decide +kernel
theorem dX10_putSounds_29 : decode cX10_putSounds 29 = .ok (.iload_n 2, 1) := by decide +kernel
theorem dX10_putSounds_30 : decode cX10_putSounds 30 = .ok (.iastore, 1) := by decide +kernel
theorem dX10_putSounds_31 : decode cX10_putSounds 31 = .ok (.return_, 1) := by decide +kernel
abbrev rm_X10_putSounds : Room := { frames := 0, cells := 0, slots := 0, locals := 0 }
def f_X10_putSounds (x1 : Int32) (x2 : Int32) (σ : St) : Option St := (if (σ.1 15600 0) ≤ 0 then some σ else grd (ib ((σ.1 15600 0) - 1) 60) (grd (ib ((σ.1 15600 0) - 1) 60) (some ((si (si σ 77 ((σ.1 15600 0) - 1).toNatClampNeg x1) 78 ((σ.1 15600 0) - 1).toNatClampNeg x2)))))
section
variable {p : Program} {l : Launch} {e : Env} {s : State} {m : MethodId} {args : Array Value} {below : List Frame} {meth : Method} {c : Code} {g : XG}
set_option maxRecDepth 4000 in
theorem m_X10_putSounds (x1 : Int32) (x2 : Int32) (σ : St) {σ' : St} (h : f_X10_putSounds x1 x2 σ = some σ') : xM l KX g yX10_putSounds cX10_putSounds 3 none rm_X10_putSounds [.ref (g.q 73), .int x1, .int x2] σ none σ' := by
  refine xmet pn_X10 rfl (Nat.le_of_ble_eq_true rfl) (lv := [(0, .ref (g.q 73)), (1, .int x1), (2, .int x2)]) rfl (fun p e s m args below meth c ls C hW hl => ?_)
  have hx := C.1
  have hb := C.2.1
  unfold f_X10_putSounds at h
  refine lv_aload_n hx hb dX10_putSounds_0 rfl (lv_at hl 0 rfl) ?_
  refine xg_i C hW fg_10_27 KX_73 rfl (v := 15600) rfl (x := σ.1 15600 0) rfl dX10_putSounds_1 ?_
  refine lv_if_le (tgt := 31) hx hb dX10_putSounds_4 (by decide) (fun c1 => ?_) (fun c1 => ?_)
  · have h := xit c1 h
    cases h
    exact xr_v C hW dX10_putSounds_31
  · have h := xif c1 h
    refine lv_aload_n hx hb dX10_putSounds_7 rfl (lv_at hl 0 rfl) ?_
    refine xg_r C hW fg_10_21 KX_73 rfl dX10_putSounds_8 ?_
    refine lv_aload_n hx hb dX10_putSounds_11 rfl (lv_at hl 0 rfl) ?_
    refine xg_i C hW fg_10_27 KX_73 rfl (v := 15600) rfl (x := σ.1 15600 0) rfl dX10_putSounds_12 ?_
    refine lv_iconst (v := 1) hx hb dX10_putSounds_15 rfl ?_
    refine lv_isub hx hb dX10_putSounds_16 ?_
    refine lv_iload_n hx hb dX10_putSounds_17 rfl (lv_at hl 1 rfl) ?_
    obtain ⟨g2, h⟩ := xgd h
    refine xs_i C hW KX_77 g2 dX10_putSounds_18 (fun H locs hW => ?_)
    refine lv_aload_n hx hb dX10_putSounds_19 rfl (lv_at hl 0 rfl) ?_
    refine xg_r C hW fg_10_24 KX_73 rfl dX10_putSounds_20 ?_
    refine lv_aload_n hx hb dX10_putSounds_23 rfl (lv_at hl 0 rfl) ?_
    refine xg_i C hW fg_10_27 KX_73 rfl (v := 15600) rfl (x := σ.1 15600 0) rfl dX10_putSounds_24 ?_
    refine lv_iconst (v := 1) hx hb dX10_putSounds_27 rfl ?_
    refine lv_isub hx hb dX10_putSounds_28 ?_
    refine lv_iload_n hx hb dX10_putSounds_29 rfl (lv_at hl 2 rfl) ?_
    obtain ⟨g3, h⟩ := xgd h
    refine xs_i C hW KX_78 g3 dX10_putSounds_30 (fun H locs hW => ?_)
    cases h
    exact xr_v C hW dX10_putSounds_31
end
theorem dX10_latestFor_0 : decode cX10_latestFor 0 = .ok (.iconst (-1), 1) := by decide +kernel
theorem dX10_latestFor_1 : decode cX10_latestFor 1 = .ok (.istore 4, 2) := by decide +kernel
theorem dX10_latestFor_3 : decode cX10_latestFor 3 = .ok (.iconst 0, 1) := by decide +kernel
theorem dX10_latestFor_4 : decode cX10_latestFor 4 = .ok (.istore 5, 2) := by decide +kernel
theorem dX10_latestFor_6 : decode cX10_latestFor 6 = .ok (.iload 5, 2) := by decide +kernel
theorem dX10_latestFor_8 : decode cX10_latestFor 8 = .ok (.aload_n 0, 1) := by decide +kernel
theorem dX10_latestFor_9 : decode cX10_latestFor 9 = .ok (.getfield 27, 3) := by decide +kernel
theorem dX10_latestFor_12 : decode cX10_latestFor 12 = .ok (.if_icmp .ge 80, 3) := by decide +kernel
theorem dX10_latestFor_15 : decode cX10_latestFor 15 = .ok (.aload_n 0, 1) := by decide +kernel
theorem dX10_latestFor_16 : decode cX10_latestFor 16 = .ok (.getfield 11, 3) := by decide +kernel
theorem dX10_latestFor_19 : decode cX10_latestFor 19 = .ok (.iload 5, 2) := by decide +kernel
theorem dX10_latestFor_21 : decode cX10_latestFor 21 = .ok (.iaload, 1) := by decide +kernel
theorem dX10_latestFor_22 : decode cX10_latestFor 22 = .ok (.iload_n 1, 1) := by decide +kernel
theorem dX10_latestFor_23 : decode cX10_latestFor 23 = .ok (.if_icmp .ne 29, 3) := by decide +kernel
theorem dX10_latestFor_26 : decode cX10_latestFor 26 = .ok (.aload_n 0, 1) := by decide +kernel
theorem dX10_latestFor_27 : decode cX10_latestFor 27 = .ok (.getfield 18, 3) := by decide +kernel
theorem dX10_latestFor_30 : decode cX10_latestFor 30 = .ok (.iload 5, 2) := by decide +kernel
theorem dX10_latestFor_32 : decode cX10_latestFor 32 = .ok (.iaload, 1) := by decide +kernel
theorem dX10_latestFor_33 : decode cX10_latestFor 33 = .ok (.iload_n 3, 1) := by decide +kernel
theorem dX10_latestFor_34 : decode cX10_latestFor 34 = .ok (.if_icmp .gt 18, 3) := by decide +kernel
theorem dX10_latestFor_37 : decode cX10_latestFor 37 = .ok (.aload_n 0, 1) := by decide +kernel
theorem dX10_latestFor_38 : decode cX10_latestFor 38 = .ok (.getfield 15, 3) := by decide +kernel
theorem dX10_latestFor_41 : decode cX10_latestFor 41 = .ok (.iload 5, 2) := by decide +kernel
theorem dX10_latestFor_43 : decode cX10_latestFor 43 = .ok (.iaload, 1) := by decide +kernel
theorem dX10_latestFor_44 : decode cX10_latestFor 44 = .ok (.iload_n 2, 1) := by decide +kernel
theorem dX10_latestFor_45 : decode cX10_latestFor 45 = .ok (.if_icmp .gt 7, 3) := by decide +kernel
theorem dX10_latestFor_48 : decode cX10_latestFor 48 = .ok (.iconst 1, 1) := by decide +kernel
theorem dX10_latestFor_49 : decode cX10_latestFor 49 = .ok (.goto 4, 3) := by decide +kernel
theorem dX10_latestFor_52 : decode cX10_latestFor 52 = .ok (.iconst 0, 1) := by decide +kernel
theorem dX10_latestFor_53 : decode cX10_latestFor 53 = .ok (.istore 6, 2) := by decide +kernel
theorem dX10_latestFor_55 : decode cX10_latestFor 55 = .ok (.iload 6, 2) := by decide +kernel
theorem dX10_latestFor_57 : decode cX10_latestFor 57 = .ok (.ifCond .eq 29, 3) := by decide +kernel
theorem dX10_latestFor_60 : decode cX10_latestFor 60 = .ok (.iload 4, 2) := by decide +kernel
theorem dX10_latestFor_62 : decode cX10_latestFor 62 = .ok (.ifCond .lt 20, 3) := by decide +kernel
theorem dX10_latestFor_65 : decode cX10_latestFor 65 = .ok (.aload_n 0, 1) := by decide +kernel
theorem dX10_latestFor_66 : decode cX10_latestFor 66 = .ok (.getfield 15, 3) := by decide +kernel
theorem dX10_latestFor_69 : decode cX10_latestFor 69 = .ok (.iload 5, 2) := by decide +kernel
theorem dX10_latestFor_71 : decode cX10_latestFor 71 = .ok (.iaload, 1) := by decide +kernel
theorem dX10_latestFor_72 : decode cX10_latestFor 72 = .ok (.aload_n 0, 1) := by decide +kernel
theorem dX10_latestFor_73 : decode cX10_latestFor 73 = .ok (.getfield 15, 3) := by decide +kernel
theorem dX10_latestFor_76 : decode cX10_latestFor 76 = .ok (.iload 4, 2) := by decide +kernel
theorem dX10_latestFor_78 : decode cX10_latestFor 78 = .ok (.iaload, 1) := by decide +kernel
theorem dX10_latestFor_79 : decode cX10_latestFor 79 = .ok (.if_icmp .lt 7, 3) := by decide +kernel
theorem dX10_latestFor_82 : decode cX10_latestFor 82 = .ok (.iload 5, 2) := by decide +kernel
theorem dX10_latestFor_84 : decode cX10_latestFor 84 = .ok (.istore 4, 2) := by decide +kernel
theorem dX10_latestFor_86 : decode cX10_latestFor 86 = .ok (.iinc 5 1, 3) := by decide +kernel
theorem dX10_latestFor_89 : decode cX10_latestFor 89 = .ok (.goto (-83), 3) := by decide +kernel
theorem dX10_latestFor_92 : decode cX10_latestFor 92 = .ok (.iload 4, 2) := by decide +kernel
theorem dX10_latestFor_94 : decode cX10_latestFor 94 = .ok (.ireturn, 1) := by decide +kernel
abbrev rm_X10_latestFor : Room := { frames := 0, cells := 0, slots := 0, locals := 0 }
def f_X10_latestFor_53 (N : Nat) (k6 : Int32 → Int32 → Int32 → Int32 → Int32 → St → Option Int32) (x1 : Int32) (x2 : Int32) (x3 : Int32) (x4 : Int32) (x5 : Int32) (t0 : Int32) (σ : St) : Option Int32 := (if t0 = 0 then k6 x1 x2 x3 x4 (x5 + 1) σ else (if x4 < 0 then k6 x1 x2 x3 x5 (x5 + 1) σ else grd (ib x5 60) (grd (ib x4 60) ((if (σ.1 75 x5.toNatClampNeg) < (σ.1 75 x4.toNatClampNeg) then k6 x1 x2 x3 x4 (x5 + 1) σ else k6 x1 x2 x3 x5 (x5 + 1) σ)))))
def f_X10_latestFor_6 (N : Nat) : Nat → Int32 → Int32 → Int32 → Int32 → Int32 → St → Option Int32
  | 0, _, _, _, _, _, _ => none
  | n + 1, x1, x2, x3, x4, x5, σ => (if (σ.1 15600 0) ≤ x5 then some x4 else grd (ib x5 60) ((if (σ.1 74 x5.toNatClampNeg) = x1 then grd (ib x5 60) ((if x3 < (σ.1 76 x5.toNatClampNeg) then f_X10_latestFor_53 N (f_X10_latestFor_6 N n) x1 x2 x3 x4 x5 0 σ else grd (ib x5 60) ((if x2 < (σ.1 75 x5.toNatClampNeg) then f_X10_latestFor_53 N (f_X10_latestFor_6 N n) x1 x2 x3 x4 x5 0 σ else f_X10_latestFor_53 N (f_X10_latestFor_6 N n) x1 x2 x3 x4 x5 1 σ)))) else f_X10_latestFor_53 N (f_X10_latestFor_6 N n) x1 x2 x3 x4 x5 0 σ)))
def f_X10_latestFor (N : Nat) (x1 : Int32) (x2 : Int32) (x3 : Int32) (σ : St) : Option Int32 := f_X10_latestFor_6 N N x1 x2 x3 ((-1)) 0 σ
section
variable {p : Program} {l : Launch} {e : Env} {s : State} {m : MethodId} {args : Array Value} {below : List Frame} {meth : Method} {c : Code} {g : XG}
set_option maxRecDepth 4000 in
theorem w_X10_latestFor_53 (N : Nat) (k6 : Int32 → Int32 → Int32 → Int32 → Int32 → St → Option Int32) (σ : St) {r : Int32} (C : xC KX g RX10 cX10_latestFor 7 (some .int) p s m args meth c) (hk6 : ∀ (x1 : Int32) (x2 : Int32) (x3 : Int32) (x4 : Int32) (x5 : Int32) (H : Heap) (locs : List Loc) (ls : Array Slot), xW KX g s σ H locs → lv_has ls 7 [(0, .ref (g.q 73)), (1, .int x1), (2, .int x2), (3, .int x3), (4, .int x4), (5, .int x5)] → k6 x1 x2 x3 x4 x5 σ = some r → W p l e rm_X10_latestFor s m args below meth c H locs 0 0 (MQ below (xPost KX g (some (.int r)) σ) args s 0 0 (xA KX g.q)) (F0 m 6 ls [])) : ∀ (x1 : Int32) (x2 : Int32) (x3 : Int32) (x4 : Int32) (x5 : Int32) (t0 : Int32) (H : Heap) (locs : List Loc) (ls : Array Slot), xW KX g s σ H locs → lv_has ls 7 [(0, .ref (g.q 73)), (1, .int x1), (2, .int x2), (3, .int x3), (4, .int x4), (5, .int x5)] → f_X10_latestFor_53 N k6 x1 x2 x3 x4 x5 t0 σ = some r → W p l e rm_X10_latestFor s m args below meth c H locs 0 0 (MQ below (xPost KX g (some (.int r)) σ) args s 0 0 (xA KX g.q)) (F0 m 53 ls [.int t0]) := by
  have hx := C.1
  have hb := C.2.1
  intro x1 x2 x3 x4 x5 t0 H locs ls hW hl h
  unfold f_X10_latestFor_53 at h
  refine lv_istore (lv' := [(6, .int t0), (0, .ref (g.q 73)), (1, .int x1), (2, .int x2), (3, .int x3), (4, .int x4), (5, .int x5)]) hx hb dX10_latestFor_53 hl (Nat.le_of_ble_eq_true rfl) rfl (fun ls hl => ?_)
  refine lv_iload hx hb dX10_latestFor_55 (lv_at hl 0 rfl) ?_
  refine lv_if_eq (tgt := 86) hx hb dX10_latestFor_57 (by decide) (fun c8 => ?_) (fun c8 => ?_)
  · have h := xit c8 h
    refine lv_iinc (v := x5 + 1) (lv' := [(5, .int (x5 + 1)), (6, .int t0), (0, .ref (g.q 73)), (1, .int x1), (2, .int x2), (3, .int x3), (4, .int x4)]) hx hb dX10_latestFor_86 hl (k := 6) rfl rfl (Nat.le_of_ble_eq_true rfl) rfl (fun ls hl => ?_)
    refine lv_goto (tgt := 6) hx hb dX10_latestFor_89 (by decide) ?_
    exact hk6 x1 x2 x3 x4 (x5 + 1) _ _ _ hW (lv_sub hl [2, 3, 4, 5, 6, 0] rfl) h
  · have h := xif c8 h
    refine lv_iload hx hb dX10_latestFor_60 (lv_at hl 5 rfl) ?_
    refine lv_if_lt (tgt := 82) hx hb dX10_latestFor_62 (by decide) (fun c9 => ?_) (fun c9 => ?_)
    · have h := xit c9 h
      refine lv_iload hx hb dX10_latestFor_82 (lv_at hl 6 rfl) ?_
      refine lv_istore (lv' := [(4, .int x5), (6, .int t0), (0, .ref (g.q 73)), (1, .int x1), (2, .int x2), (3, .int x3), (5, .int x5)]) hx hb dX10_latestFor_84 hl (Nat.le_of_ble_eq_true rfl) rfl (fun ls hl => ?_)
      refine lv_iinc (v := x5 + 1) (lv' := [(5, .int (x5 + 1)), (4, .int x5), (6, .int t0), (0, .ref (g.q 73)), (1, .int x1), (2, .int x2), (3, .int x3)]) hx hb dX10_latestFor_86 hl (k := 6) rfl rfl (Nat.le_of_ble_eq_true rfl) rfl (fun ls hl => ?_)
      refine lv_goto (tgt := 6) hx hb dX10_latestFor_89 (by decide) ?_
      exact hk6 x1 x2 x3 x5 (x5 + 1) _ _ _ hW (lv_sub hl [3, 4, 5, 6, 1, 0] rfl) h
    · have h := xif c9 h
      refine lv_aload_n hx hb dX10_latestFor_65 rfl (lv_at hl 1 rfl) ?_
      refine xg_r C hW fg_10_15 KX_73 rfl dX10_latestFor_66 ?_
      refine lv_iload hx hb dX10_latestFor_69 (lv_at hl 6 rfl) ?_
      obtain ⟨g10, h⟩ := xgd h
      refine xa_i C hW KX_75 g10 (x := σ.1 75 x5.toNatClampNeg) rfl dX10_latestFor_71 ?_
      refine lv_aload_n hx hb dX10_latestFor_72 rfl (lv_at hl 1 rfl) ?_
      refine xg_r C hW fg_10_15 KX_73 rfl dX10_latestFor_73 ?_
      refine lv_iload hx hb dX10_latestFor_76 (lv_at hl 5 rfl) ?_
      obtain ⟨g11, h⟩ := xgd h
      refine xa_i C hW KX_75 g11 (x := σ.1 75 x4.toNatClampNeg) rfl dX10_latestFor_78 ?_
      refine lv_icmp_lt (tgt := 86) hx hb dX10_latestFor_79 (by decide) (fun c12 => ?_) (fun c12 => ?_)
      · have h := xit c12 h
        refine lv_iinc (v := x5 + 1) (lv' := [(5, .int (x5 + 1)), (6, .int t0), (0, .ref (g.q 73)), (1, .int x1), (2, .int x2), (3, .int x3), (4, .int x4)]) hx hb dX10_latestFor_86 hl (k := 6) rfl rfl (Nat.le_of_ble_eq_true rfl) rfl (fun ls hl => ?_)
        refine lv_goto (tgt := 6) hx hb dX10_latestFor_89 (by decide) ?_
        exact hk6 x1 x2 x3 x4 (x5 + 1) _ _ _ hW (lv_sub hl [2, 3, 4, 5, 6, 0] rfl) h
      · have h := xif c12 h
        refine lv_iload hx hb dX10_latestFor_82 (lv_at hl 6 rfl) ?_
        refine lv_istore (lv' := [(4, .int x5), (6, .int t0), (0, .ref (g.q 73)), (1, .int x1), (2, .int x2), (3, .int x3), (5, .int x5)]) hx hb dX10_latestFor_84 hl (Nat.le_of_ble_eq_true rfl) rfl (fun ls hl => ?_)
        refine lv_iinc (v := x5 + 1) (lv' := [(5, .int (x5 + 1)), (4, .int x5), (6, .int t0), (0, .ref (g.q 73)), (1, .int x1), (2, .int x2), (3, .int x3)]) hx hb dX10_latestFor_86 hl (k := 6) rfl rfl (Nat.le_of_ble_eq_true rfl) rfl (fun ls hl => ?_)
        refine lv_goto (tgt := 6) hx hb dX10_latestFor_89 (by decide) ?_
        exact hk6 x1 x2 x3 x5 (x5 + 1) _ _ _ hW (lv_sub hl [3, 4, 5, 6, 1, 0] rfl) h
set_option maxRecDepth 4000 in
theorem w_X10_latestFor_6 (N : Nat) (σ : St) {r : Int32} (C : xC KX g RX10 cX10_latestFor 7 (some .int) p s m args meth c) : ∀ (n : Nat), ∀ (x1 : Int32) (x2 : Int32) (x3 : Int32) (x4 : Int32) (x5 : Int32) (H : Heap) (locs : List Loc) (ls : Array Slot), xW KX g s σ H locs → lv_has ls 7 [(0, .ref (g.q 73)), (1, .int x1), (2, .int x2), (3, .int x3), (4, .int x4), (5, .int x5)] → f_X10_latestFor_6 N n x1 x2 x3 x4 x5 σ = some r → W p l e rm_X10_latestFor s m args below meth c H locs 0 0 (MQ below (xPost KX g (some (.int r)) σ) args s 0 0 (xA KX g.q)) (F0 m 6 ls []) := by
  have hx := C.1
  have hb := C.2.1
  intro n
  induction n with
  | zero => intro x1 x2 x3 x4 x5 H locs ls hW hl h; rw [f_X10_latestFor_6] at h; cases h
  | succ n ih =>
    intro x1 x2 x3 x4 x5 H locs ls hW hl h
    rw [f_X10_latestFor_6] at h
    refine lv_iload hx hb dX10_latestFor_6 (lv_at hl 5 rfl) ?_
    refine lv_aload_n hx hb dX10_latestFor_8 rfl (lv_at hl 0 rfl) ?_
    refine xg_i C hW fg_10_27 KX_73 rfl (v := 15600) rfl (x := σ.1 15600 0) rfl dX10_latestFor_9 ?_
    refine lv_icmp_ge (tgt := 92) hx hb dX10_latestFor_12 (by decide) (fun c1 => ?_) (fun c1 => ?_)
    · have h := xit c1 h
      refine lv_iload hx hb dX10_latestFor_92 (lv_at hl 4 rfl) ?_
      cases h
      exact xr_i C hW dX10_latestFor_94
    · have h := xif c1 h
      refine lv_aload_n hx hb dX10_latestFor_15 rfl (lv_at hl 0 rfl) ?_
      refine xg_r C hW fg_10_11 KX_73 rfl dX10_latestFor_16 ?_
      refine lv_iload hx hb dX10_latestFor_19 (lv_at hl 5 rfl) ?_
      obtain ⟨g2, h⟩ := xgd h
      refine xa_i C hW KX_74 g2 (x := σ.1 74 x5.toNatClampNeg) rfl dX10_latestFor_21 ?_
      refine lv_iload_n hx hb dX10_latestFor_22 rfl (lv_at hl 1 rfl) ?_
      refine lv_icmp_ne (tgt := 52) hx hb dX10_latestFor_23 (by decide) (fun c3 => ?_) (fun c3 => ?_)
      · have h := xif c3 h
        refine lv_iconst (v := 0) hx hb dX10_latestFor_52 rfl ?_
        exact w_X10_latestFor_53 N (f_X10_latestFor_6 N n) σ C ih x1 x2 x3 x4 x5 0 _ _ _ hW (lv_sub hl [0, 1, 2, 3, 4, 5] rfl) h
      · have h := xit c3 h
        refine lv_aload_n hx hb dX10_latestFor_26 rfl (lv_at hl 0 rfl) ?_
        refine xg_r C hW fg_10_18 KX_73 rfl dX10_latestFor_27 ?_
        refine lv_iload hx hb dX10_latestFor_30 (lv_at hl 5 rfl) ?_
        obtain ⟨g4, h⟩ := xgd h
        refine xa_i C hW KX_76 g4 (x := σ.1 76 x5.toNatClampNeg) rfl dX10_latestFor_32 ?_
        refine lv_iload_n hx hb dX10_latestFor_33 rfl (lv_at hl 3 rfl) ?_
        refine lv_icmp_gt (tgt := 52) hx hb dX10_latestFor_34 (by decide) (fun c5 => ?_) (fun c5 => ?_)
        · have h := xit c5 h
          refine lv_iconst (v := 0) hx hb dX10_latestFor_52 rfl ?_
          exact w_X10_latestFor_53 N (f_X10_latestFor_6 N n) σ C ih x1 x2 x3 x4 x5 0 _ _ _ hW (lv_sub hl [0, 1, 2, 3, 4, 5] rfl) h
        · have h := xif c5 h
          refine lv_aload_n hx hb dX10_latestFor_37 rfl (lv_at hl 0 rfl) ?_
          refine xg_r C hW fg_10_15 KX_73 rfl dX10_latestFor_38 ?_
          refine lv_iload hx hb dX10_latestFor_41 (lv_at hl 5 rfl) ?_
          obtain ⟨g6, h⟩ := xgd h
          refine xa_i C hW KX_75 g6 (x := σ.1 75 x5.toNatClampNeg) rfl dX10_latestFor_43 ?_
          refine lv_iload_n hx hb dX10_latestFor_44 rfl (lv_at hl 2 rfl) ?_
          refine lv_icmp_gt (tgt := 52) hx hb dX10_latestFor_45 (by decide) (fun c7 => ?_) (fun c7 => ?_)
          · have h := xit c7 h
            refine lv_iconst (v := 0) hx hb dX10_latestFor_52 rfl ?_
            exact w_X10_latestFor_53 N (f_X10_latestFor_6 N n) σ C ih x1 x2 x3 x4 x5 0 _ _ _ hW (lv_sub hl [0, 1, 2, 3, 4, 5] rfl) h
          · have h := xif c7 h
            refine lv_iconst (v := 1) hx hb dX10_latestFor_48 rfl ?_
            refine lv_goto (tgt := 53) hx hb dX10_latestFor_49 (by decide) ?_
            exact w_X10_latestFor_53 N (f_X10_latestFor_6 N n) σ C ih x1 x2 x3 x4 x5 1 _ _ _ hW (lv_sub hl [0, 1, 2, 3, 4, 5] rfl) h
set_option maxRecDepth 4000 in
theorem m_X10_latestFor (N : Nat) (x1 : Int32) (x2 : Int32) (x3 : Int32) (σ : St) {r : Int32} (h : f_X10_latestFor N x1 x2 x3 σ = some r) : xM l KX g yX10_latestFor cX10_latestFor 7 (some .int) rm_X10_latestFor [.ref (g.q 73), .int x1, .int x2, .int x3] σ (some (.int r)) σ := by
  refine xmet pn_X10 rfl (Nat.le_of_ble_eq_true rfl) (lv := [(0, .ref (g.q 73)), (1, .int x1), (2, .int x2), (3, .int x3)]) rfl (fun p e s m args below meth c ls C hW hl => ?_)
  have hx := C.1
  have hb := C.2.1
  unfold f_X10_latestFor at h
  refine lv_iconst (v := (-1)) hx hb dX10_latestFor_0 rfl ?_
  refine lv_istore (lv' := [(4, .int ((-1))), (0, .ref (g.q 73)), (1, .int x1), (2, .int x2), (3, .int x3)]) hx hb dX10_latestFor_1 hl (Nat.le_of_ble_eq_true rfl) rfl (fun ls hl => ?_)
  refine lv_iconst (v := 0) hx hb dX10_latestFor_3 rfl ?_
  refine lv_istore (lv' := [(5, .int 0), (4, .int ((-1))), (0, .ref (g.q 73)), (1, .int x1), (2, .int x2), (3, .int x3)]) hx hb dX10_latestFor_4 hl (Nat.le_of_ble_eq_true rfl) rfl (fun ls hl => ?_)
  exact w_X10_latestFor_6 N σ C N x1 x2 x3 ((-1)) 0 _ _ _ hW (lv_sub hl [2, 3, 4, 5, 1, 0] rfl) h
end
theorem dX10_applyTo_0 : decode cX10_applyTo 0 = .ok (.iconst 0, 1) := by decide +kernel
theorem dX10_applyTo_1 : decode cX10_applyTo 1 = .ok (.istore 4, 2) := by decide +kernel
theorem dX10_applyTo_3 : decode cX10_applyTo 3 = .ok (.iload 4, 2) := by decide +kernel
theorem dX10_applyTo_5 : decode cX10_applyTo 5 = .ok (.aload_n 1, 1) := by decide +kernel
theorem dX10_applyTo_6 : decode cX10_applyTo 6 = .ok (.getfield 34, 3) := by decide +kernel
theorem dX10_applyTo_9 : decode cX10_applyTo 9 = .ok (.if_icmp .ge 44, 3) := by decide +kernel
theorem dX10_applyTo_12 : decode cX10_applyTo 12 = .ok (.aload_n 0, 1) := by decide +kernel
theorem dX10_applyTo_13 : decode cX10_applyTo 13 = .ok (.iload 4, 2) := by decide +kernel
theorem dX10_applyTo_15 : decode cX10_applyTo 15 = .ok (.iload_n 2, 1) := by decide +kernel
theorem dX10_applyTo_16 : decode cX10_applyTo 16 = .ok (.iload_n 3, 1) := by decide +kernel
theorem dX10_applyTo_17 : decode cX10_applyTo 17 = .ok (.invokevirtual 37, 3) := by decide +kernel
theorem dX10_applyTo_20 : decode cX10_applyTo 20 = .ok (.istore 5, 2) := by decide +kernel
theorem dX10_applyTo_22 : decode cX10_applyTo 22 = .ok (.iload 5, 2) := by decide +kernel
theorem dX10_applyTo_24 : decode cX10_applyTo 24 = .ok (.ifCond .lt 23, 3) := by decide +kernel
theorem dX10_applyTo_27 : decode cX10_applyTo 27 = .ok (.aload_n 1, 1) := by decide +kernel
theorem dX10_applyTo_28 : decode cX10_applyTo 28 = .ok (.iload 4, 2) := by decide +kernel
theorem dX10_applyTo_30 : decode cX10_applyTo 30 = .ok (.aload_n 0, 1) := by decide +kernel
theorem dX10_applyTo_31 : decode cX10_applyTo 31 = .ok (.getfield 21, 3) := by decide +kernel
theorem dX10_applyTo_34 : decode cX10_applyTo 34 = .ok (.iload 5, 2) := by decide +kernel
theorem dX10_applyTo_36 : decode cX10_applyTo 36 = .ok (.iaload, 1) := by decide +kernel
theorem dX10_applyTo_37 : decode cX10_applyTo 37 = .ok (.aload_n 0, 1) := by decide +kernel
theorem dX10_applyTo_38 : decode cX10_applyTo 38 = .ok (.getfield 24, 3) := by decide +kernel
theorem dX10_applyTo_41 : decode cX10_applyTo 41 = .ok (.iload 5, 2) := by decide +kernel
theorem dX10_applyTo_43 : decode cX10_applyTo 43 = .ok (.iaload, 1) := by decide +kernel
theorem dX10_applyTo_44 : decode cX10_applyTo 44 = .ok (.invokevirtual 41, 3) := by decide +kernel
theorem dX10_applyTo_47 : decode cX10_applyTo 47 = .ok (.iinc 4 1, 3) := by decide +kernel
theorem dX10_applyTo_50 : decode cX10_applyTo 50 = .ok (.goto (-47), 3) := by decide +kernel
theorem dX10_applyTo_53 : decode cX10_applyTo 53 = .ok (.return_, 1) := by decide +kernel
abbrev rm_X10_applyTo : Room := { frames := 1, cells := 0, slots := 0, locals := 26 }
def f_X10_applyTo_3 (o1 : Nat) (N : Nat) : Nat → Int32 → Int32 → Int32 → St → Option St
  | 0, _, _, _, _ => none
  | n + 1, x2, x3, x4, σ => (if (σ.1 (1000 + 200 * o1 + 0) 0) ≤ x4 then some σ else bo (f_X10_latestFor N x4 x2 x3 σ) (fun r2_ => (if r2_ < 0 then f_X10_applyTo_3 o1 N n x2 x3 (x4 + 1) σ else grd (ib r2_ 60) (grd (ib r2_ 60) (bo (f_X6_putSounds o1 x4 (σ.1 77 r2_.toNatClampNeg) (σ.1 78 r2_.toNatClampNeg) σ) (fun σ6 => f_X10_applyTo_3 o1 N n x2 x3 (x4 + 1) σ6))))))
def f_X10_applyTo (o1 : Nat) (N : Nat) (x2 : Int32) (x3 : Int32) (σ : St) : Option St := f_X10_applyTo_3 o1 N N x2 x3 0 σ
section
variable {p : Program} {l : Launch} {e : Env} {s : State} {m : MethodId} {args : Array Value} {below : List Frame} {meth : Method} {c : Code} {g : XG}
set_option maxRecDepth 4000 in
theorem w_X10_applyTo_3 (o1 : Nat) (ho1 : o1 = 1 ∨ o1 = 2) (N : Nat) {σ' : St} (C : xC KX g RX10 cX10_applyTo 6 none p s m args meth c) : ∀ (n : Nat), ∀ (x2 : Int32) (x3 : Int32) (x4 : Int32) (σ : St) (H : Heap) (locs : List Loc) (ls : Array Slot), xW KX g s σ H locs → lv_has ls 6 [(0, .ref (g.q 73)), (1, .ref (g.q o1)), (2, .int x2), (3, .int x3), (4, .int x4)] → f_X10_applyTo_3 o1 N n x2 x3 x4 σ = some σ' → W p l e rm_X10_applyTo s m args below meth c H locs 0 0 (MQ below (xPost KX g none σ') args s 0 0 (xA KX g.q)) (F0 m 3 ls []) := by
  have hx := C.1
  have hb := C.2.1
  intro n
  induction n with
  | zero => intro x2 x3 x4 σ H locs ls hW hl h; rw [f_X10_applyTo_3] at h; cases h
  | succ n ih =>
    intro x2 x3 x4 σ H locs ls hW hl h
    rw [f_X10_applyTo_3] at h
    refine lv_iload hx hb dX10_applyTo_3 (lv_at hl 4 rfl) ?_
    refine lv_aload_n hx hb dX10_applyTo_5 rfl (lv_at hl 1 rfl) ?_
    refine xg_i C hW fg_10_34 (KX_sl ho1) rfl (v := (1000 + 200 * o1 + 0)) rfl (x := σ.1 (1000 + 200 * o1 + 0) 0) rfl dX10_applyTo_6 ?_
    refine lv_icmp_ge (tgt := 53) hx hb dX10_applyTo_9 (by decide) (fun c1 => ?_) (fun c1 => ?_)
    · have h := xit c1 h
      cases h
      exact xr_v C hW dX10_applyTo_53
    · have h := xif c1 h
      refine lv_aload_n hx hb dX10_applyTo_12 rfl (lv_at hl 0 rfl) ?_
      refine lv_iload hx hb dX10_applyTo_13 (lv_at hl 4 rfl) ?_
      refine lv_iload_n hx hb dX10_applyTo_15 rfl (lv_at hl 2 rfl) ?_
      refine lv_iload_n hx hb dX10_applyTo_16 rfl (lv_at hl 3 rfl) ?_
      obtain ⟨r2_, e2, h⟩ := xbo h
      refine xc_V (As := [.int x4, .int x2, .int x3]) (rest := []) C hW (m_X10_latestFor N x4 x2 x3 _ e2) mf_X10_latestFor mv_X10_latestFor ml_X10_37 ⟨rfl, rfl⟩ ⟨Nat.le_of_ble_eq_true rfl, Nat.le_of_ble_eq_true rfl⟩ KX_73 rfl hl.1 rfl rfl (Nat.le_of_ble_eq_true rfl) dX10_applyTo_17 (fun H locs hW => W.eq (g2 := F0 m 20 ls [.int r2_]) rfl ?_)
      refine lv_istore (lv' := [(5, .int r2_), (0, .ref (g.q 73)), (1, .ref (g.q o1)), (2, .int x2), (3, .int x3), (4, .int x4)]) hx hb dX10_applyTo_20 hl (Nat.le_of_ble_eq_true rfl) rfl (fun ls hl => ?_)
      refine lv_iload hx hb dX10_applyTo_22 (lv_at hl 0 rfl) ?_
      refine lv_if_lt (tgt := 47) hx hb dX10_applyTo_24 (by decide) (fun c3 => ?_) (fun c3 => ?_)
      · have h := xit c3 h
        refine lv_iinc (v := x4 + 1) (lv' := [(4, .int (x4 + 1)), (5, .int r2_), (0, .ref (g.q 73)), (1, .ref (g.q o1)), (2, .int x2), (3, .int x3)]) hx hb dX10_applyTo_47 hl (k := 5) rfl rfl (Nat.le_of_ble_eq_true rfl) rfl (fun ls hl => ?_)
        refine lv_goto (tgt := 3) hx hb dX10_applyTo_50 (by decide) ?_
        exact ih x2 x3 (x4 + 1) _ _ _ _ hW (lv_sub hl [2, 3, 4, 5, 0] rfl) h
      · have h := xif c3 h
        refine lv_aload_n hx hb dX10_applyTo_27 rfl (lv_at hl 2 rfl) ?_
        refine lv_iload hx hb dX10_applyTo_28 (lv_at hl 5 rfl) ?_
        refine lv_aload_n hx hb dX10_applyTo_30 rfl (lv_at hl 1 rfl) ?_
        refine xg_r C hW fg_10_21 KX_73 rfl dX10_applyTo_31 ?_
        refine lv_iload hx hb dX10_applyTo_34 (lv_at hl 0 rfl) ?_
        obtain ⟨g4, h⟩ := xgd h
        refine xa_i C hW KX_77 g4 (x := σ.1 77 r2_.toNatClampNeg) rfl dX10_applyTo_36 ?_
        refine lv_aload_n hx hb dX10_applyTo_37 rfl (lv_at hl 1 rfl) ?_
        refine xg_r C hW fg_10_24 KX_73 rfl dX10_applyTo_38 ?_
        refine lv_iload hx hb dX10_applyTo_41 (lv_at hl 0 rfl) ?_
        obtain ⟨g5, h⟩ := xgd h
        refine xa_i C hW KX_78 g5 (x := σ.1 78 r2_.toNatClampNeg) rfl dX10_applyTo_43 ?_
        obtain ⟨σ6, e6, h⟩ := xbo h
        refine xc_V (As := [.int x4, .int (σ.1 77 r2_.toNatClampNeg), .int (σ.1 78 r2_.toNatClampNeg)]) (rest := []) C hW (m_X6_putSounds o1 ho1 x4 (σ.1 77 r2_.toNatClampNeg) (σ.1 78 r2_.toNatClampNeg) _ e6) mf_X6_putSounds mv_X6_putSounds ml_X10_41 ⟨rfl, rfl⟩ ⟨Nat.le_of_ble_eq_true rfl, Nat.le_of_ble_eq_true rfl⟩ (KX_sl ho1) rfl hl.1 rfl rfl (Nat.le_of_ble_eq_true rfl) dX10_applyTo_44 (fun H locs hW => W.eq (g2 := F0 m 47 ls []) rfl ?_)
        refine lv_iinc (v := x4 + 1) (lv' := [(4, .int (x4 + 1)), (5, .int r2_), (0, .ref (g.q 73)), (1, .ref (g.q o1)), (2, .int x2), (3, .int x3)]) hx hb dX10_applyTo_47 hl (k := 5) rfl rfl (Nat.le_of_ble_eq_true rfl) rfl (fun ls hl => ?_)
        refine lv_goto (tgt := 3) hx hb dX10_applyTo_50 (by decide) ?_
        exact ih x2 x3 (x4 + 1) _ _ _ _ hW (lv_sub hl [2, 3, 4, 5, 0] rfl) h
set_option maxRecDepth 4000 in
theorem m_X10_applyTo (o1 : Nat) (ho1 : o1 = 1 ∨ o1 = 2) (N : Nat) (x2 : Int32) (x3 : Int32) (σ : St) {σ' : St} (h : f_X10_applyTo o1 N x2 x3 σ = some σ') : xM l KX g yX10_applyTo cX10_applyTo 6 none rm_X10_applyTo [.ref (g.q 73), .ref (g.q o1), .int x2, .int x3] σ none σ' := by
  refine xmet pn_X10 rfl (Nat.le_of_ble_eq_true rfl) (lv := [(0, .ref (g.q 73)), (1, .ref (g.q o1)), (2, .int x2), (3, .int x3)]) rfl (fun p e s m args below meth c ls C hW hl => ?_)
  have hx := C.1
  have hb := C.2.1
  unfold f_X10_applyTo at h
  refine lv_iconst (v := 0) hx hb dX10_applyTo_0 rfl ?_
  refine lv_istore (lv' := [(4, .int 0), (0, .ref (g.q 73)), (1, .ref (g.q o1)), (2, .int x2), (3, .int x3)]) hx hb dX10_applyTo_1 hl (Nat.le_of_ble_eq_true rfl) rfl (fun ls hl => ?_)
  exact w_X10_applyTo_3 o1 ho1 N C N x2 x3 0 _ _ _ _ hW (lv_sub hl [1, 2, 3, 4, 0] rfl) h
end
theorem dX11_feed_0 : decode cX11_feed 0 = .ok (.aload_n 0, 1) := by decide +kernel
theorem dX11_feed_1 : decode cX11_feed 1 = .ok (.getfield 10, 3) := by decide +kernel
theorem dX11_feed_4 : decode cX11_feed 4 = .ok (.getfield 101, 3) := by decide +kernel
theorem dX11_feed_7 : decode cX11_feed 7 = .ok (.bipush 20, 2) := by decide +kernel
theorem dX11_feed_9 : decode cX11_feed 9 = .ok (.iadd, 1) := by decide +kernel
theorem dX11_feed_10 : decode cX11_feed 10 = .ok (.sipush 800, 3) := by decide +kernel
theorem dX11_feed_13 : decode cX11_feed 13 = .ok (.if_icmp .le 6, 3) := by decide +kernel
theorem dX11_feed_16 : decode cX11_feed 16 = .ok (.bipush (-3), 2) := by decide +kernel
theorem dX11_feed_18 : decode cX11_feed 18 = .ok (.ireturn, 1) := by decide +kernel
theorem dX11_feed_19 : decode cX11_feed 19 = .ok (.aload_n 0, 1) := by decide +kernel
theorem dX11_feed_20 : decode cX11_feed 20 = .ok (.getfield 10, 3) := by decide +kernel
theorem dX11_feed_23 : decode cX11_feed 23 = .ok (.iload_n 1, 1) := by decide +kernel
theorem dX11_feed_24 : decode cX11_feed 24 = .ok (.invokevirtual 105, 3) := by decide +kernel
theorem dX11_feed_27 : decode cX11_feed 27 = .ok (.aload_n 0, 1) := by decide +kernel
theorem dX11_feed_28 : decode cX11_feed 28 = .ok (.getfield 10, 3) := by decide +kernel
theorem dX11_feed_31 : decode cX11_feed 31 = .ok (.iload_n 2, 1) := by decide +kernel
theorem dX11_feed_32 : decode cX11_feed 32 = .ok (.invokevirtual 105, 3) := by decide +kernel
theorem dX11_feed_35 : decode cX11_feed 35 = .ok (.aload_n 0, 1) := by decide +kernel
theorem dX11_feed_36 : decode cX11_feed 36 = .ok (.getfield 10, 3) := by decide +kernel
theorem dX11_feed_39 : decode cX11_feed 39 = .ok (.iload_n 3, 1) := by decide +kernel
theorem dX11_feed_40 : decode cX11_feed 40 = .ok (.invokevirtual 105, 3) := by decide +kernel
theorem dX11_feed_43 : decode cX11_feed 43 = .ok (.aload_n 0, 1) := by decide +kernel
theorem dX11_feed_44 : decode cX11_feed 44 = .ok (.getfield 10, 3) := by decide +kernel
theorem dX11_feed_47 : decode cX11_feed 47 = .ok (.iload 4, 2) := by decide +kernel
theorem dX11_feed_49 : decode cX11_feed 49 = .ok (.invokevirtual 105, 3) := by decide +kernel
theorem dX11_feed_52 : decode cX11_feed 52 = .ok (.aload_n 0, 1) := by decide +kernel
theorem dX11_feed_53 : decode cX11_feed 53 = .ok (.getfield 10, 3) := by decide +kernel
theorem dX11_feed_56 : decode cX11_feed 56 = .ok (.iload 5, 2) := by decide +kernel
theorem dX11_feed_58 : decode cX11_feed 58 = .ok (.invokevirtual 105, 3) := by decide +kernel
theorem dX11_feed_61 : decode cX11_feed 61 = .ok (.aload_n 0, 1) := by decide +kernel
theorem dX11_feed_62 : decode cX11_feed 62 = .ok (.getfield 10, 3) := by decide +kernel
theorem dX11_feed_65 : decode cX11_feed 65 = .ok (.getfield 101, 3) := by decide +kernel
theorem dX11_feed_68 : decode cX11_feed 68 = .ok (.ireturn, 1) := by decide +kernel
abbrev rm_X11_feed : Room := { frames := 1, cells := 0, slots := 0, locals := 22 }
def f_X11_feed (N : Nat) (x1 : Int32) (x2 : Int32) (x3 : Int32) (x4 : Int32) (x5 : Int32) (σ : St) : Option (Int32 × St) := (if ((σ.1 4801 0) + 20) ≤ 800 then bo (f_X8_put N x1 σ) (fun σ2 => bo (f_X8_put N x2 σ2) (fun σ3 => bo (f_X8_put N x3 σ3) (fun σ4 => bo (f_X8_put N x4 σ4) (fun σ5 => bo (f_X8_put N x5 σ5) (fun σ6 => some (σ6.1 4801 0, σ6)))))) else some ((-3), σ))
section
variable {p : Program} {l : Launch} {e : Env} {s : State} {m : MethodId} {args : Array Value} {below : List Frame} {meth : Method} {c : Code} {g : XG}
set_option maxRecDepth 4000 in
theorem m_X11_feed (N : Nat) (x1 : Int32) (x2 : Int32) (x3 : Int32) (x4 : Int32) (x5 : Int32) (σ : St) {r : Int32} {σ' : St} (h : f_X11_feed N x1 x2 x3 x4 x5 σ = some (r, σ')) : xM l KX g yX11_feed cX11_feed 6 (some .int) rm_X11_feed [.ref (g.q 0), .int x1, .int x2, .int x3, .int x4, .int x5] σ (some (.int r)) σ' := by
  refine xmet pn_X11 rfl (Nat.le_of_ble_eq_true rfl) (lv := [(0, .ref (g.q 0)), (1, .int x1), (2, .int x2), (3, .int x3), (4, .int x4), (5, .int x5)]) rfl (fun p e s m args below meth c ls C hW hl => ?_)
  have hx := C.1
  have hb := C.2.1
  unfold f_X11_feed at h
  refine lv_aload_n hx hb dX11_feed_0 rfl (lv_at hl 0 rfl) ?_
  refine xg_r C hW fg_11_10 KX_0 rfl dX11_feed_1 ?_
  refine xg_i C hW fg_11_101 KX_19 rfl (v := 4801) rfl (x := σ.1 4801 0) rfl dX11_feed_4 ?_
  refine lv_bipush (v := 20) hx hb dX11_feed_7 rfl ?_
  refine lv_iadd hx hb dX11_feed_9 ?_
  refine lv_sipush (v := 800) hx hb dX11_feed_10 rfl ?_
  refine lv_icmp_le (tgt := 19) hx hb dX11_feed_13 (by decide) (fun c1 => ?_) (fun c1 => ?_)
  · have h := xit c1 h
    refine lv_aload_n hx hb dX11_feed_19 rfl (lv_at hl 0 rfl) ?_
    refine xg_r C hW fg_11_10 KX_0 rfl dX11_feed_20 ?_
    refine lv_iload_n hx hb dX11_feed_23 rfl (lv_at hl 1 rfl) ?_
    obtain ⟨σ2, e2, h⟩ := xbo h
    refine xc_V (As := [.int x1]) (rest := []) C hW (m_X8_put N x1 _ e2) mf_X8_put mv_X8_put ml_X11_105 ⟨rfl, rfl⟩ ⟨Nat.le_of_ble_eq_true rfl, Nat.le_of_ble_eq_true rfl⟩ KX_19 rfl hl.1 rfl rfl (Nat.le_of_ble_eq_true rfl) dX11_feed_24 (fun H locs hW => W.eq (g2 := F0 m 27 ls []) rfl ?_)
    refine lv_aload_n hx hb dX11_feed_27 rfl (lv_at hl 0 rfl) ?_
    refine xg_r C hW fg_11_10 KX_0 rfl dX11_feed_28 ?_
    refine lv_iload_n hx hb dX11_feed_31 rfl (lv_at hl 2 rfl) ?_
    obtain ⟨σ3, e3, h⟩ := xbo h
    refine xc_V (As := [.int x2]) (rest := []) C hW (m_X8_put N x2 _ e3) mf_X8_put mv_X8_put ml_X11_105 ⟨rfl, rfl⟩ ⟨Nat.le_of_ble_eq_true rfl, Nat.le_of_ble_eq_true rfl⟩ KX_19 rfl hl.1 rfl rfl (Nat.le_of_ble_eq_true rfl) dX11_feed_32 (fun H locs hW => W.eq (g2 := F0 m 35 ls []) rfl ?_)
    refine lv_aload_n hx hb dX11_feed_35 rfl (lv_at hl 0 rfl) ?_
    refine xg_r C hW fg_11_10 KX_0 rfl dX11_feed_36 ?_
    refine lv_iload_n hx hb dX11_feed_39 rfl (lv_at hl 3 rfl) ?_
    obtain ⟨σ4, e4, h⟩ := xbo h
    refine xc_V (As := [.int x3]) (rest := []) C hW (m_X8_put N x3 _ e4) mf_X8_put mv_X8_put ml_X11_105 ⟨rfl, rfl⟩ ⟨Nat.le_of_ble_eq_true rfl, Nat.le_of_ble_eq_true rfl⟩ KX_19 rfl hl.1 rfl rfl (Nat.le_of_ble_eq_true rfl) dX11_feed_40 (fun H locs hW => W.eq (g2 := F0 m 43 ls []) rfl ?_)
    refine lv_aload_n hx hb dX11_feed_43 rfl (lv_at hl 0 rfl) ?_
    refine xg_r C hW fg_11_10 KX_0 rfl dX11_feed_44 ?_
    refine lv_iload hx hb dX11_feed_47 (lv_at hl 4 rfl) ?_
    obtain ⟨σ5, e5, h⟩ := xbo h
    refine xc_V (As := [.int x4]) (rest := []) C hW (m_X8_put N x4 _ e5) mf_X8_put mv_X8_put ml_X11_105 ⟨rfl, rfl⟩ ⟨Nat.le_of_ble_eq_true rfl, Nat.le_of_ble_eq_true rfl⟩ KX_19 rfl hl.1 rfl rfl (Nat.le_of_ble_eq_true rfl) dX11_feed_49 (fun H locs hW => W.eq (g2 := F0 m 52 ls []) rfl ?_)
    refine lv_aload_n hx hb dX11_feed_52 rfl (lv_at hl 0 rfl) ?_
    refine xg_r C hW fg_11_10 KX_0 rfl dX11_feed_53 ?_
    refine lv_iload hx hb dX11_feed_56 (lv_at hl 5 rfl) ?_
    obtain ⟨σ6, e6, h⟩ := xbo h
    refine xc_V (As := [.int x5]) (rest := []) C hW (m_X8_put N x5 _ e6) mf_X8_put mv_X8_put ml_X11_105 ⟨rfl, rfl⟩ ⟨Nat.le_of_ble_eq_true rfl, Nat.le_of_ble_eq_true rfl⟩ KX_19 rfl hl.1 rfl rfl (Nat.le_of_ble_eq_true rfl) dX11_feed_58 (fun H locs hW => W.eq (g2 := F0 m 61 ls []) rfl ?_)
    refine lv_aload_n hx hb dX11_feed_61 rfl (lv_at hl 0 rfl) ?_
    refine xg_r C hW fg_11_10 KX_0 rfl dX11_feed_62 ?_
    refine xg_i C hW fg_11_101 KX_19 rfl (v := 4801) rfl (x := σ6.1 4801 0) rfl dX11_feed_65 ?_
    cases h
    exact xr_i C hW dX11_feed_68
  · have h := xif c1 h
    refine lv_bipush (v := (-3)) hx hb dX11_feed_16 rfl ?_
    cases h
    exact xr_i C hW dX11_feed_18
end
theorem dX11_end_0 : decode cX11_end 0 = .ok (.iload_n 1, 1) := by decide +kernel
theorem dX11_end_1 : decode cX11_end 1 = .ok (.ifCond .lt 14, 3) := by decide +kernel
theorem dX11_end_4 : decode cX11_end 4 = .ok (.iload_n 1, 1) := by decide +kernel
theorem dX11_end_5 : decode cX11_end 5 = .ok (.aload_n 0, 1) := by decide +kernel
theorem dX11_end_6 : decode cX11_end 6 = .ok (.getfield 10, 3) := by decide +kernel
theorem dX11_end_9 : decode cX11_end 9 = .ok (.getfield 101, 3) := by decide +kernel
theorem dX11_end_12 : decode cX11_end 12 = .ok (.if_icmp .le 5, 3) := by decide +kernel
theorem dX11_end_15 : decode cX11_end 15 = .ok (.iconst (-1), 1) := by decide +kernel
theorem dX11_end_16 : decode cX11_end 16 = .ok (.ireturn, 1) := by decide +kernel
theorem dX11_end_17 : decode cX11_end 17 = .ok (.aload_n 0, 1) := by decide +kernel
theorem dX11_end_18 : decode cX11_end 18 = .ok (.getfield 10, 3) := by decide +kernel
theorem dX11_end_21 : decode cX11_end 21 = .ok (.iload_n 1, 1) := by decide +kernel
theorem dX11_end_22 : decode cX11_end 22 = .ok (.putfield 101, 3) := by decide +kernel
theorem dX11_end_25 : decode cX11_end 25 = .ok (.iload_n 1, 1) := by decide +kernel
theorem dX11_end_26 : decode cX11_end 26 = .ok (.ireturn, 1) := by decide +kernel
abbrev rm_X11_end : Room := { frames := 0, cells := 0, slots := 0, locals := 0 }
def f_X11_end (x1 : Int32) (σ : St) : Option (Int32 × St) := (if x1 < 0 then some ((-1), σ) else (if x1 ≤ (σ.1 4801 0) then some (x1, (si σ 4801 0 x1)) else some ((-1), σ)))
section
variable {p : Program} {l : Launch} {e : Env} {s : State} {m : MethodId} {args : Array Value} {below : List Frame} {meth : Method} {c : Code} {g : XG}
set_option maxRecDepth 4000 in
theorem m_X11_end (x1 : Int32) (σ : St) {r : Int32} {σ' : St} (h : f_X11_end x1 σ = some (r, σ')) : xM l KX g yX11_end cX11_end 2 (some .int) rm_X11_end [.ref (g.q 0), .int x1] σ (some (.int r)) σ' := by
  refine xmet pn_X11 rfl (Nat.le_of_ble_eq_true rfl) (lv := [(0, .ref (g.q 0)), (1, .int x1)]) rfl (fun p e s m args below meth c ls C hW hl => ?_)
  have hx := C.1
  have hb := C.2.1
  unfold f_X11_end at h
  refine lv_iload_n hx hb dX11_end_0 rfl (lv_at hl 1 rfl) ?_
  refine lv_if_lt (tgt := 15) hx hb dX11_end_1 (by decide) (fun c1 => ?_) (fun c1 => ?_)
  · have h := xit c1 h
    refine lv_iconst (v := (-1)) hx hb dX11_end_15 rfl ?_
    cases h
    exact xr_i C hW dX11_end_16
  · have h := xif c1 h
    refine lv_iload_n hx hb dX11_end_4 rfl (lv_at hl 1 rfl) ?_
    refine lv_aload_n hx hb dX11_end_5 rfl (lv_at hl 0 rfl) ?_
    refine xg_r C hW fg_11_10 KX_0 rfl dX11_end_6 ?_
    refine xg_i C hW fg_11_101 KX_19 rfl (v := 4801) rfl (x := σ.1 4801 0) rfl dX11_end_9 ?_
    refine lv_icmp_le (tgt := 17) hx hb dX11_end_12 (by decide) (fun c2 => ?_) (fun c2 => ?_)
    · have h := xit c2 h
      refine lv_aload_n hx hb dX11_end_17 rfl (lv_at hl 0 rfl) ?_
      refine xg_r C hW fg_11_10 KX_0 rfl dX11_end_18 ?_
      refine lv_iload_n hx hb dX11_end_21 rfl (lv_at hl 1 rfl) ?_
      refine xp_i C hW fp_11_101 KX_19 rfl (v := 4801) rfl rfl rfl dX11_end_22 (fun H locs hW => ?_)
      refine lv_iload_n hx hb dX11_end_25 rfl (lv_at hl 1 rfl) ?_
      cases h
      exact xr_i C hW dX11_end_26
    · have h := xif c2 h
      refine lv_iconst (v := (-1)) hx hb dX11_end_15 rfl ?_
      cases h
      exact xr_i C hW dX11_end_16
end
theorem dX11_list_0 : decode cX11_list 0 = .ok (.aload_n 0, 1) := by decide +kernel
theorem dX11_list_1 : decode cX11_list 1 = .ok (.getfield 10, 3) := by decide +kernel
theorem dX11_list_4 : decode cX11_list 4 = .ok (.invokevirtual 109, 3) := by decide +kernel
theorem dX11_list_7 : decode cX11_list 7 = .ok (.aload_n 0, 1) := by decide +kernel
theorem dX11_list_8 : decode cX11_list 8 = .ok (.getfield 10, 3) := by decide +kernel
theorem dX11_list_11 : decode cX11_list 11 = .ok (.invokevirtual 112, 3) := by decide +kernel
theorem dX11_list_14 : decode cX11_list 14 = .ok (.aload_n 0, 1) := by decide +kernel
theorem dX11_list_15 : decode cX11_list 15 = .ok (.getfield 23, 3) := by decide +kernel
theorem dX11_list_18 : decode cX11_list 18 = .ok (.aload_n 0, 1) := by decide +kernel
theorem dX11_list_19 : decode cX11_list 19 = .ok (.getfield 10, 3) := by decide +kernel
theorem dX11_list_22 : decode cX11_list 22 = .ok (.invokevirtual 115, 3) := by decide +kernel
theorem dX11_list_25 : decode cX11_list 25 = .ok (.istore_n 1, 1) := by decide +kernel
theorem dX11_list_26 : decode cX11_list 26 = .ok (.aload_n 0, 1) := by decide +kernel
theorem dX11_list_27 : decode cX11_list 27 = .ok (.getfield 10, 3) := by decide +kernel
theorem dX11_list_30 : decode cX11_list 30 = .ok (.invokevirtual 119, 3) := by decide +kernel
theorem dX11_list_33 : decode cX11_list 33 = .ok (.iload_n 1, 1) := by decide +kernel
theorem dX11_list_34 : decode cX11_list 34 = .ok (.ifCond .ge 5, 3) := by decide +kernel
theorem dX11_list_37 : decode cX11_list 37 = .ok (.iconst (-1), 1) := by decide +kernel
theorem dX11_list_38 : decode cX11_list 38 = .ok (.ireturn, 1) := by decide +kernel
theorem dX11_list_39 : decode cX11_list 39 = .ok (.aload_n 0, 1) := by decide +kernel
theorem dX11_list_40 : decode cX11_list 40 = .ok (.getfield 19, 3) := by decide +kernel
theorem dX11_list_43 : decode cX11_list 43 = .ok (.aload_n 0, 1) := by decide +kernel
theorem dX11_list_44 : decode cX11_list 44 = .ok (.getfield 23, 3) := by decide +kernel
theorem dX11_list_47 : decode cX11_list 47 = .ok (.invokevirtual 122, 3) := by decide +kernel
theorem dX11_list_50 : decode cX11_list 50 = .ok (.aload_n 0, 1) := by decide +kernel
theorem dX11_list_51 : decode cX11_list 51 = .ok (.getfield 40, 3) := by decide +kernel
theorem dX11_list_54 : decode cX11_list 54 = .ok (.invokevirtual 125, 3) := by decide +kernel
theorem dX11_list_57 : decode cX11_list 57 = .ok (.aload_n 0, 1) := by decide +kernel
theorem dX11_list_58 : decode cX11_list 58 = .ok (.getfield 81, 3) := by decide +kernel
theorem dX11_list_61 : decode cX11_list 61 = .ok (.invokevirtual 128, 3) := by decide +kernel
theorem dX11_list_64 : decode cX11_list 64 = .ok (.aload_n 0, 1) := by decide +kernel
theorem dX11_list_65 : decode cX11_list 65 = .ok (.getfield 63, 3) := by decide +kernel
theorem dX11_list_68 : decode cX11_list 68 = .ok (.invokevirtual 129, 3) := by decide +kernel
theorem dX11_list_71 : decode cX11_list 71 = .ok (.aload_n 0, 1) := by decide +kernel
theorem dX11_list_72 : decode cX11_list 72 = .ok (.getfield 97, 3) := by decide +kernel
theorem dX11_list_75 : decode cX11_list 75 = .ok (.invokevirtual 130, 3) := by decide +kernel
theorem dX11_list_78 : decode cX11_list 78 = .ok (.aload_n 0, 1) := by decide +kernel
theorem dX11_list_79 : decode cX11_list 79 = .ok (.getfield 72, 3) := by decide +kernel
theorem dX11_list_82 : decode cX11_list 82 = .ok (.invokevirtual 131, 3) := by decide +kernel
theorem dX11_list_85 : decode cX11_list 85 = .ok (.aload_n 0, 1) := by decide +kernel
theorem dX11_list_86 : decode cX11_list 86 = .ok (.getfield 90, 3) := by decide +kernel
theorem dX11_list_89 : decode cX11_list 89 = .ok (.invokevirtual 132, 3) := by decide +kernel
theorem dX11_list_92 : decode cX11_list 92 = .ok (.iload_n 1, 1) := by decide +kernel
theorem dX11_list_93 : decode cX11_list 93 = .ok (.ireturn, 1) := by decide +kernel
abbrev rm_X11_list : Room := { frames := 8, cells := 0, slots := 0, locals := 209 }
def f_X11_list (N : Nat) (σ : St) : Option (Int32 × St) := bo (f_X8_rewind σ) (fun σ1 => bo (f_X8_forgetFault σ1) (fun σ2 => bd (f_X6_take 2 N σ2) (fun r3_ σ3 => bo (f_X8_drain σ3) (fun σ4 => (if 0 ≤ r3_ then bo (f_X6_become 1 2 σ4) (fun σ6 => bo (f_X1_forget σ6) (fun σ7 => bo (f_X5_forget σ7) (fun σ8 => bo (f_X3_forget σ8) (fun σ9 => bo (f_X10_forget σ9) (fun σ10 => bo (f_X2_forget N σ10) (fun σ11 => bo (f_X4_forgetFilled σ11) (fun σ12 => some (r3_, σ12)))))))) else some ((-1), σ4))))))
section
variable {p : Program} {l : Launch} {e : Env} {s : State} {m : MethodId} {args : Array Value} {below : List Frame} {meth : Method} {c : Code} {g : XG}
set_option maxRecDepth 4000 in
theorem m_X11_list (N : Nat) (σ : St) {r : Int32} {σ' : St} (h : f_X11_list N σ = some (r, σ')) : xM l KX g yX11_list cX11_list 2 (some .int) rm_X11_list [.ref (g.q 0)] σ (some (.int r)) σ' := by
  refine xmet pn_X11 rfl (Nat.le_of_ble_eq_true rfl) (lv := [(0, .ref (g.q 0))]) rfl (fun p e s m args below meth c ls C hW hl => ?_)
  have hx := C.1
  have hb := C.2.1
  unfold f_X11_list at h
  refine lv_aload_n hx hb dX11_list_0 rfl (lv_at hl 0 rfl) ?_
  refine xg_r C hW fg_11_10 KX_0 rfl dX11_list_1 ?_
  obtain ⟨σ1, e1, h⟩ := xbo h
  refine xc_V (As := []) (rest := []) C hW (m_X8_rewind _ e1) mf_X8_rewind mv_X8_rewind ml_X11_109 ⟨rfl, rfl⟩ ⟨Nat.le_of_ble_eq_true rfl, Nat.le_of_ble_eq_true rfl⟩ KX_19 rfl hl.1 rfl rfl (Nat.le_of_ble_eq_true rfl) dX11_list_4 (fun H locs hW => W.eq (g2 := F0 m 7 ls []) rfl ?_)
  refine lv_aload_n hx hb dX11_list_7 rfl (lv_at hl 0 rfl) ?_
  refine xg_r C hW fg_11_10 KX_0 rfl dX11_list_8 ?_
  obtain ⟨σ2, e2, h⟩ := xbo h
  refine xc_V (As := []) (rest := []) C hW (m_X8_forgetFault _ e2) mf_X8_forgetFault mv_X8_forgetFault ml_X11_112 ⟨rfl, rfl⟩ ⟨Nat.le_of_ble_eq_true rfl, Nat.le_of_ble_eq_true rfl⟩ KX_19 rfl hl.1 rfl rfl (Nat.le_of_ble_eq_true rfl) dX11_list_11 (fun H locs hW => W.eq (g2 := F0 m 14 ls []) rfl ?_)
  refine lv_aload_n hx hb dX11_list_14 rfl (lv_at hl 0 rfl) ?_
  refine xg_r C hW fg_11_23 KX_0 rfl dX11_list_15 ?_
  refine lv_aload_n hx hb dX11_list_18 rfl (lv_at hl 0 rfl) ?_
  refine xg_r C hW fg_11_10 KX_0 rfl dX11_list_19 ?_
  obtain ⟨r3_, σ3, e3, h⟩ := xbd h
  refine xc_V (As := [.ref (g.q 19)]) (rest := []) C hW (m_X6_take 2 (Or.inr rfl) N _ e3) mf_X6_take mv_X6_take ml_X11_115 ⟨rfl, rfl⟩ ⟨Nat.le_of_ble_eq_true rfl, Nat.le_of_ble_eq_true rfl⟩ (KX_sl (Or.inr rfl)) rfl hl.1 rfl rfl (Nat.le_of_ble_eq_true rfl) dX11_list_22 (fun H locs hW => W.eq (g2 := F0 m 25 ls [.int r3_]) rfl ?_)
  refine lv_istore_n (lv' := [(1, .int r3_), (0, .ref (g.q 0))]) hx hb dX11_list_25 rfl hl (Nat.le_of_ble_eq_true rfl) rfl (fun ls hl => ?_)
  refine lv_aload_n hx hb dX11_list_26 rfl (lv_at hl 1 rfl) ?_
  refine xg_r C hW fg_11_10 KX_0 rfl dX11_list_27 ?_
  obtain ⟨σ4, e4, h⟩ := xbo h
  refine xc_V (As := []) (rest := []) C hW (m_X8_drain _ e4) mf_X8_drain mv_X8_drain ml_X11_119 ⟨rfl, rfl⟩ ⟨Nat.le_of_ble_eq_true rfl, Nat.le_of_ble_eq_true rfl⟩ KX_19 rfl hl.1 rfl rfl (Nat.le_of_ble_eq_true rfl) dX11_list_30 (fun H locs hW => W.eq (g2 := F0 m 33 ls []) rfl ?_)
  refine lv_iload_n hx hb dX11_list_33 rfl (lv_at hl 0 rfl) ?_
  refine lv_if_ge (tgt := 39) hx hb dX11_list_34 (by decide) (fun c5 => ?_) (fun c5 => ?_)
  · have h := xit c5 h
    refine lv_aload_n hx hb dX11_list_39 rfl (lv_at hl 1 rfl) ?_
    refine xg_r C hW fg_11_19 KX_0 rfl dX11_list_40 ?_
    refine lv_aload_n hx hb dX11_list_43 rfl (lv_at hl 1 rfl) ?_
    refine xg_r C hW fg_11_23 KX_0 rfl dX11_list_44 ?_
    obtain ⟨σ6, e6, h⟩ := xbo h
    refine xc_V (As := [.ref (g.q 2)]) (rest := []) C hW (m_X6_become 1 (Or.inl rfl) 2 (Or.inr rfl) _ e6) mf_X6_become mv_X6_become ml_X11_122 ⟨rfl, rfl⟩ ⟨Nat.le_of_ble_eq_true rfl, Nat.le_of_ble_eq_true rfl⟩ (KX_sl (Or.inl rfl)) rfl hl.1 rfl rfl (Nat.le_of_ble_eq_true rfl) dX11_list_47 (fun H locs hW => W.eq (g2 := F0 m 50 ls []) rfl ?_)
    refine lv_aload_n hx hb dX11_list_50 rfl (lv_at hl 1 rfl) ?_
    refine xg_r C hW fg_11_40 KX_0 rfl dX11_list_51 ?_
    obtain ⟨σ7, e7, h⟩ := xbo h
    refine xc_V (As := []) (rest := []) C hW (m_X1_forget _ e7) mf_X1_forget mv_X1_forget ml_X11_125 ⟨rfl, rfl⟩ ⟨Nat.le_of_ble_eq_true rfl, Nat.le_of_ble_eq_true rfl⟩ KX_23 rfl hl.1 rfl rfl (Nat.le_of_ble_eq_true rfl) dX11_list_54 (fun H locs hW => W.eq (g2 := F0 m 57 ls []) rfl ?_)
    refine lv_aload_n hx hb dX11_list_57 rfl (lv_at hl 1 rfl) ?_
    refine xg_r C hW fg_11_81 KX_0 rfl dX11_list_58 ?_
    obtain ⟨σ8, e8, h⟩ := xbo h
    refine xc_V (As := []) (rest := []) C hW (m_X5_forget _ e8) mf_X5_forget mv_X5_forget ml_X11_128 ⟨rfl, rfl⟩ ⟨Nat.le_of_ble_eq_true rfl, Nat.le_of_ble_eq_true rfl⟩ KX_57 rfl hl.1 rfl rfl (Nat.le_of_ble_eq_true rfl) dX11_list_61 (fun H locs hW => W.eq (g2 := F0 m 64 ls []) rfl ?_)
    refine lv_aload_n hx hb dX11_list_64 rfl (lv_at hl 1 rfl) ?_
    refine xg_r C hW fg_11_63 KX_0 rfl dX11_list_65 ?_
    obtain ⟨σ9, e9, h⟩ := xbo h
    refine xc_V (As := []) (rest := []) C hW (m_X3_forget _ e9) mf_X3_forget mv_X3_forget ml_X11_129 ⟨rfl, rfl⟩ ⟨Nat.le_of_ble_eq_true rfl, Nat.le_of_ble_eq_true rfl⟩ KX_40 rfl hl.1 rfl rfl (Nat.le_of_ble_eq_true rfl) dX11_list_68 (fun H locs hW => W.eq (g2 := F0 m 71 ls []) rfl ?_)
    refine lv_aload_n hx hb dX11_list_71 rfl (lv_at hl 1 rfl) ?_
    refine xg_r C hW fg_11_97 KX_0 rfl dX11_list_72 ?_
    obtain ⟨σ10, e10, h⟩ := xbo h
    refine xc_V (As := []) (rest := []) C hW (m_X10_forget _ e10) mf_X10_forget mv_X10_forget ml_X11_130 ⟨rfl, rfl⟩ ⟨Nat.le_of_ble_eq_true rfl, Nat.le_of_ble_eq_true rfl⟩ KX_73 rfl hl.1 rfl rfl (Nat.le_of_ble_eq_true rfl) dX11_list_75 (fun H locs hW => W.eq (g2 := F0 m 78 ls []) rfl ?_)
    refine lv_aload_n hx hb dX11_list_78 rfl (lv_at hl 1 rfl) ?_
    refine xg_r C hW fg_11_72 KX_0 rfl dX11_list_79 ?_
    obtain ⟨σ11, e11, h⟩ := xbo h
    refine xc_V (As := []) (rest := []) C hW (m_X2_forget N _ e11) mf_X2_forget mv_X2_forget ml_X11_131 ⟨rfl, rfl⟩ ⟨Nat.le_of_ble_eq_true rfl, Nat.le_of_ble_eq_true rfl⟩ KX_46 rfl hl.1 rfl rfl (Nat.le_of_ble_eq_true rfl) dX11_list_82 (fun H locs hW => W.eq (g2 := F0 m 85 ls []) rfl ?_)
    refine lv_aload_n hx hb dX11_list_85 rfl (lv_at hl 1 rfl) ?_
    refine xg_r C hW fg_11_90 KX_0 rfl dX11_list_86 ?_
    obtain ⟨σ12, e12, h⟩ := xbo h
    refine xc_V (As := []) (rest := []) C hW (m_X4_forgetFilled _ e12) mf_X4_forgetFilled mv_X4_forgetFilled ml_X11_132 ⟨rfl, rfl⟩ ⟨Nat.le_of_ble_eq_true rfl, Nat.le_of_ble_eq_true rfl⟩ KX_67 rfl hl.1 rfl rfl (Nat.le_of_ble_eq_true rfl) dX11_list_89 (fun H locs hW => W.eq (g2 := F0 m 92 ls []) rfl ?_)
    refine lv_iload_n hx hb dX11_list_92 rfl (lv_at hl 0 rfl) ?_
    cases h
    exact xr_i C hW dX11_list_93
  · have h := xif c5 h
    refine lv_iconst (v := (-1)) hx hb dX11_list_37 rfl ?_
    cases h
    exact xr_i C hW dX11_list_38
end
theorem dX11_fault_0 : decode cX11_fault 0 = .ok (.iload_n 1, 1) := by decide +kernel
theorem dX11_fault_1 : decode cX11_fault 1 = .ok (.ifCond .ne 11, 3) := by decide +kernel
theorem dX11_fault_4 : decode cX11_fault 4 = .ok (.aload_n 0, 1) := by decide +kernel
theorem dX11_fault_5 : decode cX11_fault 5 = .ok (.getfield 10, 3) := by decide +kernel
theorem dX11_fault_8 : decode cX11_fault 8 = .ok (.getfield 135, 3) := by decide +kernel
theorem dX11_fault_11 : decode cX11_fault 11 = .ok (.ireturn, 1) := by decide +kernel
theorem dX11_fault_12 : decode cX11_fault 12 = .ok (.iload_n 1, 1) := by decide +kernel
theorem dX11_fault_13 : decode cX11_fault 13 = .ok (.iconst 1, 1) := by decide +kernel
theorem dX11_fault_14 : decode cX11_fault 14 = .ok (.if_icmp .ne 13, 3) := by decide +kernel
theorem dX11_fault_17 : decode cX11_fault 17 = .ok (.aload_n 0, 1) := by decide +kernel
theorem dX11_fault_18 : decode cX11_fault 18 = .ok (.getfield 10, 3) := by decide +kernel
theorem dX11_fault_21 : decode cX11_fault 21 = .ok (.getfield 138, 3) := by decide +kernel
theorem dX11_fault_24 : decode cX11_fault 24 = .ok (.goto 4, 3) := by decide +kernel
theorem dX11_fault_27 : decode cX11_fault 27 = .ok (.iconst (-1), 1) := by decide +kernel
theorem dX11_fault_28 : decode cX11_fault 28 = .ok (.ireturn, 1) := by decide +kernel
abbrev rm_X11_fault : Room := { frames := 0, cells := 0, slots := 0, locals := 0 }
def f_X11_fault (x1 : Int32) (σ : St) : Int32 := (if x1 = 0 then σ.1 4811 0 else (if x1 = 1 then σ.1 4812 0 else (-1)))
section
variable {p : Program} {l : Launch} {e : Env} {s : State} {m : MethodId} {args : Array Value} {below : List Frame} {meth : Method} {c : Code} {g : XG}
set_option maxRecDepth 4000 in
theorem m_X11_fault (x1 : Int32) (σ : St) {r : Int32} (h : f_X11_fault x1 σ = r) : xM l KX g yX11_fault cX11_fault 2 (some .int) rm_X11_fault [.ref (g.q 0), .int x1] σ (some (.int r)) σ := by
  refine xmet pn_X11 rfl (Nat.le_of_ble_eq_true rfl) (lv := [(0, .ref (g.q 0)), (1, .int x1)]) rfl (fun p e s m args below meth c ls C hW hl => ?_)
  have hx := C.1
  have hb := C.2.1
  unfold f_X11_fault at h
  refine lv_iload_n hx hb dX11_fault_0 rfl (lv_at hl 1 rfl) ?_
  refine lv_if_ne (tgt := 12) hx hb dX11_fault_1 (by decide) (fun c1 => ?_) (fun c1 => ?_)
  · have h := xif c1 h
    refine lv_iload_n hx hb dX11_fault_12 rfl (lv_at hl 1 rfl) ?_
    refine lv_iconst (v := 1) hx hb dX11_fault_13 rfl ?_
    refine lv_icmp_ne (tgt := 27) hx hb dX11_fault_14 (by decide) (fun c2 => ?_) (fun c2 => ?_)
    · have h := xif c2 h
      refine lv_iconst (v := (-1)) hx hb dX11_fault_27 rfl ?_
      cases h
      exact xr_i C hW dX11_fault_28
    · have h := xit c2 h
      refine lv_aload_n hx hb dX11_fault_17 rfl (lv_at hl 0 rfl) ?_
      refine xg_r C hW fg_11_10 KX_0 rfl dX11_fault_18 ?_
      refine xg_i C hW fg_11_138 KX_19 rfl (v := 4812) rfl (x := σ.1 4812 0) rfl dX11_fault_21 ?_
      refine lv_goto (tgt := 28) hx hb dX11_fault_24 (by decide) ?_
      cases h
      exact xr_i C hW dX11_fault_28
  · have h := xit c1 h
    refine lv_aload_n hx hb dX11_fault_4 rfl (lv_at hl 0 rfl) ?_
    refine xg_r C hW fg_11_10 KX_0 rfl dX11_fault_5 ?_
    refine xg_i C hW fg_11_135 KX_19 rfl (v := 4811) rfl (x := σ.1 4811 0) rfl dX11_fault_8 ?_
    cases h
    exact xr_i C hW dX11_fault_11
end
theorem dX11_rule_0 : decode cX11_rule 0 = .ok (.iload_n 1, 1) := by decide +kernel
theorem dX11_rule_1 : decode cX11_rule 1 = .ok (.ifCond .ne 11, 3) := by decide +kernel
theorem dX11_rule_4 : decode cX11_rule 4 = .ok (.aload_n 0, 1) := by decide +kernel
theorem dX11_rule_5 : decode cX11_rule 5 = .ok (.getfield 19, 3) := by decide +kernel
theorem dX11_rule_8 : decode cX11_rule 8 = .ok (.getfield 141, 3) := by decide +kernel
theorem dX11_rule_11 : decode cX11_rule 11 = .ok (.ireturn, 1) := by decide +kernel
theorem dX11_rule_12 : decode cX11_rule 12 = .ok (.iload_n 1, 1) := by decide +kernel
theorem dX11_rule_13 : decode cX11_rule 13 = .ok (.iconst 1, 1) := by decide +kernel
theorem dX11_rule_14 : decode cX11_rule 14 = .ok (.if_icmp .lt 8, 3) := by decide +kernel
theorem dX11_rule_17 : decode cX11_rule 17 = .ok (.iload_n 1, 1) := by decide +kernel
theorem dX11_rule_18 : decode cX11_rule 18 = .ok (.iconst 4, 1) := by decide +kernel
theorem dX11_rule_19 : decode cX11_rule 19 = .ok (.if_icmp .le 6, 3) := by decide +kernel
theorem dX11_rule_22 : decode cX11_rule 22 = .ok (.bipush (-9), 2) := by decide +kernel
theorem dX11_rule_24 : decode cX11_rule 24 = .ok (.ireturn, 1) := by decide +kernel
theorem dX11_rule_25 : decode cX11_rule 25 = .ok (.aload_n 0, 1) := by decide +kernel
theorem dX11_rule_26 : decode cX11_rule 26 = .ok (.getfield 19, 3) := by decide +kernel
theorem dX11_rule_29 : decode cX11_rule 29 = .ok (.getfield 142, 3) := by decide +kernel
theorem dX11_rule_32 : decode cX11_rule 32 = .ok (.iload_n 1, 1) := by decide +kernel
theorem dX11_rule_33 : decode cX11_rule 33 = .ok (.iconst 1, 1) := by decide +kernel
theorem dX11_rule_34 : decode cX11_rule 34 = .ok (.isub, 1) := by decide +kernel
theorem dX11_rule_35 : decode cX11_rule 35 = .ok (.iaload, 1) := by decide +kernel
theorem dX11_rule_36 : decode cX11_rule 36 = .ok (.ireturn, 1) := by decide +kernel
abbrev rm_X11_rule : Room := { frames := 0, cells := 0, slots := 0, locals := 0 }
def f_X11_rule (x1 : Int32) (σ : St) : Option Int32 := (if x1 = 0 then some (σ.1 1200 0) else (if x1 < 1 then some ((-9)) else (if x1 ≤ 4 then grd (ib (x1 - 1) 4) (some (σ.1 10 (x1 - 1).toNatClampNeg)) else some ((-9)))))
section
variable {p : Program} {l : Launch} {e : Env} {s : State} {m : MethodId} {args : Array Value} {below : List Frame} {meth : Method} {c : Code} {g : XG}
set_option maxRecDepth 4000 in
theorem m_X11_rule (x1 : Int32) (σ : St) {r : Int32} (h : f_X11_rule x1 σ = some r) : xM l KX g yX11_rule cX11_rule 2 (some .int) rm_X11_rule [.ref (g.q 0), .int x1] σ (some (.int r)) σ := by
  refine xmet pn_X11 rfl (Nat.le_of_ble_eq_true rfl) (lv := [(0, .ref (g.q 0)), (1, .int x1)]) rfl (fun p e s m args below meth c ls C hW hl => ?_)
  have hx := C.1
  have hb := C.2.1
  unfold f_X11_rule at h
  refine lv_iload_n hx hb dX11_rule_0 rfl (lv_at hl 1 rfl) ?_
  refine lv_if_ne (tgt := 12) hx hb dX11_rule_1 (by decide) (fun c1 => ?_) (fun c1 => ?_)
  · have h := xif c1 h
    refine lv_iload_n hx hb dX11_rule_12 rfl (lv_at hl 1 rfl) ?_
    refine lv_iconst (v := 1) hx hb dX11_rule_13 rfl ?_
    refine lv_icmp_lt (tgt := 22) hx hb dX11_rule_14 (by decide) (fun c2 => ?_) (fun c2 => ?_)
    · have h := xit c2 h
      refine lv_bipush (v := (-9)) hx hb dX11_rule_22 rfl ?_
      cases h
      exact xr_i C hW dX11_rule_24
    · have h := xif c2 h
      refine lv_iload_n hx hb dX11_rule_17 rfl (lv_at hl 1 rfl) ?_
      refine lv_iconst (v := 4) hx hb dX11_rule_18 rfl ?_
      refine lv_icmp_le (tgt := 25) hx hb dX11_rule_19 (by decide) (fun c3 => ?_) (fun c3 => ?_)
      · have h := xit c3 h
        refine lv_aload_n hx hb dX11_rule_25 rfl (lv_at hl 0 rfl) ?_
        refine xg_r C hW fg_11_19 KX_0 rfl dX11_rule_26 ?_
        refine xg_r C hW fg_11_142 KX_1 rfl dX11_rule_29 ?_
        refine lv_iload_n hx hb dX11_rule_32 rfl (lv_at hl 1 rfl) ?_
        refine lv_iconst (v := 1) hx hb dX11_rule_33 rfl ?_
        refine lv_isub hx hb dX11_rule_34 ?_
        obtain ⟨g4, h⟩ := xgd h
        refine xa_i C hW KX_10 g4 (x := σ.1 10 (x1 - 1).toNatClampNeg) rfl dX11_rule_35 ?_
        cases h
        exact xr_i C hW dX11_rule_36
      · have h := xif c3 h
        refine lv_bipush (v := (-9)) hx hb dX11_rule_22 rfl ?_
        cases h
        exact xr_i C hW dX11_rule_24
  · have h := xit c1 h
    refine lv_aload_n hx hb dX11_rule_4 rfl (lv_at hl 0 rfl) ?_
    refine xg_r C hW fg_11_19 KX_0 rfl dX11_rule_5 ?_
    refine xg_i C hW fg_11_141 KX_1 rfl (v := 1200) rfl (x := σ.1 1200 0) rfl dX11_rule_8 ?_
    cases h
    exact xr_i C hW dX11_rule_11
end
theorem dX11_soundOf_0 : decode cX11_soundOf 0 = .ok (.iload_n 2, 1) := by decide +kernel
theorem dX11_soundOf_1 : decode cX11_soundOf 1 = .ok (.bipush 10, 2) := by decide +kernel
theorem dX11_soundOf_3 : decode cX11_soundOf 3 = .ok (.isub, 1) := by decide +kernel
theorem dX11_soundOf_4 : decode cX11_soundOf 4 = .ok (.istore 4, 2) := by decide +kernel
theorem dX11_soundOf_6 : decode cX11_soundOf 6 = .ok (.iload 4, 2) := by decide +kernel
theorem dX11_soundOf_8 : decode cX11_soundOf 8 = .ok (.ifCond .lt 9, 3) := by decide +kernel
theorem dX11_soundOf_11 : decode cX11_soundOf 11 = .ok (.iload 4, 2) := by decide +kernel
theorem dX11_soundOf_13 : decode cX11_soundOf 13 = .ok (.iload_n 1, 1) := by decide +kernel
theorem dX11_soundOf_14 : decode cX11_soundOf 14 = .ok (.if_icmp .lt 7, 3) := by decide +kernel
theorem dX11_soundOf_17 : decode cX11_soundOf 17 = .ok (.iload_n 3, 1) := by decide +kernel
theorem dX11_soundOf_18 : decode cX11_soundOf 18 = .ok (.goto 9, 3) := by decide +kernel
theorem dX11_soundOf_21 : decode cX11_soundOf 21 = .ok (.iload_n 0, 1) := by decide +kernel
theorem dX11_soundOf_22 : decode cX11_soundOf 22 = .ok (.iload 4, 2) := by decide +kernel
theorem dX11_soundOf_24 : decode cX11_soundOf 24 = .ok (.invokestatic 376, 3) := by decide +kernel
theorem dX11_soundOf_27 : decode cX11_soundOf 27 = .ok (.ireturn, 1) := by decide +kernel
abbrev rm_X11_soundOf : Room := { frames := 1, cells := 0, slots := 0, locals := 21 }
def f_X11_soundOf (x0 : Int32) (x1 : Int32) (x2 : Int32) (x3 : Int32) (σ : St) : Int32 := (if (x2 - 10) < 0 then x3 else (if (x2 - 10) < x1 then f_X11_soundAt x0 (x2 - 10) σ else x3))
section
variable {p : Program} {l : Launch} {e : Env} {s : State} {m : MethodId} {args : Array Value} {below : List Frame} {meth : Method} {c : Code} {g : XG}
set_option maxRecDepth 4000 in
theorem m_X11_soundOf (x0 : Int32) (x1 : Int32) (x2 : Int32) (x3 : Int32) (σ : St) {r : Int32} (h : f_X11_soundOf x0 x1 x2 x3 σ = r) : xM l KX g yX11_soundOf cX11_soundOf 5 (some .int) rm_X11_soundOf [.int x0, .int x1, .int x2, .int x3] σ (some (.int r)) σ := by
  refine xmet pn_X11 rfl (Nat.le_of_ble_eq_true rfl) (lv := [(0, .int x0), (1, .int x1), (2, .int x2), (3, .int x3)]) rfl (fun p e s m args below meth c ls C hW hl => ?_)
  have hx := C.1
  have hb := C.2.1
  unfold f_X11_soundOf at h
  refine lv_iload_n hx hb dX11_soundOf_0 rfl (lv_at hl 2 rfl) ?_
  refine lv_bipush (v := 10) hx hb dX11_soundOf_1 rfl ?_
  refine lv_isub hx hb dX11_soundOf_3 ?_
  refine lv_istore (lv' := [(4, .int (x2 - 10)), (0, .int x0), (1, .int x1), (2, .int x2), (3, .int x3)]) hx hb dX11_soundOf_4 hl (Nat.le_of_ble_eq_true rfl) rfl (fun ls hl => ?_)
  refine lv_iload hx hb dX11_soundOf_6 (lv_at hl 0 rfl) ?_
  refine lv_if_lt (tgt := 17) hx hb dX11_soundOf_8 (by decide) (fun c1 => ?_) (fun c1 => ?_)
  · have h := xit c1 h
    refine lv_iload_n hx hb dX11_soundOf_17 rfl (lv_at hl 4 rfl) ?_
    refine lv_goto (tgt := 27) hx hb dX11_soundOf_18 (by decide) ?_
    cases h
    exact xr_i C hW dX11_soundOf_27
  · have h := xif c1 h
    refine lv_iload hx hb dX11_soundOf_11 (lv_at hl 0 rfl) ?_
    refine lv_iload_n hx hb dX11_soundOf_13 rfl (lv_at hl 2 rfl) ?_
    refine lv_icmp_lt (tgt := 21) hx hb dX11_soundOf_14 (by decide) (fun c2 => ?_) (fun c2 => ?_)
    · have h := xit c2 h
      refine lv_iload_n hx hb dX11_soundOf_21 rfl (lv_at hl 1 rfl) ?_
      refine lv_iload hx hb dX11_soundOf_22 (lv_at hl 0 rfl) ?_
      refine xc_S (As := [.int x0, .int (x2 - 10)]) (rest := []) C hW (m_X11_soundAt x0 (x2 - 10) _ rfl) mf_X11_soundAt mt_X11_soundAt ml_X11_376 ⟨rfl, rfl⟩ ⟨Nat.le_of_ble_eq_true rfl, Nat.le_of_ble_eq_true rfl⟩ hl.1 rfl rfl (Nat.le_of_ble_eq_true rfl) dX11_soundOf_24 (fun H locs hW => W.eq (g2 := F0 m 27 ls [.int (f_X11_soundAt x0 (x2 - 10) σ)]) rfl ?_)
      cases h
      exact xr_i C hW dX11_soundOf_27
    · have h := xif c2 h
      refine lv_iload_n hx hb dX11_soundOf_17 rfl (lv_at hl 4 rfl) ?_
      refine lv_goto (tgt := 27) hx hb dX11_soundOf_18 (by decide) ?_
      cases h
      exact xr_i C hW dX11_soundOf_27
end
