theorem dX11_grouped_0 : decode cX11_grouped 0 = .ok (.iload_n 1, 1) := by decide +kernel
theorem dX11_grouped_1 : decode cX11_grouped 1 = .ok (.ifCond .lt 14, 3) := by decide +kernel
theorem dX11_grouped_4 : decode cX11_grouped 4 = .ok (.iload_n 1, 1) := by decide +kernel
theorem dX11_grouped_5 : decode cX11_grouped 5 = .ok (.aload_n 0, 1) := by decide +kernel
theorem dX11_grouped_6 : decode cX11_grouped 6 = .ok (.getfield 63, 3) := by decide +kernel
theorem dX11_grouped_9 : decode cX11_grouped 9 = .ok (.getfield 295, 3) := by decide +kernel
theorem dX11_grouped_12 : decode cX11_grouped 12 = .ok (.if_icmp .lt 5, 3) := by decide +kernel
theorem dX11_grouped_15 : decode cX11_grouped 15 = .ok (.iconst (-1), 1) := by decide +kernel
theorem dX11_grouped_16 : decode cX11_grouped 16 = .ok (.ireturn, 1) := by decide +kernel
theorem dX11_grouped_17 : decode cX11_grouped 17 = .ok (.iload_n 2, 1) := by decide +kernel
theorem dX11_grouped_18 : decode cX11_grouped 18 = .ok (.ifCond .ne 13, 3) := by decide +kernel
theorem dX11_grouped_21 : decode cX11_grouped 21 = .ok (.aload_n 0, 1) := by decide +kernel
theorem dX11_grouped_22 : decode cX11_grouped 22 = .ok (.getfield 63, 3) := by decide +kernel
theorem dX11_grouped_25 : decode cX11_grouped 25 = .ok (.getfield 298, 3) := by decide +kernel
theorem dX11_grouped_28 : decode cX11_grouped 28 = .ok (.iload_n 1, 1) := by decide +kernel
theorem dX11_grouped_29 : decode cX11_grouped 29 = .ok (.iaload, 1) := by decide +kernel
theorem dX11_grouped_30 : decode cX11_grouped 30 = .ok (.ireturn, 1) := by decide +kernel
theorem dX11_grouped_31 : decode cX11_grouped 31 = .ok (.iload_n 2, 1) := by decide +kernel
theorem dX11_grouped_32 : decode cX11_grouped 32 = .ok (.iconst 1, 1) := by decide +kernel
theorem dX11_grouped_33 : decode cX11_grouped 33 = .ok (.if_icmp .ne 15, 3) := by decide +kernel
theorem dX11_grouped_36 : decode cX11_grouped 36 = .ok (.aload_n 0, 1) := by decide +kernel
theorem dX11_grouped_37 : decode cX11_grouped 37 = .ok (.getfield 63, 3) := by decide +kernel
theorem dX11_grouped_40 : decode cX11_grouped 40 = .ok (.getfield 301, 3) := by decide +kernel
theorem dX11_grouped_43 : decode cX11_grouped 43 = .ok (.iload_n 1, 1) := by decide +kernel
theorem dX11_grouped_44 : decode cX11_grouped 44 = .ok (.iaload, 1) := by decide +kernel
theorem dX11_grouped_45 : decode cX11_grouped 45 = .ok (.goto 4, 3) := by decide +kernel
theorem dX11_grouped_48 : decode cX11_grouped 48 = .ok (.iconst (-1), 1) := by decide +kernel
theorem dX11_grouped_49 : decode cX11_grouped 49 = .ok (.ireturn, 1) := by decide +kernel
abbrev rm_X11_grouped : Room := { frames := 0, cells := 0, slots := 0, locals := 0 }
def f_X11_grouped (x1 : Int32) (x2 : Int32) (σ : St) : Option Int32 := (if x1 < 0 then some ((-1)) else (if x1 < (σ.1 9004 0) then (if x2 = 0 then grd (ib x1 24) (some (σ.1 44 x1.toNatClampNeg)) else (if x2 = 1 then grd (ib x1 24) (some (σ.1 45 x1.toNatClampNeg)) else some ((-1)))) else some ((-1))))
section
variable {p : Program} {l : Launch} {e : Env} {s : State} {m : MethodId} {args : Array Value} {below : List Frame} {meth : Method} {c : Code} {g : XG}
set_option maxRecDepth 4000 in
theorem m_X11_grouped (x1 : Int32) (x2 : Int32) (σ : St) {r : Int32} (h : f_X11_grouped x1 x2 σ = some r) : xM l KX g yX11_grouped cX11_grouped 3 (some .int) rm_X11_grouped [.ref (g.q 0), .int x1, .int x2] σ (some (.int r)) σ := by
  refine xmet pn_X11 rfl (Nat.le_of_ble_eq_true rfl) (lv := [(0, .ref (g.q 0)), (1, .int x1), (2, .int x2)]) rfl (fun p e s m args below meth c ls C hW hl => ?_)
  have hx := C.1
  have hb := C.2.1
  unfold f_X11_grouped at h
  refine lv_iload_n hx hb dX11_grouped_0 rfl (lv_at hl 1 rfl) ?_
  refine lv_if_lt (tgt := 15) hx hb dX11_grouped_1 (by decide) (fun c1 => ?_) (fun c1 => ?_)
  · have h := xit c1 h
    refine lv_iconst (v := (-1)) hx hb dX11_grouped_15 rfl ?_
    cases h
    exact xr_i C hW dX11_grouped_16
  · have h := xif c1 h
    refine lv_iload_n hx hb dX11_grouped_4 rfl (lv_at hl 1 rfl) ?_
    refine lv_aload_n hx hb dX11_grouped_5 rfl (lv_at hl 0 rfl) ?_
    refine xg_r C hW fg_11_63 KX_0 rfl dX11_grouped_6 ?_
    refine xg_i C hW fg_11_295 KX_40 rfl (v := 9004) rfl (x := σ.1 9004 0) rfl dX11_grouped_9 ?_
    refine lv_icmp_lt (tgt := 17) hx hb dX11_grouped_12 (by decide) (fun c2 => ?_) (fun c2 => ?_)
    · have h := xit c2 h
      refine lv_iload_n hx hb dX11_grouped_17 rfl (lv_at hl 2 rfl) ?_
      refine lv_if_ne (tgt := 31) hx hb dX11_grouped_18 (by decide) (fun c3 => ?_) (fun c3 => ?_)
      · have h := xif c3 h
        refine lv_iload_n hx hb dX11_grouped_31 rfl (lv_at hl 2 rfl) ?_
        refine lv_iconst (v := 1) hx hb dX11_grouped_32 rfl ?_
        refine lv_icmp_ne (tgt := 48) hx hb dX11_grouped_33 (by decide) (fun c4 => ?_) (fun c4 => ?_)
        · have h := xif c4 h
          refine lv_iconst (v := (-1)) hx hb dX11_grouped_48 rfl ?_
          cases h
          exact xr_i C hW dX11_grouped_49
        · have h := xit c4 h
          refine lv_aload_n hx hb dX11_grouped_36 rfl (lv_at hl 0 rfl) ?_
          refine xg_r C hW fg_11_63 KX_0 rfl dX11_grouped_37 ?_
          refine xg_r C hW fg_11_301 KX_40 rfl dX11_grouped_40 ?_
          refine lv_iload_n hx hb dX11_grouped_43 rfl (lv_at hl 1 rfl) ?_
          obtain ⟨g5, h⟩ := xgd h
          refine xa_i C hW KX_45 g5 (x := σ.1 45 x1.toNatClampNeg) rfl dX11_grouped_44 ?_
          refine lv_goto (tgt := 49) hx hb dX11_grouped_45 (by decide) ?_
          cases h
          exact xr_i C hW dX11_grouped_49
      · have h := xit c3 h
        refine lv_aload_n hx hb dX11_grouped_21 rfl (lv_at hl 0 rfl) ?_
        refine xg_r C hW fg_11_63 KX_0 rfl dX11_grouped_22 ?_
        refine xg_r C hW fg_11_298 KX_40 rfl dX11_grouped_25 ?_
        refine lv_iload_n hx hb dX11_grouped_28 rfl (lv_at hl 1 rfl) ?_
        obtain ⟨g6, h⟩ := xgd h
        refine xa_i C hW KX_44 g6 (x := σ.1 44 x1.toNatClampNeg) rfl dX11_grouped_29 ?_
        cases h
        exact xr_i C hW dX11_grouped_30
    · have h := xif c2 h
      refine lv_iconst (v := (-1)) hx hb dX11_grouped_15 rfl ?_
      cases h
      exact xr_i C hW dX11_grouped_16
end
theorem dX11_clear_0 : decode cX11_clear 0 = .ok (.aload_n 0, 1) := by decide +kernel
theorem dX11_clear_1 : decode cX11_clear 1 = .ok (.getfield 90, 3) := by decide +kernel
theorem dX11_clear_4 : decode cX11_clear 4 = .ok (.getfield 304, 3) := by decide +kernel
theorem dX11_clear_7 : decode cX11_clear 7 = .ok (.istore_n 1, 1) := by decide +kernel
theorem dX11_clear_8 : decode cX11_clear 8 = .ok (.aload_n 0, 1) := by decide +kernel
theorem dX11_clear_9 : decode cX11_clear 9 = .ok (.getfield 90, 3) := by decide +kernel
theorem dX11_clear_12 : decode cX11_clear 12 = .ok (.iconst 0, 1) := by decide +kernel
theorem dX11_clear_13 : decode cX11_clear 13 = .ok (.putfield 304, 3) := by decide +kernel
theorem dX11_clear_16 : decode cX11_clear 16 = .ok (.aload_n 0, 1) := by decide +kernel
theorem dX11_clear_17 : decode cX11_clear 17 = .ok (.getfield 90, 3) := by decide +kernel
theorem dX11_clear_20 : decode cX11_clear 20 = .ok (.invokevirtual 132, 3) := by decide +kernel
theorem dX11_clear_23 : decode cX11_clear 23 = .ok (.iload_n 1, 1) := by decide +kernel
theorem dX11_clear_24 : decode cX11_clear 24 = .ok (.ireturn, 1) := by decide +kernel
abbrev rm_X11_clear : Room := { frames := 1, cells := 0, slots := 0, locals := 20 }
def f_X11_clear (σ : St) : Option (Int32 × St) := bo (f_X4_forgetFilled (si σ 14402 0 0)) (fun σ1 => some (σ.1 14402 0, σ1))
section
variable {p : Program} {l : Launch} {e : Env} {s : State} {m : MethodId} {args : Array Value} {below : List Frame} {meth : Method} {c : Code} {g : XG}
set_option maxRecDepth 4000 in
theorem m_X11_clear (σ : St) {r : Int32} {σ' : St} (h : f_X11_clear σ = some (r, σ')) : xM l KX g yX11_clear cX11_clear 2 (some .int) rm_X11_clear [.ref (g.q 0)] σ (some (.int r)) σ' := by
  refine xmet pn_X11 rfl (Nat.le_of_ble_eq_true rfl) (lv := [(0, .ref (g.q 0))]) rfl (fun p e s m args below meth c ls C hW hl => ?_)
  have hx := C.1
  have hb := C.2.1
  unfold f_X11_clear at h
  refine lv_aload_n hx hb dX11_clear_0 rfl (lv_at hl 0 rfl) ?_
  refine xg_r C hW fg_11_90 KX_0 rfl dX11_clear_1 ?_
  refine xg_i C hW fg_11_304 KX_67 rfl (v := 14402) rfl (x := σ.1 14402 0) rfl dX11_clear_4 ?_
  refine lv_istore_n (lv' := [(1, .int (σ.1 14402 0)), (0, .ref (g.q 0))]) hx hb dX11_clear_7 rfl hl (Nat.le_of_ble_eq_true rfl) rfl (fun ls hl => ?_)
  refine lv_aload_n hx hb dX11_clear_8 rfl (lv_at hl 1 rfl) ?_
  refine xg_r C hW fg_11_90 KX_0 rfl dX11_clear_9 ?_
  refine lv_iconst (v := 0) hx hb dX11_clear_12 rfl ?_
  refine xp_i C hW fp_11_304 KX_67 rfl (v := 14402) rfl rfl rfl dX11_clear_13 (fun H locs hW => ?_)
  refine lv_aload_n hx hb dX11_clear_16 rfl (lv_at hl 1 rfl) ?_
  refine xg_r C hW fg_11_90 KX_0 rfl dX11_clear_17 ?_
  obtain ⟨σ1, e1, h⟩ := xbo h
  refine xc_V (As := []) (rest := []) C hW (m_X4_forgetFilled _ e1) mf_X4_forgetFilled mv_X4_forgetFilled ml_X11_132 ⟨rfl, rfl⟩ ⟨Nat.le_of_ble_eq_true rfl, Nat.le_of_ble_eq_true rfl⟩ KX_67 rfl hl.1 rfl rfl (Nat.le_of_ble_eq_true rfl) dX11_clear_20 (fun H locs hW => W.eq (g2 := F0 m 23 ls []) rfl ?_)
  refine lv_iload_n hx hb dX11_clear_23 rfl (lv_at hl 0 rfl) ?_
  cases h
  exact xr_i C hW dX11_clear_24
end
theorem dX11_say_0 : decode cX11_say 0 = .ok (.aload_n 0, 1) := by decide +kernel
theorem dX11_say_1 : decode cX11_say 1 = .ok (.getfield 47, 3) := by decide +kernel
theorem dX11_say_4 : decode cX11_say 4 = .ok (.iload_n 1, 1) := by decide +kernel
theorem dX11_say_5 : decode cX11_say 5 = .ok (.invokevirtual 243, 3) := by decide +kernel
theorem dX11_say_8 : decode cX11_say 8 = .ok (.ifCond .ne 6, 3) := by decide +kernel
theorem dX11_say_11 : decode cX11_say 11 = .ok (.bipush (-2), 2) := by decide +kernel
theorem dX11_say_13 : decode cX11_say 13 = .ok (.ireturn, 1) := by decide +kernel
theorem dX11_say_14 : decode cX11_say 14 = .ok (.aload_n 0, 1) := by decide +kernel
theorem dX11_say_15 : decode cX11_say 15 = .ok (.getfield 90, 3) := by decide +kernel
theorem dX11_say_18 : decode cX11_say 18 = .ok (.iload_n 1, 1) := by decide +kernel
theorem dX11_say_19 : decode cX11_say 19 = .ok (.invokevirtual 305, 3) := by decide +kernel
theorem dX11_say_22 : decode cX11_say 22 = .ok (.ifCond .eq 13, 3) := by decide +kernel
theorem dX11_say_25 : decode cX11_say 25 = .ok (.aload_n 0, 1) := by decide +kernel
theorem dX11_say_26 : decode cX11_say 26 = .ok (.getfield 90, 3) := by decide +kernel
theorem dX11_say_29 : decode cX11_say 29 = .ok (.getfield 304, 3) := by decide +kernel
theorem dX11_say_32 : decode cX11_say 32 = .ok (.goto 5, 3) := by decide +kernel
theorem dX11_say_35 : decode cX11_say 35 = .ok (.bipush (-3), 2) := by decide +kernel
theorem dX11_say_37 : decode cX11_say 37 = .ok (.ireturn, 1) := by decide +kernel
abbrev rm_X11_say : Room := { frames := 2, cells := 0, slots := 0, locals := 41 }
def f_X11_say (x1 : Int32) (σ : St) : Option (Int32 × St) := (if (f_X9_has x1 σ) = 0 then some ((-2), σ) else bd (f_X4_put x1 σ) (fun r2_ σ2 => (if r2_ = 0 then some ((-3), σ2) else some (σ2.1 14402 0, σ2))))
section
variable {p : Program} {l : Launch} {e : Env} {s : State} {m : MethodId} {args : Array Value} {below : List Frame} {meth : Method} {c : Code} {g : XG}
set_option maxRecDepth 4000 in
theorem m_X11_say (x1 : Int32) (σ : St) {r : Int32} {σ' : St} (h : f_X11_say x1 σ = some (r, σ')) : xM l KX g yX11_say cX11_say 2 (some .int) rm_X11_say [.ref (g.q 0), .int x1] σ (some (.int r)) σ' := by
  refine xmet pn_X11 rfl (Nat.le_of_ble_eq_true rfl) (lv := [(0, .ref (g.q 0)), (1, .int x1)]) rfl (fun p e s m args below meth c ls C hW hl => ?_)
  have hx := C.1
  have hb := C.2.1
  unfold f_X11_say at h
  refine lv_aload_n hx hb dX11_say_0 rfl (lv_at hl 0 rfl) ?_
  refine xg_r C hW fg_11_47 KX_0 rfl dX11_say_1 ?_
  refine lv_iload_n hx hb dX11_say_4 rfl (lv_at hl 1 rfl) ?_
  refine xc_V (As := [.int x1]) (rest := []) C hW (m_X9_has x1 _ rfl) mf_X9_has mv_X9_has ml_X11_243 ⟨rfl, rfl⟩ ⟨Nat.le_of_ble_eq_true rfl, Nat.le_of_ble_eq_true rfl⟩ KX_33 rfl hl.1 rfl rfl (Nat.le_of_ble_eq_true rfl) dX11_say_5 (fun H locs hW => W.eq (g2 := F0 m 8 ls [.int (f_X9_has x1 σ)]) rfl ?_)
  refine lv_if_ne (tgt := 14) hx hb dX11_say_8 (by decide) (fun c1 => ?_) (fun c1 => ?_)
  · have h := xif c1 h
    refine lv_aload_n hx hb dX11_say_14 rfl (lv_at hl 0 rfl) ?_
    refine xg_r C hW fg_11_90 KX_0 rfl dX11_say_15 ?_
    refine lv_iload_n hx hb dX11_say_18 rfl (lv_at hl 1 rfl) ?_
    obtain ⟨r2_, σ2, e2, h⟩ := xbd h
    refine xc_V (As := [.int x1]) (rest := []) C hW (m_X4_put x1 _ e2) mf_X4_put mv_X4_put ml_X11_305 ⟨rfl, rfl⟩ ⟨Nat.le_of_ble_eq_true rfl, Nat.le_of_ble_eq_true rfl⟩ KX_67 rfl hl.1 rfl rfl (Nat.le_of_ble_eq_true rfl) dX11_say_19 (fun H locs hW => W.eq (g2 := F0 m 22 ls [.int r2_]) rfl ?_)
    refine lv_if_eq (tgt := 35) hx hb dX11_say_22 (by decide) (fun c3 => ?_) (fun c3 => ?_)
    · have h := xit c3 h
      refine lv_bipush (v := (-3)) hx hb dX11_say_35 rfl ?_
      cases h
      exact xr_i C hW dX11_say_37
    · have h := xif c3 h
      refine lv_aload_n hx hb dX11_say_25 rfl (lv_at hl 0 rfl) ?_
      refine xg_r C hW fg_11_90 KX_0 rfl dX11_say_26 ?_
      refine xg_i C hW fg_11_304 KX_67 rfl (v := 14402) rfl (x := σ2.1 14402 0) rfl dX11_say_29 ?_
      refine lv_goto (tgt := 37) hx hb dX11_say_32 (by decide) ?_
      cases h
      exact xr_i C hW dX11_say_37
  · have h := xit c1 h
    refine lv_bipush (v := (-2)) hx hb dX11_say_11 rfl ?_
    cases h
    exact xr_i C hW dX11_say_13
end
theorem dX11_fill_0 : decode cX11_fill 0 = .ok (.iload_n 1, 1) := by decide +kernel
theorem dX11_fill_1 : decode cX11_fill 1 = .ok (.iconst 1, 1) := by decide +kernel
theorem dX11_fill_2 : decode cX11_fill 2 = .ok (.if_icmp .lt 10, 3) := by decide +kernel
theorem dX11_fill_5 : decode cX11_fill 5 = .ok (.iload_n 1, 1) := by decide +kernel
theorem dX11_fill_6 : decode cX11_fill 6 = .ok (.sipush 144, 3) := by decide +kernel
theorem dX11_fill_9 : decode cX11_fill 9 = .ok (.if_icmp .le 6, 3) := by decide +kernel
theorem dX11_fill_12 : decode cX11_fill 12 = .ok (.bipush (-2), 2) := by decide +kernel
theorem dX11_fill_14 : decode cX11_fill 14 = .ok (.ireturn, 1) := by decide +kernel
theorem dX11_fill_15 : decode cX11_fill 15 = .ok (.aload_n 0, 1) := by decide +kernel
theorem dX11_fill_16 : decode cX11_fill 16 = .ok (.getfield 90, 3) := by decide +kernel
theorem dX11_fill_19 : decode cX11_fill 19 = .ok (.getfield 304, 3) := by decide +kernel
theorem dX11_fill_22 : decode cX11_fill 22 = .ok (.ifCond .ne 6, 3) := by decide +kernel
theorem dX11_fill_25 : decode cX11_fill 25 = .ok (.bipush (-4), 2) := by decide +kernel
theorem dX11_fill_27 : decode cX11_fill 27 = .ok (.ireturn, 1) := by decide +kernel
theorem dX11_fill_28 : decode cX11_fill 28 = .ok (.aload_n 0, 1) := by decide +kernel
theorem dX11_fill_29 : decode cX11_fill 29 = .ok (.getfield 72, 3) := by decide +kernel
theorem dX11_fill_32 : decode cX11_fill 32 = .ok (.aload_n 0, 1) := by decide +kernel
theorem dX11_fill_33 : decode cX11_fill 33 = .ok (.getfield 90, 3) := by decide +kernel
theorem dX11_fill_36 : decode cX11_fill 36 = .ok (.getfield 307, 3) := by decide +kernel
theorem dX11_fill_39 : decode cX11_fill 39 = .ok (.aload_n 0, 1) := by decide +kernel
theorem dX11_fill_40 : decode cX11_fill 40 = .ok (.getfield 90, 3) := by decide +kernel
theorem dX11_fill_43 : decode cX11_fill 43 = .ok (.getfield 304, 3) := by decide +kernel
theorem dX11_fill_46 : decode cX11_fill 46 = .ok (.invokevirtual 310, 3) := by decide +kernel
theorem dX11_fill_49 : decode cX11_fill 49 = .ok (.ifCond .eq 14, 3) := by decide +kernel
theorem dX11_fill_52 : decode cX11_fill 52 = .ok (.aload_n 0, 1) := by decide +kernel
theorem dX11_fill_53 : decode cX11_fill 53 = .ok (.getfield 90, 3) := by decide +kernel
theorem dX11_fill_56 : decode cX11_fill 56 = .ok (.iload_n 1, 1) := by decide +kernel
theorem dX11_fill_57 : decode cX11_fill 57 = .ok (.invokevirtual 314, 3) := by decide +kernel
theorem dX11_fill_60 : decode cX11_fill 60 = .ok (.goto 5, 3) := by decide +kernel
theorem dX11_fill_63 : decode cX11_fill 63 = .ok (.bipush (-3), 2) := by decide +kernel
theorem dX11_fill_65 : decode cX11_fill 65 = .ok (.ireturn, 1) := by decide +kernel
abbrev rm_X11_fill : Room := { frames := 47, cells := 0, slots := 0, locals := 1886 }
def f_X11_fill (N : Nat) (x1 : Int32) (σ : St) : Option (Int32 × St) := (if x1 < 1 then some ((-2), σ) else (if x1 ≤ 144 then (if (σ.1 14402 0) = 0 then some ((-4), σ) else bd (f_X2_settle 68 12 N (σ.1 14402 0) σ) (fun r4_ σ4 => (if r4_ = 0 then some ((-3), σ4) else bd (f_X4_fillWith N x1 σ4) (fun r6_ σ6 => some (r6_, σ6))))) else some ((-2), σ)))
section
variable {p : Program} {l : Launch} {e : Env} {s : State} {m : MethodId} {args : Array Value} {below : List Frame} {meth : Method} {c : Code} {g : XG}
set_option maxRecDepth 4000 in
theorem m_X11_fill (N : Nat) (x1 : Int32) (σ : St) {r : Int32} {σ' : St} (h : f_X11_fill N x1 σ = some (r, σ')) : xM l KX g yX11_fill cX11_fill 2 (some .int) rm_X11_fill [.ref (g.q 0), .int x1] σ (some (.int r)) σ' := by
  refine xmet pn_X11 rfl (Nat.le_of_ble_eq_true rfl) (lv := [(0, .ref (g.q 0)), (1, .int x1)]) rfl (fun p e s m args below meth c ls C hW hl => ?_)
  have hx := C.1
  have hb := C.2.1
  unfold f_X11_fill at h
  refine lv_iload_n hx hb dX11_fill_0 rfl (lv_at hl 1 rfl) ?_
  refine lv_iconst (v := 1) hx hb dX11_fill_1 rfl ?_
  refine lv_icmp_lt (tgt := 12) hx hb dX11_fill_2 (by decide) (fun c1 => ?_) (fun c1 => ?_)
  · have h := xit c1 h
    refine lv_bipush (v := (-2)) hx hb dX11_fill_12 rfl ?_
    cases h
    exact xr_i C hW dX11_fill_14
  · have h := xif c1 h
    refine lv_iload_n hx hb dX11_fill_5 rfl (lv_at hl 1 rfl) ?_
    refine lv_sipush (v := 144) hx hb dX11_fill_6 rfl ?_
    refine lv_icmp_le (tgt := 15) hx hb dX11_fill_9 (by decide) (fun c2 => ?_) (fun c2 => ?_)
    · have h := xit c2 h
      refine lv_aload_n hx hb dX11_fill_15 rfl (lv_at hl 0 rfl) ?_
      refine xg_r C hW fg_11_90 KX_0 rfl dX11_fill_16 ?_
      refine xg_i C hW fg_11_304 KX_67 rfl (v := 14402) rfl (x := σ.1 14402 0) rfl dX11_fill_19 ?_
      refine lv_if_ne (tgt := 28) hx hb dX11_fill_22 (by decide) (fun c3 => ?_) (fun c3 => ?_)
      · have h := xif c3 h
        refine lv_aload_n hx hb dX11_fill_28 rfl (lv_at hl 0 rfl) ?_
        refine xg_r C hW fg_11_72 KX_0 rfl dX11_fill_29 ?_
        refine lv_aload_n hx hb dX11_fill_32 rfl (lv_at hl 0 rfl) ?_
        refine xg_r C hW fg_11_90 KX_0 rfl dX11_fill_33 ?_
        refine xg_r C hW fg_11_307 KX_67 rfl dX11_fill_36 ?_
        refine lv_aload_n hx hb dX11_fill_39 rfl (lv_at hl 0 rfl) ?_
        refine xg_r C hW fg_11_90 KX_0 rfl dX11_fill_40 ?_
        refine xg_i C hW fg_11_304 KX_67 rfl (v := 14402) rfl (x := σ.1 14402 0) rfl dX11_fill_43 ?_
        obtain ⟨r4_, σ4, e4, h⟩ := xbd h
        refine xc_V (As := [.ref (g.q 68), .int (σ.1 14402 0)]) (rest := []) C hW (m_X2_settle 68 12 KX_68 N (σ.1 14402 0) _ e4) mf_X2_settle mv_X2_settle ml_X11_310 ⟨rfl, rfl⟩ ⟨Nat.le_of_ble_eq_true rfl, Nat.le_of_ble_eq_true rfl⟩ KX_46 rfl hl.1 rfl rfl (Nat.le_of_ble_eq_true rfl) dX11_fill_46 (fun H locs hW => W.eq (g2 := F0 m 49 ls [.int r4_]) rfl ?_)
        refine lv_if_eq (tgt := 63) hx hb dX11_fill_49 (by decide) (fun c5 => ?_) (fun c5 => ?_)
        · have h := xit c5 h
          refine lv_bipush (v := (-3)) hx hb dX11_fill_63 rfl ?_
          cases h
          exact xr_i C hW dX11_fill_65
        · have h := xif c5 h
          refine lv_aload_n hx hb dX11_fill_52 rfl (lv_at hl 0 rfl) ?_
          refine xg_r C hW fg_11_90 KX_0 rfl dX11_fill_53 ?_
          refine lv_iload_n hx hb dX11_fill_56 rfl (lv_at hl 1 rfl) ?_
          obtain ⟨r6_, σ6, e6, h⟩ := xbd h
          refine xc_V (As := [.int x1]) (rest := []) C hW (m_X4_fillWith N x1 _ e6) mf_X4_fillWith mv_X4_fillWith ml_X11_314 ⟨rfl, rfl⟩ ⟨Nat.le_of_ble_eq_true rfl, Nat.le_of_ble_eq_true rfl⟩ KX_67 rfl hl.1 rfl rfl (Nat.le_of_ble_eq_true rfl) dX11_fill_57 (fun H locs hW => W.eq (g2 := F0 m 60 ls [.int r6_]) rfl ?_)
          refine lv_goto (tgt := 65) hx hb dX11_fill_60 (by decide) ?_
          cases h
          exact xr_i C hW dX11_fill_65
      · have h := xit c3 h
        refine lv_bipush (v := (-4)) hx hb dX11_fill_25 rfl ?_
        cases h
        exact xr_i C hW dX11_fill_27
    · have h := xif c2 h
      refine lv_bipush (v := (-2)) hx hb dX11_fill_12 rfl ?_
      cases h
      exact xr_i C hW dX11_fill_14
end
theorem dX11_filled_0 : decode cX11_filled 0 = .ok (.iload_n 1, 1) := by decide +kernel
theorem dX11_filled_1 : decode cX11_filled 1 = .ok (.ifCond .lt 14, 3) := by decide +kernel
theorem dX11_filled_4 : decode cX11_filled 4 = .ok (.iload_n 1, 1) := by decide +kernel
theorem dX11_filled_5 : decode cX11_filled 5 = .ok (.aload_n 0, 1) := by decide +kernel
theorem dX11_filled_6 : decode cX11_filled 6 = .ok (.getfield 90, 3) := by decide +kernel
theorem dX11_filled_9 : decode cX11_filled 9 = .ok (.getfield 317, 3) := by decide +kernel
theorem dX11_filled_12 : decode cX11_filled 12 = .ok (.if_icmp .lt 5, 3) := by decide +kernel
theorem dX11_filled_15 : decode cX11_filled 15 = .ok (.iconst (-1), 1) := by decide +kernel
theorem dX11_filled_16 : decode cX11_filled 16 = .ok (.ireturn, 1) := by decide +kernel
theorem dX11_filled_17 : decode cX11_filled 17 = .ok (.aload_n 0, 1) := by decide +kernel
theorem dX11_filled_18 : decode cX11_filled 18 = .ok (.getfield 90, 3) := by decide +kernel
theorem dX11_filled_21 : decode cX11_filled 21 = .ok (.getfield 320, 3) := by decide +kernel
theorem dX11_filled_24 : decode cX11_filled 24 = .ok (.iload_n 1, 1) := by decide +kernel
theorem dX11_filled_25 : decode cX11_filled 25 = .ok (.iaload, 1) := by decide +kernel
theorem dX11_filled_26 : decode cX11_filled 26 = .ok (.istore_n 3, 1) := by decide +kernel
theorem dX11_filled_27 : decode cX11_filled 27 = .ok (.iload_n 2, 1) := by decide +kernel
theorem dX11_filled_28 : decode cX11_filled 28 = .ok (.ifCond .ne 13, 3) := by decide +kernel
theorem dX11_filled_31 : decode cX11_filled 31 = .ok (.aload_n 0, 1) := by decide +kernel
theorem dX11_filled_32 : decode cX11_filled 32 = .ok (.getfield 90, 3) := by decide +kernel
theorem dX11_filled_35 : decode cX11_filled 35 = .ok (.getfield 323, 3) := by decide +kernel
theorem dX11_filled_38 : decode cX11_filled 38 = .ok (.iload_n 1, 1) := by decide +kernel
theorem dX11_filled_39 : decode cX11_filled 39 = .ok (.iaload, 1) := by decide +kernel
theorem dX11_filled_40 : decode cX11_filled 40 = .ok (.ireturn, 1) := by decide +kernel
theorem dX11_filled_41 : decode cX11_filled 41 = .ok (.iload_n 2, 1) := by decide +kernel
theorem dX11_filled_42 : decode cX11_filled 42 = .ok (.iconst 1, 1) := by decide +kernel
theorem dX11_filled_43 : decode cX11_filled 43 = .ok (.if_icmp .ne 7, 3) := by decide +kernel
theorem dX11_filled_46 : decode cX11_filled 46 = .ok (.iload_n 3, 1) := by decide +kernel
theorem dX11_filled_47 : decode cX11_filled 47 = .ok (.goto 20, 3) := by decide +kernel
theorem dX11_filled_50 : decode cX11_filled 50 = .ok (.aload_n 0, 1) := by decide +kernel
theorem dX11_filled_51 : decode cX11_filled 51 = .ok (.getfield 90, 3) := by decide +kernel
theorem dX11_filled_54 : decode cX11_filled 54 = .ok (.getfield 326, 3) := by decide +kernel
theorem dX11_filled_57 : decode cX11_filled 57 = .ok (.iload_n 1, 1) := by decide +kernel
theorem dX11_filled_58 : decode cX11_filled 58 = .ok (.laload, 1) := by decide +kernel
theorem dX11_filled_59 : decode cX11_filled 59 = .ok (.iload_n 3, 1) := by decide +kernel
theorem dX11_filled_60 : decode cX11_filled 60 = .ok (.iload_n 2, 1) := by decide +kernel
theorem dX11_filled_61 : decode cX11_filled 61 = .ok (.bipush 10, 2) := by decide +kernel
theorem dX11_filled_63 : decode cX11_filled 63 = .ok (.isub, 1) := by decide +kernel
theorem dX11_filled_64 : decode cX11_filled 64 = .ok (.invokestatic 329, 3) := by decide +kernel
theorem dX11_filled_67 : decode cX11_filled 67 = .ok (.ireturn, 1) := by decide +kernel
abbrev rm_X11_filled : Room := { frames := 1, cells := 0, slots := 0, locals := 23 }
def f_X11_filled (x1 : Int32) (x2 : Int32) (σ : St) : Option Int32 := (if x1 < 0 then some ((-1)) else (if x1 < (σ.1 14405 0) then grd (ib x1 12) ((if x2 = 0 then grd (ib x1 12) (some (σ.1 70 x1.toNatClampNeg)) else (if x2 = 1 then some (σ.1 71 x1.toNatClampNeg) else grd (ib x1 12) (some (f_X11_signOf (σ.2 72 x1.toNatClampNeg) (σ.1 71 x1.toNatClampNeg) (x2 - 10) σ))))) else some ((-1))))
section
variable {p : Program} {l : Launch} {e : Env} {s : State} {m : MethodId} {args : Array Value} {below : List Frame} {meth : Method} {c : Code} {g : XG}
set_option maxRecDepth 4000 in
theorem m_X11_filled (x1 : Int32) (x2 : Int32) (σ : St) {r : Int32} (h : f_X11_filled x1 x2 σ = some r) : xM l KX g yX11_filled cX11_filled 4 (some .int) rm_X11_filled [.ref (g.q 0), .int x1, .int x2] σ (some (.int r)) σ := by
  refine xmet pn_X11 rfl (Nat.le_of_ble_eq_true rfl) (lv := [(0, .ref (g.q 0)), (1, .int x1), (2, .int x2)]) rfl (fun p e s m args below meth c ls C hW hl => ?_)
  have hx := C.1
  have hb := C.2.1
  unfold f_X11_filled at h
  refine lv_iload_n hx hb dX11_filled_0 rfl (lv_at hl 1 rfl) ?_
  refine lv_if_lt (tgt := 15) hx hb dX11_filled_1 (by decide) (fun c1 => ?_) (fun c1 => ?_)
  · have h := xit c1 h
    refine lv_iconst (v := (-1)) hx hb dX11_filled_15 rfl ?_
    cases h
    exact xr_i C hW dX11_filled_16
  · have h := xif c1 h
    refine lv_iload_n hx hb dX11_filled_4 rfl (lv_at hl 1 rfl) ?_
    refine lv_aload_n hx hb dX11_filled_5 rfl (lv_at hl 0 rfl) ?_
    refine xg_r C hW fg_11_90 KX_0 rfl dX11_filled_6 ?_
    refine xg_i C hW fg_11_317 KX_67 rfl (v := 14405) rfl (x := σ.1 14405 0) rfl dX11_filled_9 ?_
    refine lv_icmp_lt (tgt := 17) hx hb dX11_filled_12 (by decide) (fun c2 => ?_) (fun c2 => ?_)
    · have h := xit c2 h
      refine lv_aload_n hx hb dX11_filled_17 rfl (lv_at hl 0 rfl) ?_
      refine xg_r C hW fg_11_90 KX_0 rfl dX11_filled_18 ?_
      refine xg_r C hW fg_11_320 KX_67 rfl dX11_filled_21 ?_
      refine lv_iload_n hx hb dX11_filled_24 rfl (lv_at hl 1 rfl) ?_
      obtain ⟨g3, h⟩ := xgd h
      refine xa_i C hW KX_71 g3 (x := σ.1 71 x1.toNatClampNeg) rfl dX11_filled_25 ?_
      refine lv_istore_n (lv' := [(3, .int (σ.1 71 x1.toNatClampNeg)), (0, .ref (g.q 0)), (1, .int x1), (2, .int x2)]) hx hb dX11_filled_26 rfl hl (Nat.le_of_ble_eq_true rfl) rfl (fun ls hl => ?_)
      refine lv_iload_n hx hb dX11_filled_27 rfl (lv_at hl 3 rfl) ?_
      refine lv_if_ne (tgt := 41) hx hb dX11_filled_28 (by decide) (fun c4 => ?_) (fun c4 => ?_)
      · have h := xif c4 h
        refine lv_iload_n hx hb dX11_filled_41 rfl (lv_at hl 3 rfl) ?_
        refine lv_iconst (v := 1) hx hb dX11_filled_42 rfl ?_
        refine lv_icmp_ne (tgt := 50) hx hb dX11_filled_43 (by decide) (fun c5 => ?_) (fun c5 => ?_)
        · have h := xif c5 h
          refine lv_aload_n hx hb dX11_filled_50 rfl (lv_at hl 1 rfl) ?_
          refine xg_r C hW fg_11_90 KX_0 rfl dX11_filled_51 ?_
          refine xg_r C hW fg_11_326 KX_67 rfl dX11_filled_54 ?_
          refine lv_iload_n hx hb dX11_filled_57 rfl (lv_at hl 2 rfl) ?_
          obtain ⟨g6, h⟩ := xgd h
          refine xa_l C hW KX_72 g6 (x := σ.2 72 x1.toNatClampNeg) rfl dX11_filled_58 ?_
          refine lv_iload_n hx hb dX11_filled_59 rfl (lv_at hl 0 rfl) ?_
          refine lv_iload_n hx hb dX11_filled_60 rfl (lv_at hl 3 rfl) ?_
          refine lv_bipush (v := 10) hx hb dX11_filled_61 rfl ?_
          refine lv_isub hx hb dX11_filled_63 ?_
          refine xc_S (As := [.long (σ.2 72 x1.toNatClampNeg), .int (σ.1 71 x1.toNatClampNeg), .int (x2 - 10)]) (rest := []) C hW (m_X11_signOf (σ.2 72 x1.toNatClampNeg) (σ.1 71 x1.toNatClampNeg) (x2 - 10) _ rfl) mf_X11_signOf mt_X11_signOf ml_X11_329 ⟨rfl, rfl⟩ ⟨Nat.le_of_ble_eq_true rfl, Nat.le_of_ble_eq_true rfl⟩ hl.1 rfl rfl (Nat.le_of_ble_eq_true rfl) dX11_filled_64 (fun H locs hW => W.eq (g2 := F0 m 67 ls [.int (f_X11_signOf (σ.2 72 x1.toNatClampNeg) (σ.1 71 x1.toNatClampNeg) (x2 - 10) σ)]) rfl ?_)
          cases h
          exact xr_i C hW dX11_filled_67
        · have h := xit c5 h
          refine lv_iload_n hx hb dX11_filled_46 rfl (lv_at hl 0 rfl) ?_
          refine lv_goto (tgt := 67) hx hb dX11_filled_47 (by decide) ?_
          cases h
          exact xr_i C hW dX11_filled_67
      · have h := xit c4 h
        refine lv_aload_n hx hb dX11_filled_31 rfl (lv_at hl 1 rfl) ?_
        refine xg_r C hW fg_11_90 KX_0 rfl dX11_filled_32 ?_
        refine xg_r C hW fg_11_323 KX_67 rfl dX11_filled_35 ?_
        refine lv_iload_n hx hb dX11_filled_38 rfl (lv_at hl 2 rfl) ?_
        obtain ⟨g7, h⟩ := xgd h
        refine xa_i C hW KX_70 g7 (x := σ.1 70 x1.toNatClampNeg) rfl dX11_filled_39 ?_
        cases h
        exact xr_i C hW dX11_filled_40
    · have h := xif c2 h
      refine lv_iconst (v := (-1)) hx hb dX11_filled_15 rfl ?_
      cases h
      exact xr_i C hW dX11_filled_16
end
theorem dX11_fills_0 : decode cX11_fills 0 = .ok (.aload_n 0, 1) := by decide +kernel
theorem dX11_fills_1 : decode cX11_fills 1 = .ok (.getfield 90, 3) := by decide +kernel
theorem dX11_fills_4 : decode cX11_fills 4 = .ok (.getfield 304, 3) := by decide +kernel
theorem dX11_fills_7 : decode cX11_fills 7 = .ok (.ifCond .ne 6, 3) := by decide +kernel
theorem dX11_fills_10 : decode cX11_fills 10 = .ok (.bipush (-4), 2) := by decide +kernel
theorem dX11_fills_12 : decode cX11_fills 12 = .ok (.ireturn, 1) := by decide +kernel
theorem dX11_fills_13 : decode cX11_fills 13 = .ok (.aload_n 0, 1) := by decide +kernel
theorem dX11_fills_14 : decode cX11_fills 14 = .ok (.getfield 72, 3) := by decide +kernel
theorem dX11_fills_17 : decode cX11_fills 17 = .ok (.aload_n 0, 1) := by decide +kernel
theorem dX11_fills_18 : decode cX11_fills 18 = .ok (.getfield 90, 3) := by decide +kernel
theorem dX11_fills_21 : decode cX11_fills 21 = .ok (.getfield 307, 3) := by decide +kernel
theorem dX11_fills_24 : decode cX11_fills 24 = .ok (.aload_n 0, 1) := by decide +kernel
theorem dX11_fills_25 : decode cX11_fills 25 = .ok (.getfield 90, 3) := by decide +kernel
theorem dX11_fills_28 : decode cX11_fills 28 = .ok (.getfield 304, 3) := by decide +kernel
theorem dX11_fills_31 : decode cX11_fills 31 = .ok (.invokevirtual 310, 3) := by decide +kernel
theorem dX11_fills_34 : decode cX11_fills 34 = .ok (.ifCond .eq 13, 3) := by decide +kernel
theorem dX11_fills_37 : decode cX11_fills 37 = .ok (.aload_n 0, 1) := by decide +kernel
theorem dX11_fills_38 : decode cX11_fills 38 = .ok (.getfield 90, 3) := by decide +kernel
theorem dX11_fills_41 : decode cX11_fills 41 = .ok (.invokevirtual 333, 3) := by decide +kernel
theorem dX11_fills_44 : decode cX11_fills 44 = .ok (.goto 5, 3) := by decide +kernel
theorem dX11_fills_47 : decode cX11_fills 47 = .ok (.bipush (-3), 2) := by decide +kernel
theorem dX11_fills_49 : decode cX11_fills 49 = .ok (.ireturn, 1) := by decide +kernel
abbrev rm_X11_fills : Room := { frames := 47, cells := 0, slots := 0, locals := 1886 }
def f_X11_fills (N : Nat) (σ : St) : Option (Int32 × St) := (if (σ.1 14402 0) = 0 then some ((-4), σ) else bd (f_X2_settle 68 12 N (σ.1 14402 0) σ) (fun r2_ σ2 => (if r2_ = 0 then some ((-3), σ2) else bd (f_X4_countFills N σ2) (fun r4_ σ4 => some (r4_, σ4)))))
section
variable {p : Program} {l : Launch} {e : Env} {s : State} {m : MethodId} {args : Array Value} {below : List Frame} {meth : Method} {c : Code} {g : XG}
set_option maxRecDepth 4000 in
theorem m_X11_fills (N : Nat) (σ : St) {r : Int32} {σ' : St} (h : f_X11_fills N σ = some (r, σ')) : xM l KX g yX11_fills cX11_fills 1 (some .int) rm_X11_fills [.ref (g.q 0)] σ (some (.int r)) σ' := by
  refine xmet pn_X11 rfl (Nat.le_of_ble_eq_true rfl) (lv := [(0, .ref (g.q 0))]) rfl (fun p e s m args below meth c ls C hW hl => ?_)
  have hx := C.1
  have hb := C.2.1
  unfold f_X11_fills at h
  refine lv_aload_n hx hb dX11_fills_0 rfl (lv_at hl 0 rfl) ?_
  refine xg_r C hW fg_11_90 KX_0 rfl dX11_fills_1 ?_
  refine xg_i C hW fg_11_304 KX_67 rfl (v := 14402) rfl (x := σ.1 14402 0) rfl dX11_fills_4 ?_
  refine lv_if_ne (tgt := 13) hx hb dX11_fills_7 (by decide) (fun c1 => ?_) (fun c1 => ?_)
  · have h := xif c1 h
    refine lv_aload_n hx hb dX11_fills_13 rfl (lv_at hl 0 rfl) ?_
    refine xg_r C hW fg_11_72 KX_0 rfl dX11_fills_14 ?_
    refine lv_aload_n hx hb dX11_fills_17 rfl (lv_at hl 0 rfl) ?_
    refine xg_r C hW fg_11_90 KX_0 rfl dX11_fills_18 ?_
    refine xg_r C hW fg_11_307 KX_67 rfl dX11_fills_21 ?_
    refine lv_aload_n hx hb dX11_fills_24 rfl (lv_at hl 0 rfl) ?_
    refine xg_r C hW fg_11_90 KX_0 rfl dX11_fills_25 ?_
    refine xg_i C hW fg_11_304 KX_67 rfl (v := 14402) rfl (x := σ.1 14402 0) rfl dX11_fills_28 ?_
    obtain ⟨r2_, σ2, e2, h⟩ := xbd h
    refine xc_V (As := [.ref (g.q 68), .int (σ.1 14402 0)]) (rest := []) C hW (m_X2_settle 68 12 KX_68 N (σ.1 14402 0) _ e2) mf_X2_settle mv_X2_settle ml_X11_310 ⟨rfl, rfl⟩ ⟨Nat.le_of_ble_eq_true rfl, Nat.le_of_ble_eq_true rfl⟩ KX_46 rfl hl.1 rfl rfl (Nat.le_of_ble_eq_true rfl) dX11_fills_31 (fun H locs hW => W.eq (g2 := F0 m 34 ls [.int r2_]) rfl ?_)
    refine lv_if_eq (tgt := 47) hx hb dX11_fills_34 (by decide) (fun c3 => ?_) (fun c3 => ?_)
    · have h := xit c3 h
      refine lv_bipush (v := (-3)) hx hb dX11_fills_47 rfl ?_
      cases h
      exact xr_i C hW dX11_fills_49
    · have h := xif c3 h
      refine lv_aload_n hx hb dX11_fills_37 rfl (lv_at hl 0 rfl) ?_
      refine xg_r C hW fg_11_90 KX_0 rfl dX11_fills_38 ?_
      obtain ⟨r4_, σ4, e4, h⟩ := xbd h
      refine xc_V (As := []) (rest := []) C hW (m_X4_countFills N _ e4) mf_X4_countFills mv_X4_countFills ml_X11_333 ⟨rfl, rfl⟩ ⟨Nat.le_of_ble_eq_true rfl, Nat.le_of_ble_eq_true rfl⟩ KX_67 rfl hl.1 rfl rfl (Nat.le_of_ble_eq_true rfl) dX11_fills_41 (fun H locs hW => W.eq (g2 := F0 m 44 ls [.int r4_]) rfl ?_)
      refine lv_goto (tgt := 49) hx hb dX11_fills_44 (by decide) ?_
      cases h
      exact xr_i C hW dX11_fills_49
  · have h := xit c1 h
    refine lv_bipush (v := (-4)) hx hb dX11_fills_10 rfl ?_
    cases h
    exact xr_i C hW dX11_fills_12
end
theorem dX11_judgeSpellings_0 : decode cX11_judgeSpellings 0 = .ok (.iconst 1, 1) := by decide +kernel
theorem dX11_judgeSpellings_1 : decode cX11_judgeSpellings 1 = .ok (.istore_n 1, 1) := by decide +kernel
theorem dX11_judgeSpellings_2 : decode cX11_judgeSpellings 2 = .ok (.iconst 0, 1) := by decide +kernel
theorem dX11_judgeSpellings_3 : decode cX11_judgeSpellings 3 = .ok (.istore_n 2, 1) := by decide +kernel
theorem dX11_judgeSpellings_4 : decode cX11_judgeSpellings 4 = .ok (.iload_n 2, 1) := by decide +kernel
theorem dX11_judgeSpellings_5 : decode cX11_judgeSpellings 5 = .ok (.aload_n 0, 1) := by decide +kernel
theorem dX11_judgeSpellings_6 : decode cX11_judgeSpellings 6 = .ok (.getfield 90, 3) := by decide +kernel
theorem dX11_judgeSpellings_9 : decode cX11_judgeSpellings 9 = .ok (.getfield 304, 3) := by decide +kernel
theorem dX11_judgeSpellings_12 : decode cX11_judgeSpellings 12 = .ok (.if_icmp .ge 62, 3) := by decide +kernel
theorem dX11_judgeSpellings_15 : decode cX11_judgeSpellings 15 = .ok (.aload_n 0, 1) := by decide +kernel
theorem dX11_judgeSpellings_16 : decode cX11_judgeSpellings 16 = .ok (.getfield 56, 3) := by decide +kernel
theorem dX11_judgeSpellings_19 : decode cX11_judgeSpellings 19 = .ok (.aload_n 0, 1) := by decide +kernel
theorem dX11_judgeSpellings_20 : decode cX11_judgeSpellings 20 = .ok (.getfield 19, 3) := by decide +kernel
theorem dX11_judgeSpellings_23 : decode cX11_judgeSpellings 23 = .ok (.aload_n 0, 1) := by decide +kernel
theorem dX11_judgeSpellings_24 : decode cX11_judgeSpellings 24 = .ok (.getfield 90, 3) := by decide +kernel
theorem dX11_judgeSpellings_27 : decode cX11_judgeSpellings 27 = .ok (.getfield 307, 3) := by decide +kernel
theorem dX11_judgeSpellings_30 : decode cX11_judgeSpellings 30 = .ok (.iload_n 2, 1) := by decide +kernel
theorem dX11_judgeSpellings_31 : decode cX11_judgeSpellings 31 = .ok (.iaload, 1) := by decide +kernel
theorem dX11_judgeSpellings_32 : decode cX11_judgeSpellings 32 = .ok (.invokevirtual 342, 3) := by decide +kernel
theorem dX11_judgeSpellings_35 : decode cX11_judgeSpellings 35 = .ok (.aload_n 0, 1) := by decide +kernel
theorem dX11_judgeSpellings_36 : decode cX11_judgeSpellings 36 = .ok (.getfield 56, 3) := by decide +kernel
theorem dX11_judgeSpellings_39 : decode cX11_judgeSpellings 39 = .ok (.aload_n 0, 1) := by decide +kernel
theorem dX11_judgeSpellings_40 : decode cX11_judgeSpellings 40 = .ok (.getfield 40, 3) := by decide +kernel
theorem dX11_judgeSpellings_43 : decode cX11_judgeSpellings 43 = .ok (.getfield 219, 3) := by decide +kernel
theorem dX11_judgeSpellings_46 : decode cX11_judgeSpellings 46 = .ok (.aload_n 0, 1) := by decide +kernel
theorem dX11_judgeSpellings_47 : decode cX11_judgeSpellings 47 = .ok (.getfield 40, 3) := by decide +kernel
theorem dX11_judgeSpellings_50 : decode cX11_judgeSpellings 50 = .ok (.getfield 216, 3) := by decide +kernel
theorem dX11_judgeSpellings_53 : decode cX11_judgeSpellings 53 = .ok (.iload_n 1, 1) := by decide +kernel
theorem dX11_judgeSpellings_54 : decode cX11_judgeSpellings 54 = .ok (.invokevirtual 346, 3) := by decide +kernel
theorem dX11_judgeSpellings_57 : decode cX11_judgeSpellings 57 = .ok (.istore_n 1, 1) := by decide +kernel
theorem dX11_judgeSpellings_58 : decode cX11_judgeSpellings 58 = .ok (.iload_n 1, 1) := by decide +kernel
theorem dX11_judgeSpellings_59 : decode cX11_judgeSpellings 59 = .ok (.ifCond .ne 9, 3) := by decide +kernel
theorem dX11_judgeSpellings_62 : decode cX11_judgeSpellings 62 = .ok (.sipush 2000, 3) := by decide +kernel
theorem dX11_judgeSpellings_65 : decode cX11_judgeSpellings 65 = .ok (.iload_n 2, 1) := by decide +kernel
theorem dX11_judgeSpellings_66 : decode cX11_judgeSpellings 66 = .ok (.iadd, 1) := by decide +kernel
theorem dX11_judgeSpellings_67 : decode cX11_judgeSpellings 67 = .ok (.ireturn, 1) := by decide +kernel
theorem dX11_judgeSpellings_68 : decode cX11_judgeSpellings 68 = .ok (.iinc 2 1, 3) := by decide +kernel
theorem dX11_judgeSpellings_71 : decode cX11_judgeSpellings 71 = .ok (.goto (-67), 3) := by decide +kernel
theorem dX11_judgeSpellings_74 : decode cX11_judgeSpellings 74 = .ok (.iload_n 1, 1) := by decide +kernel
theorem dX11_judgeSpellings_75 : decode cX11_judgeSpellings 75 = .ok (.aload_n 0, 1) := by decide +kernel
theorem dX11_judgeSpellings_76 : decode cX11_judgeSpellings 76 = .ok (.getfield 40, 3) := by decide +kernel
theorem dX11_judgeSpellings_79 : decode cX11_judgeSpellings 79 = .ok (.getfield 216, 3) := by decide +kernel
theorem dX11_judgeSpellings_82 : decode cX11_judgeSpellings 82 = .ok (.iushr, 1) := by decide +kernel
theorem dX11_judgeSpellings_83 : decode cX11_judgeSpellings 83 = .ok (.iconst 1, 1) := by decide +kernel
theorem dX11_judgeSpellings_84 : decode cX11_judgeSpellings 84 = .ok (.iand, 1) := by decide +kernel
theorem dX11_judgeSpellings_85 : decode cX11_judgeSpellings 85 = .ok (.iconst 1, 1) := by decide +kernel
theorem dX11_judgeSpellings_86 : decode cX11_judgeSpellings 86 = .ok (.if_icmp .ne 7, 3) := by decide +kernel
theorem dX11_judgeSpellings_89 : decode cX11_judgeSpellings 89 = .ok (.iconst 0, 1) := by decide +kernel
theorem dX11_judgeSpellings_90 : decode cX11_judgeSpellings 90 = .ok (.goto 6, 3) := by decide +kernel
theorem dX11_judgeSpellings_93 : decode cX11_judgeSpellings 93 = .ok (.sipush 3000, 3) := by decide +kernel
theorem dX11_judgeSpellings_96 : decode cX11_judgeSpellings 96 = .ok (.ireturn, 1) := by decide +kernel
abbrev rm_X11_judgeSpellings : Room := { frames := 6, cells := 0, slots := 0, locals := 144 }
def f_X11_judgeSpellings_4 (N : Nat) : Nat → Int32 → Int32 → St → Option (Int32 × St)
  | 0, _, _, _ => none
  | n + 1, x1, x2, σ => (if (σ.1 14402 0) ≤ x2 then (if ((ushr x1 (σ.1 5605 0)) &&& 1) = 1 then some (0, σ) else some (3000, σ)) else grd (ib x2 12) (bo (f_X7_look 1 (σ.1 68 x2.toNatClampNeg) σ) (fun σ4 => bo (f_X7_endsFromAny 26 24 N (σ4.1 5605 0) x1 σ4) (fun r5_ => (if r5_ = 0 then some (2000 + x2, σ4) else f_X11_judgeSpellings_4 N n r5_ (x2 + 1) σ4)))))
def f_X11_judgeSpellings (N : Nat) (σ : St) : Option (Int32 × St) := f_X11_judgeSpellings_4 N N 1 0 σ
section
variable {p : Program} {l : Launch} {e : Env} {s : State} {m : MethodId} {args : Array Value} {below : List Frame} {meth : Method} {c : Code} {g : XG}
set_option maxRecDepth 4000 in
theorem w_X11_judgeSpellings_4 (N : Nat) {r : Int32} {σ' : St} (C : xC KX g RX11 cX11_judgeSpellings 3 (some .int) p s m args meth c) : ∀ (n : Nat), ∀ (x1 : Int32) (x2 : Int32) (σ : St) (H : Heap) (locs : List Loc) (ls : Array Slot), xW KX g s σ H locs → lv_has ls 3 [(0, .ref (g.q 0)), (1, .int x1), (2, .int x2)] → f_X11_judgeSpellings_4 N n x1 x2 σ = some (r, σ') → W p l e rm_X11_judgeSpellings s m args below meth c H locs 0 0 (MQ below (xPost KX g (some (.int r)) σ') args s 0 0 (xA KX g.q)) (F0 m 4 ls []) := by
  have hx := C.1
  have hb := C.2.1
  intro n
  induction n with
  | zero => intro x1 x2 σ H locs ls hW hl h; rw [f_X11_judgeSpellings_4] at h; cases h
  | succ n ih =>
    intro x1 x2 σ H locs ls hW hl h
    rw [f_X11_judgeSpellings_4] at h
    refine lv_iload_n hx hb dX11_judgeSpellings_4 rfl (lv_at hl 2 rfl) ?_
    refine lv_aload_n hx hb dX11_judgeSpellings_5 rfl (lv_at hl 0 rfl) ?_
    refine xg_r C hW fg_11_90 KX_0 rfl dX11_judgeSpellings_6 ?_
    refine xg_i C hW fg_11_304 KX_67 rfl (v := 14402) rfl (x := σ.1 14402 0) rfl dX11_judgeSpellings_9 ?_
    refine lv_icmp_ge (tgt := 74) hx hb dX11_judgeSpellings_12 (by decide) (fun c1 => ?_) (fun c1 => ?_)
    · have h := xit c1 h
      refine lv_iload_n hx hb dX11_judgeSpellings_74 rfl (lv_at hl 1 rfl) ?_
      refine lv_aload_n hx hb dX11_judgeSpellings_75 rfl (lv_at hl 0 rfl) ?_
      refine xg_r C hW fg_11_40 KX_0 rfl dX11_judgeSpellings_76 ?_
      refine xg_i C hW fg_11_216 KX_23 rfl (v := 5605) rfl (x := σ.1 5605 0) rfl dX11_judgeSpellings_79 ?_
      refine lv_iushr (v := ushr x1 (σ.1 5605 0)) hx hb dX11_judgeSpellings_82 rfl ?_
      refine lv_iconst (v := 1) hx hb dX11_judgeSpellings_83 rfl ?_
      refine lv_iand hx hb dX11_judgeSpellings_84 ?_
      refine lv_iconst (v := 1) hx hb dX11_judgeSpellings_85 rfl ?_
      refine lv_icmp_ne (tgt := 93) hx hb dX11_judgeSpellings_86 (by decide) (fun c2 => ?_) (fun c2 => ?_)
      · have h := xif c2 h
        refine lv_sipush (v := 3000) hx hb dX11_judgeSpellings_93 rfl ?_
        cases h
        exact xr_i C hW dX11_judgeSpellings_96
      · have h := xit c2 h
        refine lv_iconst (v := 0) hx hb dX11_judgeSpellings_89 rfl ?_
        refine lv_goto (tgt := 96) hx hb dX11_judgeSpellings_90 (by decide) ?_
        cases h
        exact xr_i C hW dX11_judgeSpellings_96
    · have h := xif c1 h
      refine lv_aload_n hx hb dX11_judgeSpellings_15 rfl (lv_at hl 0 rfl) ?_
      refine xg_r C hW fg_11_56 KX_0 rfl dX11_judgeSpellings_16 ?_
      refine lv_aload_n hx hb dX11_judgeSpellings_19 rfl (lv_at hl 0 rfl) ?_
      refine xg_r C hW fg_11_19 KX_0 rfl dX11_judgeSpellings_20 ?_
      refine lv_aload_n hx hb dX11_judgeSpellings_23 rfl (lv_at hl 0 rfl) ?_
      refine xg_r C hW fg_11_90 KX_0 rfl dX11_judgeSpellings_24 ?_
      refine xg_r C hW fg_11_307 KX_67 rfl dX11_judgeSpellings_27 ?_
      refine lv_iload_n hx hb dX11_judgeSpellings_30 rfl (lv_at hl 2 rfl) ?_
      obtain ⟨g3, h⟩ := xgd h
      refine xa_i C hW KX_68 g3 (x := σ.1 68 x2.toNatClampNeg) rfl dX11_judgeSpellings_31 ?_
      obtain ⟨σ4, e4, h⟩ := xbo h
      refine xc_V (As := [.ref (g.q 1), .int (σ.1 68 x2.toNatClampNeg)]) (rest := []) C hW (m_X7_look 1 (Or.inl rfl) (σ.1 68 x2.toNatClampNeg) _ e4) mf_X7_look mv_X7_look ml_X11_342 ⟨rfl, rfl⟩ ⟨Nat.le_of_ble_eq_true rfl, Nat.le_of_ble_eq_true rfl⟩ KX_38 rfl hl.1 rfl rfl (Nat.le_of_ble_eq_true rfl) dX11_judgeSpellings_32 (fun H locs hW => W.eq (g2 := F0 m 35 ls []) rfl ?_)
      refine lv_aload_n hx hb dX11_judgeSpellings_35 rfl (lv_at hl 0 rfl) ?_
      refine xg_r C hW fg_11_56 KX_0 rfl dX11_judgeSpellings_36 ?_
      refine lv_aload_n hx hb dX11_judgeSpellings_39 rfl (lv_at hl 0 rfl) ?_
      refine xg_r C hW fg_11_40 KX_0 rfl dX11_judgeSpellings_40 ?_
      refine xg_r C hW fg_11_219 KX_23 rfl dX11_judgeSpellings_43 ?_
      refine lv_aload_n hx hb dX11_judgeSpellings_46 rfl (lv_at hl 0 rfl) ?_
      refine xg_r C hW fg_11_40 KX_0 rfl dX11_judgeSpellings_47 ?_
      refine xg_i C hW fg_11_216 KX_23 rfl (v := 5605) rfl (x := σ4.1 5605 0) rfl dX11_judgeSpellings_50 ?_
      refine lv_iload_n hx hb dX11_judgeSpellings_53 rfl (lv_at hl 1 rfl) ?_
      obtain ⟨r5_, e5, h⟩ := xbo h
      refine xc_V (As := [.ref (g.q 26), .int (σ4.1 5605 0), .int x1]) (rest := []) C hW (m_X7_endsFromAny 26 24 KX_26 N (σ4.1 5605 0) x1 _ e5) mf_X7_endsFromAny mv_X7_endsFromAny ml_X11_346 ⟨rfl, rfl⟩ ⟨Nat.le_of_ble_eq_true rfl, Nat.le_of_ble_eq_true rfl⟩ KX_38 rfl hl.1 rfl rfl (Nat.le_of_ble_eq_true rfl) dX11_judgeSpellings_54 (fun H locs hW => W.eq (g2 := F0 m 57 ls [.int r5_]) rfl ?_)
      refine lv_istore_n (lv' := [(1, .int r5_), (0, .ref (g.q 0)), (2, .int x2)]) hx hb dX11_judgeSpellings_57 rfl hl (Nat.le_of_ble_eq_true rfl) rfl (fun ls hl => ?_)
      refine lv_iload_n hx hb dX11_judgeSpellings_58 rfl (lv_at hl 0 rfl) ?_
      refine lv_if_ne (tgt := 68) hx hb dX11_judgeSpellings_59 (by decide) (fun c6 => ?_) (fun c6 => ?_)
      · have h := xif c6 h
        refine lv_iinc (v := x2 + 1) (lv' := [(2, .int (x2 + 1)), (1, .int r5_), (0, .ref (g.q 0))]) hx hb dX11_judgeSpellings_68 hl (k := 2) rfl rfl (Nat.le_of_ble_eq_true rfl) rfl (fun ls hl => ?_)
        refine lv_goto (tgt := 4) hx hb dX11_judgeSpellings_71 (by decide) ?_
        exact ih r5_ (x2 + 1) _ _ _ _ hW (lv_sub hl [2, 1, 0] rfl) h
      · have h := xit c6 h
        refine lv_sipush (v := 2000) hx hb dX11_judgeSpellings_62 rfl ?_
        refine lv_iload_n hx hb dX11_judgeSpellings_65 rfl (lv_at hl 2 rfl) ?_
        refine lv_iadd hx hb dX11_judgeSpellings_66 ?_
        cases h
        exact xr_i C hW dX11_judgeSpellings_67
set_option maxRecDepth 4000 in
theorem m_X11_judgeSpellings (N : Nat) (σ : St) {r : Int32} {σ' : St} (h : f_X11_judgeSpellings N σ = some (r, σ')) : xM l KX g yX11_judgeSpellings cX11_judgeSpellings 3 (some .int) rm_X11_judgeSpellings [.ref (g.q 0)] σ (some (.int r)) σ' := by
  refine xmet pn_X11 rfl (Nat.le_of_ble_eq_true rfl) (lv := [(0, .ref (g.q 0))]) rfl (fun p e s m args below meth c ls C hW hl => ?_)
  have hx := C.1
  have hb := C.2.1
  unfold f_X11_judgeSpellings at h
  refine lv_iconst (v := 1) hx hb dX11_judgeSpellings_0 rfl ?_
  refine lv_istore_n (lv' := [(1, .int 1), (0, .ref (g.q 0))]) hx hb dX11_judgeSpellings_1 rfl hl (Nat.le_of_ble_eq_true rfl) rfl (fun ls hl => ?_)
  refine lv_iconst (v := 0) hx hb dX11_judgeSpellings_2 rfl ?_
  refine lv_istore_n (lv' := [(2, .int 0), (1, .int 1), (0, .ref (g.q 0))]) hx hb dX11_judgeSpellings_3 rfl hl (Nat.le_of_ble_eq_true rfl) rfl (fun ls hl => ?_)
  exact w_X11_judgeSpellings_4 N C N 1 0 _ _ _ _ hW (lv_sub hl [2, 1, 0] rfl) h
end
theorem dX11_judge_0 : decode cX11_judge 0 = .ok (.aload_n 0, 1) := by decide +kernel
theorem dX11_judge_1 : decode cX11_judge 1 = .ok (.getfield 40, 3) := by decide +kernel
theorem dX11_judge_4 : decode cX11_judge 4 = .ok (.getfield 189, 3) := by decide +kernel
theorem dX11_judge_7 : decode cX11_judge 7 = .ok (.ifCond .eq 13, 3) := by decide +kernel
theorem dX11_judge_10 : decode cX11_judge 10 = .ok (.aload_n 0, 1) := by decide +kernel
theorem dX11_judge_11 : decode cX11_judge 11 = .ok (.getfield 90, 3) := by decide +kernel
theorem dX11_judge_14 : decode cX11_judge 14 = .ok (.getfield 304, 3) := by decide +kernel
theorem dX11_judge_17 : decode cX11_judge 17 = .ok (.ifCond .ne 6, 3) := by decide +kernel
theorem dX11_judge_20 : decode cX11_judge 20 = .ok (.bipush (-4), 2) := by decide +kernel
theorem dX11_judge_22 : decode cX11_judge 22 = .ok (.ireturn, 1) := by decide +kernel
theorem dX11_judge_23 : decode cX11_judge 23 = .ok (.aload_n 0, 1) := by decide +kernel
theorem dX11_judge_24 : decode cX11_judge 24 = .ok (.getfield 40, 3) := by decide +kernel
theorem dX11_judge_27 : decode cX11_judge 27 = .ok (.invokevirtual 336, 3) := by decide +kernel
theorem dX11_judge_30 : decode cX11_judge 30 = .ok (.istore_n 1, 1) := by decide +kernel
theorem dX11_judge_31 : decode cX11_judge 31 = .ok (.iload_n 1, 1) := by decide +kernel
theorem dX11_judge_32 : decode cX11_judge 32 = .ok (.ifCond .lt 11, 3) := by decide +kernel
theorem dX11_judge_35 : decode cX11_judge 35 = .ok (.sipush 1000, 3) := by decide +kernel
theorem dX11_judge_38 : decode cX11_judge 38 = .ok (.iload_n 1, 1) := by decide +kernel
theorem dX11_judge_39 : decode cX11_judge 39 = .ok (.iadd, 1) := by decide +kernel
theorem dX11_judge_40 : decode cX11_judge 40 = .ok (.goto 7, 3) := by decide +kernel
theorem dX11_judge_43 : decode cX11_judge 43 = .ok (.aload_n 0, 1) := by decide +kernel
theorem dX11_judge_44 : decode cX11_judge 44 = .ok (.invokevirtual 339, 3) := by decide +kernel
theorem dX11_judge_47 : decode cX11_judge 47 = .ok (.ireturn, 1) := by decide +kernel
abbrev rm_X11_judge : Room := { frames := 7, cells := 0, slots := 0, locals := 166 }
def f_X11_judge (N : Nat) (σ : St) : Option (Int32 × St) := (if (σ.1 5602 0) = 0 then some ((-4), σ) else (if (σ.1 14402 0) = 0 then some ((-4), σ) else bo (f_X1_firstIllegible N σ) (fun r3_ => (if r3_ < 0 then bd (f_X11_judgeSpellings N σ) (fun r5_ σ5 => some (r5_, σ5)) else some (1000 + r3_, σ)))))
section
variable {p : Program} {l : Launch} {e : Env} {s : State} {m : MethodId} {args : Array Value} {below : List Frame} {meth : Method} {c : Code} {g : XG}
set_option maxRecDepth 4000 in
theorem m_X11_judge (N : Nat) (σ : St) {r : Int32} {σ' : St} (h : f_X11_judge N σ = some (r, σ')) : xM l KX g yX11_judge cX11_judge 2 (some .int) rm_X11_judge [.ref (g.q 0)] σ (some (.int r)) σ' := by
  refine xmet pn_X11 rfl (Nat.le_of_ble_eq_true rfl) (lv := [(0, .ref (g.q 0))]) rfl (fun p e s m args below meth c ls C hW hl => ?_)
  have hx := C.1
  have hb := C.2.1
  unfold f_X11_judge at h
  refine lv_aload_n hx hb dX11_judge_0 rfl (lv_at hl 0 rfl) ?_
  refine xg_r C hW fg_11_40 KX_0 rfl dX11_judge_1 ?_
  refine xg_i C hW fg_11_189 KX_23 rfl (v := 5602) rfl (x := σ.1 5602 0) rfl dX11_judge_4 ?_
  refine lv_if_eq (tgt := 20) hx hb dX11_judge_7 (by decide) (fun c1 => ?_) (fun c1 => ?_)
  · have h := xit c1 h
    refine lv_bipush (v := (-4)) hx hb dX11_judge_20 rfl ?_
    cases h
    exact xr_i C hW dX11_judge_22
  · have h := xif c1 h
    refine lv_aload_n hx hb dX11_judge_10 rfl (lv_at hl 0 rfl) ?_
    refine xg_r C hW fg_11_90 KX_0 rfl dX11_judge_11 ?_
    refine xg_i C hW fg_11_304 KX_67 rfl (v := 14402) rfl (x := σ.1 14402 0) rfl dX11_judge_14 ?_
    refine lv_if_ne (tgt := 23) hx hb dX11_judge_17 (by decide) (fun c2 => ?_) (fun c2 => ?_)
    · have h := xif c2 h
      refine lv_aload_n hx hb dX11_judge_23 rfl (lv_at hl 0 rfl) ?_
      refine xg_r C hW fg_11_40 KX_0 rfl dX11_judge_24 ?_
      obtain ⟨r3_, e3, h⟩ := xbo h
      refine xc_V (As := []) (rest := []) C hW (m_X1_firstIllegible N _ e3) mf_X1_firstIllegible mv_X1_firstIllegible ml_X11_336 ⟨rfl, rfl⟩ ⟨Nat.le_of_ble_eq_true rfl, Nat.le_of_ble_eq_true rfl⟩ KX_23 rfl hl.1 rfl rfl (Nat.le_of_ble_eq_true rfl) dX11_judge_27 (fun H locs hW => W.eq (g2 := F0 m 30 ls [.int r3_]) rfl ?_)
      refine lv_istore_n (lv' := [(1, .int r3_), (0, .ref (g.q 0))]) hx hb dX11_judge_30 rfl hl (Nat.le_of_ble_eq_true rfl) rfl (fun ls hl => ?_)
      refine lv_iload_n hx hb dX11_judge_31 rfl (lv_at hl 0 rfl) ?_
      refine lv_if_lt (tgt := 43) hx hb dX11_judge_32 (by decide) (fun c4 => ?_) (fun c4 => ?_)
      · have h := xit c4 h
        refine lv_aload_n hx hb dX11_judge_43 rfl (lv_at hl 1 rfl) ?_
        obtain ⟨r5_, σ5, e5, h⟩ := xbd h
        refine xc_V (As := []) (rest := []) C hW (m_X11_judgeSpellings N _ e5) mf_X11_judgeSpellings mv_X11_judgeSpellings ml_X11_339 ⟨rfl, rfl⟩ ⟨Nat.le_of_ble_eq_true rfl, Nat.le_of_ble_eq_true rfl⟩ KX_0 rfl hl.1 rfl rfl (Nat.le_of_ble_eq_true rfl) dX11_judge_44 (fun H locs hW => W.eq (g2 := F0 m 47 ls [.int r5_]) rfl ?_)
        cases h
        exact xr_i C hW dX11_judge_47
      · have h := xif c4 h
        refine lv_sipush (v := 1000) hx hb dX11_judge_35 rfl ?_
        refine lv_iload_n hx hb dX11_judge_38 rfl (lv_at hl 0 rfl) ?_
        refine lv_iadd hx hb dX11_judge_39 ?_
        refine lv_goto (tgt := 47) hx hb dX11_judge_40 (by decide) ?_
        cases h
        exact xr_i C hW dX11_judge_47
    · have h := xit c2 h
      refine lv_bipush (v := (-4)) hx hb dX11_judge_20 rfl ?_
      cases h
      exact xr_i C hW dX11_judge_22
end
theorem dX11_value_0 : decode cX11_value 0 = .ok (.aload_n 0, 1) := by decide +kernel
theorem dX11_value_1 : decode cX11_value 1 = .ok (.getfield 10, 3) := by decide +kernel
theorem dX11_value_4 : decode cX11_value 4 = .ok (.invokevirtual 109, 3) := by decide +kernel
theorem dX11_value_7 : decode cX11_value 7 = .ok (.aload_n 0, 1) := by decide +kernel
theorem dX11_value_8 : decode cX11_value 8 = .ok (.getfield 10, 3) := by decide +kernel
theorem dX11_value_11 : decode cX11_value 11 = .ok (.invokevirtual 169, 3) := by decide +kernel
theorem dX11_value_14 : decode cX11_value 14 = .ok (.aload_n 0, 1) := by decide +kernel
theorem dX11_value_15 : decode cX11_value 15 = .ok (.getfield 10, 3) := by decide +kernel
theorem dX11_value_18 : decode cX11_value 18 = .ok (.iconst 3, 1) := by decide +kernel
theorem dX11_value_19 : decode cX11_value 19 = .ok (.invokevirtual 350, 3) := by decide +kernel
theorem dX11_value_22 : decode cX11_value 22 = .ok (.istore 4, 2) := by decide +kernel
theorem dX11_value_24 : decode cX11_value 24 = .ok (.aload_n 0, 1) := by decide +kernel
theorem dX11_value_25 : decode cX11_value 25 = .ok (.getfield 10, 3) := by decide +kernel
theorem dX11_value_28 : decode cX11_value 28 = .ok (.getfield 353, 3) := by decide +kernel
theorem dX11_value_31 : decode cX11_value 31 = .ok (.istore 5, 2) := by decide +kernel
theorem dX11_value_33 : decode cX11_value 33 = .ok (.aload_n 0, 1) := by decide +kernel
theorem dX11_value_34 : decode cX11_value 34 = .ok (.getfield 10, 3) := by decide +kernel
theorem dX11_value_37 : decode cX11_value 37 = .ok (.getfield 355, 3) := by decide +kernel
theorem dX11_value_40 : decode cX11_value 40 = .ok (.istore 6, 2) := by decide +kernel
theorem dX11_value_42 : decode cX11_value 42 = .ok (.aload_n 0, 1) := by decide +kernel
theorem dX11_value_43 : decode cX11_value 43 = .ok (.getfield 10, 3) := by decide +kernel
theorem dX11_value_46 : decode cX11_value 46 = .ok (.invokevirtual 169, 3) := by decide +kernel
theorem dX11_value_49 : decode cX11_value 49 = .ok (.iload 4, 2) := by decide +kernel
theorem dX11_value_51 : decode cX11_value 51 = .ok (.ifCond .eq 17, 3) := by decide +kernel
theorem dX11_value_54 : decode cX11_value 54 = .ok (.aload_n 0, 1) := by decide +kernel
theorem dX11_value_55 : decode cX11_value 55 = .ok (.getfield 10, 3) := by decide +kernel
theorem dX11_value_58 : decode cX11_value 58 = .ok (.getfield 172, 3) := by decide +kernel
theorem dX11_value_61 : decode cX11_value 61 = .ok (.ifCond .ne 7, 3) := by decide +kernel
theorem dX11_value_64 : decode cX11_value 64 = .ok (.iconst 1, 1) := by decide +kernel
theorem dX11_value_65 : decode cX11_value 65 = .ok (.goto 4, 3) := by decide +kernel
theorem dX11_value_68 : decode cX11_value 68 = .ok (.iconst 0, 1) := by decide +kernel
theorem dX11_value_69 : decode cX11_value 69 = .ok (.istore 4, 2) := by decide +kernel
theorem dX11_value_71 : decode cX11_value 71 = .ok (.aload_n 0, 1) := by decide +kernel
theorem dX11_value_72 : decode cX11_value 72 = .ok (.getfield 10, 3) := by decide +kernel
theorem dX11_value_75 : decode cX11_value 75 = .ok (.invokevirtual 119, 3) := by decide +kernel
theorem dX11_value_78 : decode cX11_value 78 = .ok (.aload_n 0, 1) := by decide +kernel
theorem dX11_value_79 : decode cX11_value 79 = .ok (.getfield 19, 3) := by decide +kernel
theorem dX11_value_82 : decode cX11_value 82 = .ok (.iload_n 1, 1) := by decide +kernel
theorem dX11_value_83 : decode cX11_value 83 = .ok (.invokevirtual 146, 3) := by decide +kernel
theorem dX11_value_86 : decode cX11_value 86 = .ok (.ifCond .eq 28, 3) := by decide +kernel
theorem dX11_value_89 : decode cX11_value 89 = .ok (.iload_n 2, 1) := by decide +kernel
theorem dX11_value_90 : decode cX11_value 90 = .ok (.invokestatic 268, 3) := by decide +kernel
theorem dX11_value_93 : decode cX11_value 93 = .ok (.ifCond .eq 21, 3) := by decide +kernel
theorem dX11_value_96 : decode cX11_value 96 = .ok (.iload_n 3, 1) := by decide +kernel
theorem dX11_value_97 : decode cX11_value 97 = .ok (.invokestatic 268, 3) := by decide +kernel
theorem dX11_value_100 : decode cX11_value 100 = .ok (.ifCond .eq 14, 3) := by decide +kernel
theorem dX11_value_103 : decode cX11_value 103 = .ok (.iload_n 3, 1) := by decide +kernel
theorem dX11_value_104 : decode cX11_value 104 = .ok (.aload_n 0, 1) := by decide +kernel
theorem dX11_value_105 : decode cX11_value 105 = .ok (.getfield 97, 3) := by decide +kernel
theorem dX11_value_108 : decode cX11_value 108 = .ok (.getfield 358, 3) := by decide +kernel
theorem dX11_value_111 : decode cX11_value 111 = .ok (.if_icmp .ge 6, 3) := by decide +kernel
theorem dX11_value_114 : decode cX11_value 114 = .ok (.bipush (-2), 2) := by decide +kernel
theorem dX11_value_116 : decode cX11_value 116 = .ok (.ireturn, 1) := by decide +kernel
theorem dX11_value_117 : decode cX11_value 117 = .ok (.iload 4, 2) := by decide +kernel
theorem dX11_value_119 : decode cX11_value 119 = .ok (.ifCond .ne 5, 3) := by decide +kernel
theorem dX11_value_122 : decode cX11_value 122 = .ok (.iconst (-1), 1) := by decide +kernel
theorem dX11_value_123 : decode cX11_value 123 = .ok (.ireturn, 1) := by decide +kernel
theorem dX11_value_124 : decode cX11_value 124 = .ok (.aload_n 0, 1) := by decide +kernel
theorem dX11_value_125 : decode cX11_value 125 = .ok (.getfield 97, 3) := by decide +kernel
theorem dX11_value_128 : decode cX11_value 128 = .ok (.getfield 361, 3) := by decide +kernel
theorem dX11_value_131 : decode cX11_value 131 = .ok (.bipush 60, 2) := by decide +kernel
theorem dX11_value_133 : decode cX11_value 133 = .ok (.if_icmp .lt 6, 3) := by decide +kernel
theorem dX11_value_136 : decode cX11_value 136 = .ok (.bipush (-3), 2) := by decide +kernel
theorem dX11_value_138 : decode cX11_value 138 = .ok (.ireturn, 1) := by decide +kernel
theorem dX11_value_139 : decode cX11_value 139 = .ok (.aload_n 0, 1) := by decide +kernel
theorem dX11_value_140 : decode cX11_value 140 = .ok (.getfield 97, 3) := by decide +kernel
theorem dX11_value_143 : decode cX11_value 143 = .ok (.iload_n 1, 1) := by decide +kernel
theorem dX11_value_144 : decode cX11_value 144 = .ok (.iload_n 2, 1) := by decide +kernel
theorem dX11_value_145 : decode cX11_value 145 = .ok (.iload_n 3, 1) := by decide +kernel
theorem dX11_value_146 : decode cX11_value 146 = .ok (.invokevirtual 362, 3) := by decide +kernel
theorem dX11_value_149 : decode cX11_value 149 = .ok (.aload_n 0, 1) := by decide +kernel
theorem dX11_value_150 : decode cX11_value 150 = .ok (.getfield 97, 3) := by decide +kernel
theorem dX11_value_153 : decode cX11_value 153 = .ok (.iload 5, 2) := by decide +kernel
theorem dX11_value_155 : decode cX11_value 155 = .ok (.iload 6, 2) := by decide +kernel
theorem dX11_value_157 : decode cX11_value 157 = .ok (.invokevirtual 365, 3) := by decide +kernel
theorem dX11_value_160 : decode cX11_value 160 = .ok (.aload_n 0, 1) := by decide +kernel
theorem dX11_value_161 : decode cX11_value 161 = .ok (.getfield 97, 3) := by decide +kernel
theorem dX11_value_164 : decode cX11_value 164 = .ok (.getfield 361, 3) := by decide +kernel
theorem dX11_value_167 : decode cX11_value 167 = .ok (.ireturn, 1) := by decide +kernel
abbrev rm_X11_value : Room := { frames := 3, cells := 0, slots := 0, locals := 61 }
def f_X11_value_69 (N : Nat) (x1 : Int32) (x2 : Int32) (x3 : Int32) (x5 : Int32) (x6 : Int32) (t0 : Int32) (σ : St) : Option (Int32 × St) := bo (f_X8_drain σ) (fun σ6 => (if (f_X6_has 1 x1 σ6) = 0 then some ((-2), σ6) else (if (f_X11_isDay x2 σ6) = 0 then some ((-2), σ6) else (if (f_X11_isDay x3 σ6) = 0 then some ((-2), σ6) else (if (σ6.1 15601 0) ≤ x3 then (if t0 = 0 then some ((-1), σ6) else (if (σ6.1 15600 0) < 60 then bo (f_X10_put x1 x2 x3 σ6) (fun σ13 => bo (f_X10_putSounds x5 x6 σ13) (fun σ14 => some (σ14.1 15600 0, σ14))) else some ((-3), σ6))) else some ((-2), σ6))))))
def f_X11_value (N : Nat) (x1 : Int32) (x2 : Int32) (x3 : Int32) (σ : St) : Option (Int32 × St) := bo (f_X8_rewind σ) (fun σ1 => bo (f_X8_next N σ1) (fun σ2 => bo (f_X8_next N σ2) (fun σ3 => (if (f_X8_isRow 3 σ2) = 0 then f_X11_value_69 N x1 x2 x3 (σ2.1 4807 0) (σ2.1 4805 0) 0 σ3 else (if (σ3.1 4803 0) = 0 then f_X11_value_69 N x1 x2 x3 (σ2.1 4807 0) (σ2.1 4805 0) 1 σ3 else f_X11_value_69 N x1 x2 x3 (σ2.1 4807 0) (σ2.1 4805 0) 0 σ3)))))
section
variable {p : Program} {l : Launch} {e : Env} {s : State} {m : MethodId} {args : Array Value} {below : List Frame} {meth : Method} {c : Code} {g : XG}
set_option maxRecDepth 4000 in
theorem w_X11_value_69 (N : Nat) {r : Int32} {σ' : St} (C : xC KX g RX11 cX11_value 7 (some .int) p s m args meth c) : ∀ (x1 : Int32) (x2 : Int32) (x3 : Int32) (x5 : Int32) (x6 : Int32) (t0 : Int32) (σ : St) (H : Heap) (locs : List Loc) (ls : Array Slot), xW KX g s σ H locs → lv_has ls 7 [(0, .ref (g.q 0)), (1, .int x1), (2, .int x2), (3, .int x3), (5, .int x5), (6, .int x6)] → f_X11_value_69 N x1 x2 x3 x5 x6 t0 σ = some (r, σ') → W p l e rm_X11_value s m args below meth c H locs 0 0 (MQ below (xPost KX g (some (.int r)) σ') args s 0 0 (xA KX g.q)) (F0 m 69 ls [.int t0]) := by
  have hx := C.1
  have hb := C.2.1
  intro x1 x2 x3 x5 x6 t0 σ H locs ls hW hl h
  unfold f_X11_value_69 at h
  refine lv_istore (lv' := [(4, .int t0), (0, .ref (g.q 0)), (1, .int x1), (2, .int x2), (3, .int x3), (5, .int x5), (6, .int x6)]) hx hb dX11_value_69 hl (Nat.le_of_ble_eq_true rfl) rfl (fun ls hl => ?_)
  refine lv_aload_n hx hb dX11_value_71 rfl (lv_at hl 1 rfl) ?_
  refine xg_r C hW fg_11_10 KX_0 rfl dX11_value_72 ?_
  obtain ⟨σ6, e6, h⟩ := xbo h
  refine xc_V (As := []) (rest := []) C hW (m_X8_drain _ e6) mf_X8_drain mv_X8_drain ml_X11_119 ⟨rfl, rfl⟩ ⟨Nat.le_of_ble_eq_true rfl, Nat.le_of_ble_eq_true rfl⟩ KX_19 rfl hl.1 rfl rfl (Nat.le_of_ble_eq_true rfl) dX11_value_75 (fun H locs hW => W.eq (g2 := F0 m 78 ls []) rfl ?_)
  refine lv_aload_n hx hb dX11_value_78 rfl (lv_at hl 1 rfl) ?_
  refine xg_r C hW fg_11_19 KX_0 rfl dX11_value_79 ?_
  refine lv_iload_n hx hb dX11_value_82 rfl (lv_at hl 2 rfl) ?_
  refine xc_V (As := [.int x1]) (rest := []) C hW (m_X6_has 1 (Or.inl rfl) x1 _ rfl) mf_X6_has mv_X6_has ml_X11_146 ⟨rfl, rfl⟩ ⟨Nat.le_of_ble_eq_true rfl, Nat.le_of_ble_eq_true rfl⟩ (KX_sl (Or.inl rfl)) rfl hl.1 rfl rfl (Nat.le_of_ble_eq_true rfl) dX11_value_83 (fun H locs hW => W.eq (g2 := F0 m 86 ls [.int (f_X6_has 1 x1 σ6)]) rfl ?_)
  refine lv_if_eq (tgt := 114) hx hb dX11_value_86 (by decide) (fun c7 => ?_) (fun c7 => ?_)
  · have h := xit c7 h
    refine lv_bipush (v := (-2)) hx hb dX11_value_114 rfl ?_
    cases h
    exact xr_i C hW dX11_value_116
  · have h := xif c7 h
    refine lv_iload_n hx hb dX11_value_89 rfl (lv_at hl 3 rfl) ?_
    refine xc_S (As := [.int x2]) (rest := []) C hW (m_X11_isDay x2 _ rfl) mf_X11_isDay mt_X11_isDay ml_X11_268 ⟨rfl, rfl⟩ ⟨Nat.le_of_ble_eq_true rfl, Nat.le_of_ble_eq_true rfl⟩ hl.1 rfl rfl (Nat.le_of_ble_eq_true rfl) dX11_value_90 (fun H locs hW => W.eq (g2 := F0 m 93 ls [.int (f_X11_isDay x2 σ6)]) rfl ?_)
    refine lv_if_eq (tgt := 114) hx hb dX11_value_93 (by decide) (fun c8 => ?_) (fun c8 => ?_)
    · have h := xit c8 h
      refine lv_bipush (v := (-2)) hx hb dX11_value_114 rfl ?_
      cases h
      exact xr_i C hW dX11_value_116
    · have h := xif c8 h
      refine lv_iload_n hx hb dX11_value_96 rfl (lv_at hl 4 rfl) ?_
      refine xc_S (As := [.int x3]) (rest := []) C hW (m_X11_isDay x3 _ rfl) mf_X11_isDay mt_X11_isDay ml_X11_268 ⟨rfl, rfl⟩ ⟨Nat.le_of_ble_eq_true rfl, Nat.le_of_ble_eq_true rfl⟩ hl.1 rfl rfl (Nat.le_of_ble_eq_true rfl) dX11_value_97 (fun H locs hW => W.eq (g2 := F0 m 100 ls [.int (f_X11_isDay x3 σ6)]) rfl ?_)
      refine lv_if_eq (tgt := 114) hx hb dX11_value_100 (by decide) (fun c9 => ?_) (fun c9 => ?_)
      · have h := xit c9 h
        refine lv_bipush (v := (-2)) hx hb dX11_value_114 rfl ?_
        cases h
        exact xr_i C hW dX11_value_116
      · have h := xif c9 h
        refine lv_iload_n hx hb dX11_value_103 rfl (lv_at hl 4 rfl) ?_
        refine lv_aload_n hx hb dX11_value_104 rfl (lv_at hl 1 rfl) ?_
        refine xg_r C hW fg_11_97 KX_0 rfl dX11_value_105 ?_
        refine xg_i C hW fg_11_358 KX_73 rfl (v := 15601) rfl (x := σ6.1 15601 0) rfl dX11_value_108 ?_
        refine lv_icmp_ge (tgt := 117) hx hb dX11_value_111 (by decide) (fun c10 => ?_) (fun c10 => ?_)
        · have h := xit c10 h
          refine lv_iload hx hb dX11_value_117 (lv_at hl 0 rfl) ?_
          refine lv_if_ne (tgt := 124) hx hb dX11_value_119 (by decide) (fun c11 => ?_) (fun c11 => ?_)
          · have h := xif c11 h
            refine lv_aload_n hx hb dX11_value_124 rfl (lv_at hl 1 rfl) ?_
            refine xg_r C hW fg_11_97 KX_0 rfl dX11_value_125 ?_
            refine xg_i C hW fg_11_361 KX_73 rfl (v := 15600) rfl (x := σ6.1 15600 0) rfl dX11_value_128 ?_
            refine lv_bipush (v := 60) hx hb dX11_value_131 rfl ?_
            refine lv_icmp_lt (tgt := 139) hx hb dX11_value_133 (by decide) (fun c12 => ?_) (fun c12 => ?_)
            · have h := xit c12 h
              refine lv_aload_n hx hb dX11_value_139 rfl (lv_at hl 1 rfl) ?_
              refine xg_r C hW fg_11_97 KX_0 rfl dX11_value_140 ?_
              refine lv_iload_n hx hb dX11_value_143 rfl (lv_at hl 2 rfl) ?_
              refine lv_iload_n hx hb dX11_value_144 rfl (lv_at hl 3 rfl) ?_
              refine lv_iload_n hx hb dX11_value_145 rfl (lv_at hl 4 rfl) ?_
              obtain ⟨σ13, e13, h⟩ := xbo h
              refine xc_V (As := [.int x1, .int x2, .int x3]) (rest := []) C hW (m_X10_put x1 x2 x3 _ e13) mf_X10_put mv_X10_put ml_X11_362 ⟨rfl, rfl⟩ ⟨Nat.le_of_ble_eq_true rfl, Nat.le_of_ble_eq_true rfl⟩ KX_73 rfl hl.1 rfl rfl (Nat.le_of_ble_eq_true rfl) dX11_value_146 (fun H locs hW => W.eq (g2 := F0 m 149 ls []) rfl ?_)
              refine lv_aload_n hx hb dX11_value_149 rfl (lv_at hl 1 rfl) ?_
              refine xg_r C hW fg_11_97 KX_0 rfl dX11_value_150 ?_
              refine lv_iload hx hb dX11_value_153 (lv_at hl 5 rfl) ?_
              refine lv_iload hx hb dX11_value_155 (lv_at hl 6 rfl) ?_
              obtain ⟨σ14, e14, h⟩ := xbo h
              refine xc_V (As := [.int x5, .int x6]) (rest := []) C hW (m_X10_putSounds x5 x6 _ e14) mf_X10_putSounds mv_X10_putSounds ml_X11_365 ⟨rfl, rfl⟩ ⟨Nat.le_of_ble_eq_true rfl, Nat.le_of_ble_eq_true rfl⟩ KX_73 rfl hl.1 rfl rfl (Nat.le_of_ble_eq_true rfl) dX11_value_157 (fun H locs hW => W.eq (g2 := F0 m 160 ls []) rfl ?_)
              refine lv_aload_n hx hb dX11_value_160 rfl (lv_at hl 1 rfl) ?_
              refine xg_r C hW fg_11_97 KX_0 rfl dX11_value_161 ?_
              refine xg_i C hW fg_11_361 KX_73 rfl (v := 15600) rfl (x := σ14.1 15600 0) rfl dX11_value_164 ?_
              cases h
              exact xr_i C hW dX11_value_167
            · have h := xif c12 h
              refine lv_bipush (v := (-3)) hx hb dX11_value_136 rfl ?_
              cases h
              exact xr_i C hW dX11_value_138
          · have h := xit c11 h
            refine lv_iconst (v := (-1)) hx hb dX11_value_122 rfl ?_
            cases h
            exact xr_i C hW dX11_value_123
        · have h := xif c10 h
          refine lv_bipush (v := (-2)) hx hb dX11_value_114 rfl ?_
          cases h
          exact xr_i C hW dX11_value_116
set_option maxRecDepth 4000 in
theorem m_X11_value (N : Nat) (x1 : Int32) (x2 : Int32) (x3 : Int32) (σ : St) {r : Int32} {σ' : St} (h : f_X11_value N x1 x2 x3 σ = some (r, σ')) : xM l KX g yX11_value cX11_value 7 (some .int) rm_X11_value [.ref (g.q 0), .int x1, .int x2, .int x3] σ (some (.int r)) σ' := by
  refine xmet pn_X11 rfl (Nat.le_of_ble_eq_true rfl) (lv := [(0, .ref (g.q 0)), (1, .int x1), (2, .int x2), (3, .int x3)]) rfl (fun p e s m args below meth c ls C hW hl => ?_)
  have hx := C.1
  have hb := C.2.1
  unfold f_X11_value at h
  refine lv_aload_n hx hb dX11_value_0 rfl (lv_at hl 0 rfl) ?_
  refine xg_r C hW fg_11_10 KX_0 rfl dX11_value_1 ?_
  obtain ⟨σ1, e1, h⟩ := xbo h
  refine xc_V (As := []) (rest := []) C hW (m_X8_rewind _ e1) mf_X8_rewind mv_X8_rewind ml_X11_109 ⟨rfl, rfl⟩ ⟨Nat.le_of_ble_eq_true rfl, Nat.le_of_ble_eq_true rfl⟩ KX_19 rfl hl.1 rfl rfl (Nat.le_of_ble_eq_true rfl) dX11_value_4 (fun H locs hW => W.eq (g2 := F0 m 7 ls []) rfl ?_)
  refine lv_aload_n hx hb dX11_value_7 rfl (lv_at hl 0 rfl) ?_
  refine xg_r C hW fg_11_10 KX_0 rfl dX11_value_8 ?_
  obtain ⟨σ2, e2, h⟩ := xbo h
  refine xc_V (As := []) (rest := []) C hW (m_X8_next N _ e2) mf_X8_next mv_X8_next ml_X11_169 ⟨rfl, rfl⟩ ⟨Nat.le_of_ble_eq_true rfl, Nat.le_of_ble_eq_true rfl⟩ KX_19 rfl hl.1 rfl rfl (Nat.le_of_ble_eq_true rfl) dX11_value_11 (fun H locs hW => W.eq (g2 := F0 m 14 ls []) rfl ?_)
  refine lv_aload_n hx hb dX11_value_14 rfl (lv_at hl 0 rfl) ?_
  refine xg_r C hW fg_11_10 KX_0 rfl dX11_value_15 ?_
  refine lv_iconst (v := 3) hx hb dX11_value_18 rfl ?_
  refine xc_V (As := [.int 3]) (rest := []) C hW (m_X8_isRow 3 _ rfl) mf_X8_isRow mv_X8_isRow ml_X11_350 ⟨rfl, rfl⟩ ⟨Nat.le_of_ble_eq_true rfl, Nat.le_of_ble_eq_true rfl⟩ KX_19 rfl hl.1 rfl rfl (Nat.le_of_ble_eq_true rfl) dX11_value_19 (fun H locs hW => W.eq (g2 := F0 m 22 ls [.int (f_X8_isRow 3 σ2)]) rfl ?_)
  refine lv_istore (lv' := [(4, .int (f_X8_isRow 3 σ2)), (0, .ref (g.q 0)), (1, .int x1), (2, .int x2), (3, .int x3)]) hx hb dX11_value_22 hl (Nat.le_of_ble_eq_true rfl) rfl (fun ls hl => ?_)
  refine lv_aload_n hx hb dX11_value_24 rfl (lv_at hl 1 rfl) ?_
  refine xg_r C hW fg_11_10 KX_0 rfl dX11_value_25 ?_
  refine xg_i C hW fg_11_353 KX_19 rfl (v := 4807) rfl (x := σ2.1 4807 0) rfl dX11_value_28 ?_
  refine lv_istore (lv' := [(5, .int (σ2.1 4807 0)), (4, .int (f_X8_isRow 3 σ2)), (0, .ref (g.q 0)), (1, .int x1), (2, .int x2), (3, .int x3)]) hx hb dX11_value_31 hl (Nat.le_of_ble_eq_true rfl) rfl (fun ls hl => ?_)
  refine lv_aload_n hx hb dX11_value_33 rfl (lv_at hl 2 rfl) ?_
  refine xg_r C hW fg_11_10 KX_0 rfl dX11_value_34 ?_
  refine xg_i C hW fg_11_355 KX_19 rfl (v := 4805) rfl (x := σ2.1 4805 0) rfl dX11_value_37 ?_
  refine lv_istore (lv' := [(6, .int (σ2.1 4805 0)), (5, .int (σ2.1 4807 0)), (4, .int (f_X8_isRow 3 σ2)), (0, .ref (g.q 0)), (1, .int x1), (2, .int x2), (3, .int x3)]) hx hb dX11_value_40 hl (Nat.le_of_ble_eq_true rfl) rfl (fun ls hl => ?_)
  refine lv_aload_n hx hb dX11_value_42 rfl (lv_at hl 3 rfl) ?_
  refine xg_r C hW fg_11_10 KX_0 rfl dX11_value_43 ?_
  obtain ⟨σ3, e3, h⟩ := xbo h
  refine xc_V (As := []) (rest := []) C hW (m_X8_next N _ e3) mf_X8_next mv_X8_next ml_X11_169 ⟨rfl, rfl⟩ ⟨Nat.le_of_ble_eq_true rfl, Nat.le_of_ble_eq_true rfl⟩ KX_19 rfl hl.1 rfl rfl (Nat.le_of_ble_eq_true rfl) dX11_value_46 (fun H locs hW => W.eq (g2 := F0 m 49 ls []) rfl ?_)
  refine lv_iload hx hb dX11_value_49 (lv_at hl 2 rfl) ?_
  refine lv_if_eq (tgt := 68) hx hb dX11_value_51 (by decide) (fun c4 => ?_) (fun c4 => ?_)
  · have h := xit c4 h
    refine lv_iconst (v := 0) hx hb dX11_value_68 rfl ?_
    exact w_X11_value_69 N C x1 x2 x3 (σ2.1 4807 0) (σ2.1 4805 0) 0 _ _ _ _ hW (lv_sub hl [3, 4, 5, 6, 1, 0] rfl) h
  · have h := xif c4 h
    refine lv_aload_n hx hb dX11_value_54 rfl (lv_at hl 3 rfl) ?_
    refine xg_r C hW fg_11_10 KX_0 rfl dX11_value_55 ?_
    refine xg_i C hW fg_11_172 KX_19 rfl (v := 4803) rfl (x := σ3.1 4803 0) rfl dX11_value_58 ?_
    refine lv_if_ne (tgt := 68) hx hb dX11_value_61 (by decide) (fun c5 => ?_) (fun c5 => ?_)
    · have h := xif c5 h
      refine lv_iconst (v := 0) hx hb dX11_value_68 rfl ?_
      exact w_X11_value_69 N C x1 x2 x3 (σ2.1 4807 0) (σ2.1 4805 0) 0 _ _ _ _ hW (lv_sub hl [3, 4, 5, 6, 1, 0] rfl) h
    · have h := xit c5 h
      refine lv_iconst (v := 1) hx hb dX11_value_64 rfl ?_
      refine lv_goto (tgt := 69) hx hb dX11_value_65 (by decide) ?_
      exact w_X11_value_69 N C x1 x2 x3 (σ2.1 4807 0) (σ2.1 4805 0) 1 _ _ _ _ hW (lv_sub hl [3, 4, 5, 6, 1, 0] rfl) h
end
theorem dX11_valueOn_0 : decode cX11_valueOn 0 = .ok (.aload_n 0, 1) := by decide +kernel
theorem dX11_valueOn_1 : decode cX11_valueOn 1 = .ok (.getfield 19, 3) := by decide +kernel
theorem dX11_valueOn_4 : decode cX11_valueOn 4 = .ok (.iload_n 1, 1) := by decide +kernel
theorem dX11_valueOn_5 : decode cX11_valueOn 5 = .ok (.invokevirtual 146, 3) := by decide +kernel
theorem dX11_valueOn_8 : decode cX11_valueOn 8 = .ok (.ifCond .eq 17, 3) := by decide +kernel
theorem dX11_valueOn_11 : decode cX11_valueOn 11 = .ok (.iload_n 2, 1) := by decide +kernel
theorem dX11_valueOn_12 : decode cX11_valueOn 12 = .ok (.invokestatic 268, 3) := by decide +kernel
theorem dX11_valueOn_15 : decode cX11_valueOn 15 = .ok (.ifCond .eq 10, 3) := by decide +kernel
theorem dX11_valueOn_18 : decode cX11_valueOn 18 = .ok (.iload_n 3, 1) := by decide +kernel
theorem dX11_valueOn_19 : decode cX11_valueOn 19 = .ok (.invokestatic 268, 3) := by decide +kernel
theorem dX11_valueOn_22 : decode cX11_valueOn 22 = .ok (.ifCond .ne 6, 3) := by decide +kernel
theorem dX11_valueOn_25 : decode cX11_valueOn 25 = .ok (.bipush (-2), 2) := by decide +kernel
theorem dX11_valueOn_27 : decode cX11_valueOn 27 = .ok (.ireturn, 1) := by decide +kernel
theorem dX11_valueOn_28 : decode cX11_valueOn 28 = .ok (.aload_n 0, 1) := by decide +kernel
theorem dX11_valueOn_29 : decode cX11_valueOn 29 = .ok (.getfield 97, 3) := by decide +kernel
theorem dX11_valueOn_32 : decode cX11_valueOn 32 = .ok (.iload_n 1, 1) := by decide +kernel
theorem dX11_valueOn_33 : decode cX11_valueOn 33 = .ok (.iload_n 2, 1) := by decide +kernel
theorem dX11_valueOn_34 : decode cX11_valueOn 34 = .ok (.iload_n 3, 1) := by decide +kernel
theorem dX11_valueOn_35 : decode cX11_valueOn 35 = .ok (.invokevirtual 369, 3) := by decide +kernel
theorem dX11_valueOn_38 : decode cX11_valueOn 38 = .ok (.istore 5, 2) := by decide +kernel
theorem dX11_valueOn_40 : decode cX11_valueOn 40 = .ok (.iload 5, 2) := by decide +kernel
theorem dX11_valueOn_42 : decode cX11_valueOn 42 = .ok (.ifCond .ge 15, 3) := by decide +kernel
theorem dX11_valueOn_45 : decode cX11_valueOn 45 = .ok (.aload_n 0, 1) := by decide +kernel
theorem dX11_valueOn_46 : decode cX11_valueOn 46 = .ok (.getfield 19, 3) := by decide +kernel
theorem dX11_valueOn_49 : decode cX11_valueOn 49 = .ok (.getfield 159, 3) := by decide +kernel
theorem dX11_valueOn_52 : decode cX11_valueOn 52 = .ok (.iload_n 1, 1) := by decide +kernel
theorem dX11_valueOn_53 : decode cX11_valueOn 53 = .ok (.iaload, 1) := by decide +kernel
theorem dX11_valueOn_54 : decode cX11_valueOn 54 = .ok (.goto 13, 3) := by decide +kernel
theorem dX11_valueOn_57 : decode cX11_valueOn 57 = .ok (.aload_n 0, 1) := by decide +kernel
theorem dX11_valueOn_58 : decode cX11_valueOn 58 = .ok (.getfield 97, 3) := by decide +kernel
theorem dX11_valueOn_61 : decode cX11_valueOn 61 = .ok (.getfield 373, 3) := by decide +kernel
theorem dX11_valueOn_64 : decode cX11_valueOn 64 = .ok (.iload 5, 2) := by decide +kernel
theorem dX11_valueOn_66 : decode cX11_valueOn 66 = .ok (.iaload, 1) := by decide +kernel
theorem dX11_valueOn_67 : decode cX11_valueOn 67 = .ok (.istore 6, 2) := by decide +kernel
theorem dX11_valueOn_69 : decode cX11_valueOn 69 = .ok (.iload 5, 2) := by decide +kernel
theorem dX11_valueOn_71 : decode cX11_valueOn 71 = .ok (.ifCond .ge 15, 3) := by decide +kernel
theorem dX11_valueOn_74 : decode cX11_valueOn 74 = .ok (.aload_n 0, 1) := by decide +kernel
theorem dX11_valueOn_75 : decode cX11_valueOn 75 = .ok (.getfield 19, 3) := by decide +kernel
theorem dX11_valueOn_78 : decode cX11_valueOn 78 = .ok (.getfield 162, 3) := by decide +kernel
theorem dX11_valueOn_81 : decode cX11_valueOn 81 = .ok (.iload_n 1, 1) := by decide +kernel
theorem dX11_valueOn_82 : decode cX11_valueOn 82 = .ok (.iaload, 1) := by decide +kernel
theorem dX11_valueOn_83 : decode cX11_valueOn 83 = .ok (.goto 13, 3) := by decide +kernel
theorem dX11_valueOn_86 : decode cX11_valueOn 86 = .ok (.aload_n 0, 1) := by decide +kernel
theorem dX11_valueOn_87 : decode cX11_valueOn 87 = .ok (.getfield 97, 3) := by decide +kernel
theorem dX11_valueOn_90 : decode cX11_valueOn 90 = .ok (.getfield 374, 3) := by decide +kernel
theorem dX11_valueOn_93 : decode cX11_valueOn 93 = .ok (.iload 5, 2) := by decide +kernel
theorem dX11_valueOn_95 : decode cX11_valueOn 95 = .ok (.iaload, 1) := by decide +kernel
theorem dX11_valueOn_96 : decode cX11_valueOn 96 = .ok (.istore 7, 2) := by decide +kernel
theorem dX11_valueOn_98 : decode cX11_valueOn 98 = .ok (.iload 4, 2) := by decide +kernel
theorem dX11_valueOn_100 : decode cX11_valueOn 100 = .ok (.ifCond .ne 8, 3) := by decide +kernel
theorem dX11_valueOn_103 : decode cX11_valueOn 103 = .ok (.iload 6, 2) := by decide +kernel
theorem dX11_valueOn_105 : decode cX11_valueOn 105 = .ok (.goto 13, 3) := by decide +kernel
theorem dX11_valueOn_108 : decode cX11_valueOn 108 = .ok (.iload 7, 2) := by decide +kernel
theorem dX11_valueOn_110 : decode cX11_valueOn 110 = .ok (.iload 6, 2) := by decide +kernel
theorem dX11_valueOn_112 : decode cX11_valueOn 112 = .ok (.iload 4, 2) := by decide +kernel
theorem dX11_valueOn_114 : decode cX11_valueOn 114 = .ok (.iconst (-1), 1) := by decide +kernel
theorem dX11_valueOn_115 : decode cX11_valueOn 115 = .ok (.invokestatic 165, 3) := by decide +kernel
theorem dX11_valueOn_118 : decode cX11_valueOn 118 = .ok (.ireturn, 1) := by decide +kernel
abbrev rm_X11_valueOn : Room := { frames := 2, cells := 0, slots := 0, locals := 45 }
def f_X11_valueOn_96 (N : Nat) (x4 : Int32) (x6 : Int32) (t0 : Int32) (σ : St) : Option Int32 := (if x4 = 0 then some x6 else some (f_X11_soundOf t0 x6 x4 ((-1)) σ))
def f_X11_valueOn_67 (N : Nat) (x1 : Int32) (x4 : Int32) (x5 : Int32) (t0 : Int32) (σ : St) : Option Int32 := (if 0 ≤ x5 then grd (ib x5 60) (f_X11_valueOn_96 N x4 t0 (σ.1 77 x5.toNatClampNeg) σ) else grd (ib x1 40) (f_X11_valueOn_96 N x4 t0 (σ.1 8 x1.toNatClampNeg) σ))
def f_X11_valueOn (N : Nat) (x1 : Int32) (x2 : Int32) (x3 : Int32) (x4 : Int32) (σ : St) : Option Int32 := (if (f_X6_has 1 x1 σ) = 0 then some ((-2)) else (if (f_X11_isDay x2 σ) = 0 then some ((-2)) else (if (f_X11_isDay x3 σ) = 0 then some ((-2)) else bo (f_X10_latestFor N x1 x2 x3 σ) (fun r4_ => (if 0 ≤ r4_ then grd (ib r4_ 60) (f_X11_valueOn_67 N x1 x4 r4_ (σ.1 78 r4_.toNatClampNeg) σ) else grd (ib x1 40) (f_X11_valueOn_67 N x1 x4 r4_ (σ.1 7 x1.toNatClampNeg) σ))))))
section
variable {p : Program} {l : Launch} {e : Env} {s : State} {m : MethodId} {args : Array Value} {below : List Frame} {meth : Method} {c : Code} {g : XG}
set_option maxRecDepth 4000 in
theorem w_X11_valueOn_96 (N : Nat) (σ : St) {r : Int32} (C : xC KX g RX11 cX11_valueOn 8 (some .int) p s m args meth c) : ∀ (x4 : Int32) (x6 : Int32) (t0 : Int32) (H : Heap) (locs : List Loc) (ls : Array Slot), xW KX g s σ H locs → lv_has ls 8 [(4, .int x4), (6, .int x6)] → f_X11_valueOn_96 N x4 x6 t0 σ = some r → W p l e rm_X11_valueOn s m args below meth c H locs 0 0 (MQ below (xPost KX g (some (.int r)) σ) args s 0 0 (xA KX g.q)) (F0 m 96 ls [.int t0]) := by
  have hx := C.1
  have hb := C.2.1
  intro x4 x6 t0 H locs ls hW hl h
  unfold f_X11_valueOn_96 at h
  refine lv_istore (lv' := [(7, .int t0), (4, .int x4), (6, .int x6)]) hx hb dX11_valueOn_96 hl (Nat.le_of_ble_eq_true rfl) rfl (fun ls hl => ?_)
  refine lv_iload hx hb dX11_valueOn_98 (lv_at hl 1 rfl) ?_
  refine lv_if_ne (tgt := 108) hx hb dX11_valueOn_100 (by decide) (fun c11 => ?_) (fun c11 => ?_)
  · have h := xif c11 h
    refine lv_iload hx hb dX11_valueOn_108 (lv_at hl 0 rfl) ?_
    refine lv_iload hx hb dX11_valueOn_110 (lv_at hl 2 rfl) ?_
    refine lv_iload hx hb dX11_valueOn_112 (lv_at hl 1 rfl) ?_
    refine lv_iconst (v := (-1)) hx hb dX11_valueOn_114 rfl ?_
    refine xc_S (As := [.int t0, .int x6, .int x4, .int ((-1))]) (rest := []) C hW (m_X11_soundOf t0 x6 x4 ((-1)) _ rfl) mf_X11_soundOf mt_X11_soundOf ml_X11_165 ⟨rfl, rfl⟩ ⟨Nat.le_of_ble_eq_true rfl, Nat.le_of_ble_eq_true rfl⟩ hl.1 rfl rfl (Nat.le_of_ble_eq_true rfl) dX11_valueOn_115 (fun H locs hW => W.eq (g2 := F0 m 118 ls [.int (f_X11_soundOf t0 x6 x4 ((-1)) σ)]) rfl ?_)
    cases h
    exact xr_i C hW dX11_valueOn_118
  · have h := xit c11 h
    refine lv_iload hx hb dX11_valueOn_103 (lv_at hl 2 rfl) ?_
    refine lv_goto (tgt := 118) hx hb dX11_valueOn_105 (by decide) ?_
    cases h
    exact xr_i C hW dX11_valueOn_118
set_option maxRecDepth 4000 in
theorem w_X11_valueOn_67 (N : Nat) (σ : St) {r : Int32} (C : xC KX g RX11 cX11_valueOn 8 (some .int) p s m args meth c) : ∀ (x1 : Int32) (x4 : Int32) (x5 : Int32) (t0 : Int32) (H : Heap) (locs : List Loc) (ls : Array Slot), xW KX g s σ H locs → lv_has ls 8 [(0, .ref (g.q 0)), (1, .int x1), (4, .int x4), (5, .int x5)] → f_X11_valueOn_67 N x1 x4 x5 t0 σ = some r → W p l e rm_X11_valueOn s m args below meth c H locs 0 0 (MQ below (xPost KX g (some (.int r)) σ) args s 0 0 (xA KX g.q)) (F0 m 67 ls [.int t0]) := by
  have hx := C.1
  have hb := C.2.1
  intro x1 x4 x5 t0 H locs ls hW hl h
  unfold f_X11_valueOn_67 at h
  refine lv_istore (lv' := [(6, .int t0), (0, .ref (g.q 0)), (1, .int x1), (4, .int x4), (5, .int x5)]) hx hb dX11_valueOn_67 hl (Nat.le_of_ble_eq_true rfl) rfl (fun ls hl => ?_)
  refine lv_iload hx hb dX11_valueOn_69 (lv_at hl 4 rfl) ?_
  refine lv_if_ge (tgt := 86) hx hb dX11_valueOn_71 (by decide) (fun c8 => ?_) (fun c8 => ?_)
  · have h := xit c8 h
    refine lv_aload_n hx hb dX11_valueOn_86 rfl (lv_at hl 1 rfl) ?_
    refine xg_r C hW fg_11_97 KX_0 rfl dX11_valueOn_87 ?_
    refine xg_r C hW fg_11_374 KX_73 rfl dX11_valueOn_90 ?_
    refine lv_iload hx hb dX11_valueOn_93 (lv_at hl 4 rfl) ?_
    obtain ⟨g9, h⟩ := xgd h
    refine xa_i C hW KX_77 g9 (x := σ.1 77 x5.toNatClampNeg) rfl dX11_valueOn_95 ?_
    exact w_X11_valueOn_96 N σ C x4 t0 (σ.1 77 x5.toNatClampNeg) _ _ _ hW (lv_sub hl [3, 0] rfl) h
  · have h := xif c8 h
    refine lv_aload_n hx hb dX11_valueOn_74 rfl (lv_at hl 1 rfl) ?_
    refine xg_r C hW fg_11_19 KX_0 rfl dX11_valueOn_75 ?_
    refine xg_r C hW fg_11_162 KX_1 rfl dX11_valueOn_78 ?_
    refine lv_iload_n hx hb dX11_valueOn_81 rfl (lv_at hl 2 rfl) ?_
    obtain ⟨g10, h⟩ := xgd h
    refine xa_i C hW KX_8 g10 (x := σ.1 8 x1.toNatClampNeg) rfl dX11_valueOn_82 ?_
    refine lv_goto (tgt := 96) hx hb dX11_valueOn_83 (by decide) ?_
    exact w_X11_valueOn_96 N σ C x4 t0 (σ.1 8 x1.toNatClampNeg) _ _ _ hW (lv_sub hl [3, 0] rfl) h
set_option maxRecDepth 4000 in
theorem m_X11_valueOn (N : Nat) (x1 : Int32) (x2 : Int32) (x3 : Int32) (x4 : Int32) (σ : St) {r : Int32} (h : f_X11_valueOn N x1 x2 x3 x4 σ = some r) : xM l KX g yX11_valueOn cX11_valueOn 8 (some .int) rm_X11_valueOn [.ref (g.q 0), .int x1, .int x2, .int x3, .int x4] σ (some (.int r)) σ := by
  refine xmet pn_X11 rfl (Nat.le_of_ble_eq_true rfl) (lv := [(0, .ref (g.q 0)), (1, .int x1), (2, .int x2), (3, .int x3), (4, .int x4)]) rfl (fun p e s m args below meth c ls C hW hl => ?_)
  have hx := C.1
  have hb := C.2.1
  unfold f_X11_valueOn at h
  refine lv_aload_n hx hb dX11_valueOn_0 rfl (lv_at hl 0 rfl) ?_
  refine xg_r C hW fg_11_19 KX_0 rfl dX11_valueOn_1 ?_
  refine lv_iload_n hx hb dX11_valueOn_4 rfl (lv_at hl 1 rfl) ?_
  refine xc_V (As := [.int x1]) (rest := []) C hW (m_X6_has 1 (Or.inl rfl) x1 _ rfl) mf_X6_has mv_X6_has ml_X11_146 ⟨rfl, rfl⟩ ⟨Nat.le_of_ble_eq_true rfl, Nat.le_of_ble_eq_true rfl⟩ (KX_sl (Or.inl rfl)) rfl hl.1 rfl rfl (Nat.le_of_ble_eq_true rfl) dX11_valueOn_5 (fun H locs hW => W.eq (g2 := F0 m 8 ls [.int (f_X6_has 1 x1 σ)]) rfl ?_)
  refine lv_if_eq (tgt := 25) hx hb dX11_valueOn_8 (by decide) (fun c1 => ?_) (fun c1 => ?_)
  · have h := xit c1 h
    refine lv_bipush (v := (-2)) hx hb dX11_valueOn_25 rfl ?_
    cases h
    exact xr_i C hW dX11_valueOn_27
  · have h := xif c1 h
    refine lv_iload_n hx hb dX11_valueOn_11 rfl (lv_at hl 2 rfl) ?_
    refine xc_S (As := [.int x2]) (rest := []) C hW (m_X11_isDay x2 _ rfl) mf_X11_isDay mt_X11_isDay ml_X11_268 ⟨rfl, rfl⟩ ⟨Nat.le_of_ble_eq_true rfl, Nat.le_of_ble_eq_true rfl⟩ hl.1 rfl rfl (Nat.le_of_ble_eq_true rfl) dX11_valueOn_12 (fun H locs hW => W.eq (g2 := F0 m 15 ls [.int (f_X11_isDay x2 σ)]) rfl ?_)
    refine lv_if_eq (tgt := 25) hx hb dX11_valueOn_15 (by decide) (fun c2 => ?_) (fun c2 => ?_)
    · have h := xit c2 h
      refine lv_bipush (v := (-2)) hx hb dX11_valueOn_25 rfl ?_
      cases h
      exact xr_i C hW dX11_valueOn_27
    · have h := xif c2 h
      refine lv_iload_n hx hb dX11_valueOn_18 rfl (lv_at hl 3 rfl) ?_
      refine xc_S (As := [.int x3]) (rest := []) C hW (m_X11_isDay x3 _ rfl) mf_X11_isDay mt_X11_isDay ml_X11_268 ⟨rfl, rfl⟩ ⟨Nat.le_of_ble_eq_true rfl, Nat.le_of_ble_eq_true rfl⟩ hl.1 rfl rfl (Nat.le_of_ble_eq_true rfl) dX11_valueOn_19 (fun H locs hW => W.eq (g2 := F0 m 22 ls [.int (f_X11_isDay x3 σ)]) rfl ?_)
      refine lv_if_ne (tgt := 28) hx hb dX11_valueOn_22 (by decide) (fun c3 => ?_) (fun c3 => ?_)
      · have h := xif c3 h
        refine lv_aload_n hx hb dX11_valueOn_28 rfl (lv_at hl 0 rfl) ?_
        refine xg_r C hW fg_11_97 KX_0 rfl dX11_valueOn_29 ?_
        refine lv_iload_n hx hb dX11_valueOn_32 rfl (lv_at hl 1 rfl) ?_
        refine lv_iload_n hx hb dX11_valueOn_33 rfl (lv_at hl 2 rfl) ?_
        refine lv_iload_n hx hb dX11_valueOn_34 rfl (lv_at hl 3 rfl) ?_
        obtain ⟨r4_, e4, h⟩ := xbo h
        refine xc_V (As := [.int x1, .int x2, .int x3]) (rest := []) C hW (m_X10_latestFor N x1 x2 x3 _ e4) mf_X10_latestFor mv_X10_latestFor ml_X11_369 ⟨rfl, rfl⟩ ⟨Nat.le_of_ble_eq_true rfl, Nat.le_of_ble_eq_true rfl⟩ KX_73 rfl hl.1 rfl rfl (Nat.le_of_ble_eq_true rfl) dX11_valueOn_35 (fun H locs hW => W.eq (g2 := F0 m 38 ls [.int r4_]) rfl ?_)
        refine lv_istore (lv' := [(5, .int r4_), (0, .ref (g.q 0)), (1, .int x1), (2, .int x2), (3, .int x3), (4, .int x4)]) hx hb dX11_valueOn_38 hl (Nat.le_of_ble_eq_true rfl) rfl (fun ls hl => ?_)
        refine lv_iload hx hb dX11_valueOn_40 (lv_at hl 0 rfl) ?_
        refine lv_if_ge (tgt := 57) hx hb dX11_valueOn_42 (by decide) (fun c5 => ?_) (fun c5 => ?_)
        · have h := xit c5 h
          refine lv_aload_n hx hb dX11_valueOn_57 rfl (lv_at hl 1 rfl) ?_
          refine xg_r C hW fg_11_97 KX_0 rfl dX11_valueOn_58 ?_
          refine xg_r C hW fg_11_373 KX_73 rfl dX11_valueOn_61 ?_
          refine lv_iload hx hb dX11_valueOn_64 (lv_at hl 0 rfl) ?_
          obtain ⟨g6, h⟩ := xgd h
          refine xa_i C hW KX_78 g6 (x := σ.1 78 r4_.toNatClampNeg) rfl dX11_valueOn_66 ?_
          exact w_X11_valueOn_67 N σ C x1 x4 r4_ (σ.1 78 r4_.toNatClampNeg) _ _ _ hW (lv_sub hl [1, 2, 5, 0] rfl) h
        · have h := xif c5 h
          refine lv_aload_n hx hb dX11_valueOn_45 rfl (lv_at hl 1 rfl) ?_
          refine xg_r C hW fg_11_19 KX_0 rfl dX11_valueOn_46 ?_
          refine xg_r C hW fg_11_159 KX_1 rfl dX11_valueOn_49 ?_
          refine lv_iload_n hx hb dX11_valueOn_52 rfl (lv_at hl 2 rfl) ?_
          obtain ⟨g7, h⟩ := xgd h
          refine xa_i C hW KX_7 g7 (x := σ.1 7 x1.toNatClampNeg) rfl dX11_valueOn_53 ?_
          refine lv_goto (tgt := 67) hx hb dX11_valueOn_54 (by decide) ?_
          exact w_X11_valueOn_67 N σ C x1 x4 r4_ (σ.1 7 x1.toNatClampNeg) _ _ _ hW (lv_sub hl [1, 2, 5, 0] rfl) h
      · have h := xit c3 h
        refine lv_bipush (v := (-2)) hx hb dX11_valueOn_25 rfl ?_
        cases h
        exact xr_i C hW dX11_valueOn_27
end
