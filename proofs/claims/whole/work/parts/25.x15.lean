theorem dX11_write_0 : decode cX11_write 0 = .ok (.aload_n 0, 1) := by decide +kernel
theorem dX11_write_1 : decode cX11_write 1 = .ok (.getfield 10, 3) := by decide +kernel
theorem dX11_write_4 : decode cX11_write 4 = .ok (.invokevirtual 109, 3) := by decide +kernel
theorem dX11_write_7 : decode cX11_write 7 = .ok (.aload_n 0, 1) := by decide +kernel
theorem dX11_write_8 : decode cX11_write 8 = .ok (.getfield 81, 3) := by decide +kernel
theorem dX11_write_11 : decode cX11_write 11 = .ok (.aload_n 0, 1) := by decide +kernel
theorem dX11_write_12 : decode cX11_write 12 = .ok (.getfield 10, 3) := by decide +kernel
theorem dX11_write_15 : decode cX11_write 15 = .ok (.invokevirtual 259, 3) := by decide +kernel
theorem dX11_write_18 : decode cX11_write 18 = .ok (.istore_n 1, 1) := by decide +kernel
theorem dX11_write_19 : decode cX11_write 19 = .ok (.aload_n 0, 1) := by decide +kernel
theorem dX11_write_20 : decode cX11_write 20 = .ok (.getfield 10, 3) := by decide +kernel
theorem dX11_write_23 : decode cX11_write 23 = .ok (.invokevirtual 119, 3) := by decide +kernel
theorem dX11_write_26 : decode cX11_write 26 = .ok (.iload_n 1, 1) := by decide +kernel
theorem dX11_write_27 : decode cX11_write 27 = .ok (.ifCond .le 10, 3) := by decide +kernel
theorem dX11_write_30 : decode cX11_write 30 = .ok (.aload_n 0, 1) := by decide +kernel
theorem dX11_write_31 : decode cX11_write 31 = .ok (.getfield 63, 3) := by decide +kernel
theorem dX11_write_34 : decode cX11_write 34 = .ok (.invokevirtual 129, 3) := by decide +kernel
theorem dX11_write_37 : decode cX11_write 37 = .ok (.iload_n 1, 1) := by decide +kernel
theorem dX11_write_38 : decode cX11_write 38 = .ok (.ireturn, 1) := by decide +kernel
abbrev rm_X11_write : Room := { frames := 4, cells := 0, slots := 0, locals := 104 }
def f_X11_write (N : Nat) (σ : St) : Option (Int32 × St) := bo (f_X8_rewind σ) (fun σ1 => bd (f_X5_take N σ1) (fun r2_ σ2 => bo (f_X8_drain σ2) (fun σ3 => (if r2_ ≤ 0 then some (r2_, σ3) else bo (f_X3_forget σ3) (fun σ5 => some (r2_, σ5))))))
section
variable {p : Program} {l : Launch} {e : Env} {s : State} {m : MethodId} {args : Array Value} {below : List Frame} {meth : Method} {c : Code} {g : XG}
set_option maxRecDepth 4000 in
theorem m_X11_write (N : Nat) (σ : St) {r : Int32} {σ' : St} (h : f_X11_write N σ = some (r, σ')) : xM l KX g yX11_write cX11_write 2 (some .int) rm_X11_write [.ref (g.q 0)] σ (some (.int r)) σ' := by
  refine xmet pn_X11 rfl (Nat.le_of_ble_eq_true rfl) (lv := [(0, .ref (g.q 0))]) rfl (fun p e s m args below meth c ls C hW hl => ?_)
  have hx := C.1
  have hb := C.2.1
  unfold f_X11_write at h
  refine lv_aload_n hx hb dX11_write_0 rfl (lv_at hl 0 rfl) ?_
  refine xg_r C hW fg_11_10 KX_0 rfl dX11_write_1 ?_
  obtain ⟨σ1, e1, h⟩ := xbo h
  refine xc_V (As := []) (rest := []) C hW (m_X8_rewind _ e1) mf_X8_rewind mv_X8_rewind ml_X11_109 ⟨rfl, rfl⟩ ⟨Nat.le_of_ble_eq_true rfl, Nat.le_of_ble_eq_true rfl⟩ KX_19 rfl hl.1 rfl rfl (Nat.le_of_ble_eq_true rfl) dX11_write_4 (fun H locs hW => W.eq (g2 := F0 m 7 ls []) rfl ?_)
  refine lv_aload_n hx hb dX11_write_7 rfl (lv_at hl 0 rfl) ?_
  refine xg_r C hW fg_11_81 KX_0 rfl dX11_write_8 ?_
  refine lv_aload_n hx hb dX11_write_11 rfl (lv_at hl 0 rfl) ?_
  refine xg_r C hW fg_11_10 KX_0 rfl dX11_write_12 ?_
  obtain ⟨r2_, σ2, e2, h⟩ := xbd h
  refine xc_V (As := [.ref (g.q 19)]) (rest := []) C hW (m_X5_take N _ e2) mf_X5_take mv_X5_take ml_X11_259 ⟨rfl, rfl⟩ ⟨Nat.le_of_ble_eq_true rfl, Nat.le_of_ble_eq_true rfl⟩ KX_57 rfl hl.1 rfl rfl (Nat.le_of_ble_eq_true rfl) dX11_write_15 (fun H locs hW => W.eq (g2 := F0 m 18 ls [.int r2_]) rfl ?_)
  refine lv_istore_n (lv' := [(1, .int r2_), (0, .ref (g.q 0))]) hx hb dX11_write_18 rfl hl (Nat.le_of_ble_eq_true rfl) rfl (fun ls hl => ?_)
  refine lv_aload_n hx hb dX11_write_19 rfl (lv_at hl 1 rfl) ?_
  refine xg_r C hW fg_11_10 KX_0 rfl dX11_write_20 ?_
  obtain ⟨σ3, e3, h⟩ := xbo h
  refine xc_V (As := []) (rest := []) C hW (m_X8_drain _ e3) mf_X8_drain mv_X8_drain ml_X11_119 ⟨rfl, rfl⟩ ⟨Nat.le_of_ble_eq_true rfl, Nat.le_of_ble_eq_true rfl⟩ KX_19 rfl hl.1 rfl rfl (Nat.le_of_ble_eq_true rfl) dX11_write_23 (fun H locs hW => W.eq (g2 := F0 m 26 ls []) rfl ?_)
  refine lv_iload_n hx hb dX11_write_26 rfl (lv_at hl 0 rfl) ?_
  refine lv_if_le (tgt := 37) hx hb dX11_write_27 (by decide) (fun c4 => ?_) (fun c4 => ?_)
  · have h := xit c4 h
    refine lv_iload_n hx hb dX11_write_37 rfl (lv_at hl 0 rfl) ?_
    cases h
    exact xr_i C hW dX11_write_38
  · have h := xif c4 h
    refine lv_aload_n hx hb dX11_write_30 rfl (lv_at hl 1 rfl) ?_
    refine xg_r C hW fg_11_63 KX_0 rfl dX11_write_31 ?_
    obtain ⟨σ5, e5, h⟩ := xbo h
    refine xc_V (As := []) (rest := []) C hW (m_X3_forget _ e5) mf_X3_forget mv_X3_forget ml_X11_129 ⟨rfl, rfl⟩ ⟨Nat.le_of_ble_eq_true rfl, Nat.le_of_ble_eq_true rfl⟩ KX_40 rfl hl.1 rfl rfl (Nat.le_of_ble_eq_true rfl) dX11_write_34 (fun H locs hW => W.eq (g2 := F0 m 37 ls []) rfl ?_)
    refine lv_iload_n hx hb dX11_write_37 rfl (lv_at hl 0 rfl) ?_
    cases h
    exact xr_i C hW dX11_write_38
end
theorem dX11_written_0 : decode cX11_written 0 = .ok (.iload_n 1, 1) := by decide +kernel
theorem dX11_written_1 : decode cX11_written 1 = .ok (.ifCond .lt 14, 3) := by decide +kernel
theorem dX11_written_4 : decode cX11_written 4 = .ok (.iload_n 1, 1) := by decide +kernel
theorem dX11_written_5 : decode cX11_written 5 = .ok (.aload_n 0, 1) := by decide +kernel
theorem dX11_written_6 : decode cX11_written 6 = .ok (.getfield 81, 3) := by decide +kernel
theorem dX11_written_9 : decode cX11_written 9 = .ok (.getfield 260, 3) := by decide +kernel
theorem dX11_written_12 : decode cX11_written 12 = .ok (.if_icmp .lt 7, 3) := by decide +kernel
theorem dX11_written_15 : decode cX11_written 15 = .ok (.iconst (-1), 1) := by decide +kernel
theorem dX11_written_16 : decode cX11_written 16 = .ok (.goto 12, 3) := by decide +kernel
theorem dX11_written_19 : decode cX11_written 19 = .ok (.aload_n 0, 1) := by decide +kernel
theorem dX11_written_20 : decode cX11_written 20 = .ok (.getfield 81, 3) := by decide +kernel
theorem dX11_written_23 : decode cX11_written 23 = .ok (.getfield 261, 3) := by decide +kernel
theorem dX11_written_26 : decode cX11_written 26 = .ok (.iload_n 1, 1) := by decide +kernel
theorem dX11_written_27 : decode cX11_written 27 = .ok (.iaload, 1) := by decide +kernel
theorem dX11_written_28 : decode cX11_written 28 = .ok (.ireturn, 1) := by decide +kernel
abbrev rm_X11_written : Room := { frames := 0, cells := 0, slots := 0, locals := 0 }
def f_X11_written (x1 : Int32) (σ : St) : Option Int32 := (if x1 < 0 then some ((-1)) else (if x1 < (σ.1 12404 0) then grd (ib x1 24) (some (σ.1 58 x1.toNatClampNeg)) else some ((-1))))
section
variable {p : Program} {l : Launch} {e : Env} {s : State} {m : MethodId} {args : Array Value} {below : List Frame} {meth : Method} {c : Code} {g : XG}
set_option maxRecDepth 4000 in
theorem m_X11_written (x1 : Int32) (σ : St) {r : Int32} (h : f_X11_written x1 σ = some r) : xM l KX g yX11_written cX11_written 2 (some .int) rm_X11_written [.ref (g.q 0), .int x1] σ (some (.int r)) σ := by
  refine xmet pn_X11 rfl (Nat.le_of_ble_eq_true rfl) (lv := [(0, .ref (g.q 0)), (1, .int x1)]) rfl (fun p e s m args below meth c ls C hW hl => ?_)
  have hx := C.1
  have hb := C.2.1
  unfold f_X11_written at h
  refine lv_iload_n hx hb dX11_written_0 rfl (lv_at hl 1 rfl) ?_
  refine lv_if_lt (tgt := 15) hx hb dX11_written_1 (by decide) (fun c1 => ?_) (fun c1 => ?_)
  · have h := xit c1 h
    refine lv_iconst (v := (-1)) hx hb dX11_written_15 rfl ?_
    refine lv_goto (tgt := 28) hx hb dX11_written_16 (by decide) ?_
    cases h
    exact xr_i C hW dX11_written_28
  · have h := xif c1 h
    refine lv_iload_n hx hb dX11_written_4 rfl (lv_at hl 1 rfl) ?_
    refine lv_aload_n hx hb dX11_written_5 rfl (lv_at hl 0 rfl) ?_
    refine xg_r C hW fg_11_81 KX_0 rfl dX11_written_6 ?_
    refine xg_i C hW fg_11_260 KX_57 rfl (v := 12404) rfl (x := σ.1 12404 0) rfl dX11_written_9 ?_
    refine lv_icmp_lt (tgt := 19) hx hb dX11_written_12 (by decide) (fun c2 => ?_) (fun c2 => ?_)
    · have h := xit c2 h
      refine lv_aload_n hx hb dX11_written_19 rfl (lv_at hl 0 rfl) ?_
      refine xg_r C hW fg_11_81 KX_0 rfl dX11_written_20 ?_
      refine xg_r C hW fg_11_261 KX_57 rfl dX11_written_23 ?_
      refine lv_iload_n hx hb dX11_written_26 rfl (lv_at hl 1 rfl) ?_
      obtain ⟨g3, h⟩ := xgd h
      refine xa_i C hW KX_58 g3 (x := σ.1 58 x1.toNatClampNeg) rfl dX11_written_27 ?_
      cases h
      exact xr_i C hW dX11_written_28
    · have h := xif c2 h
      refine lv_iconst (v := (-1)) hx hb dX11_written_15 rfl ?_
      refine lv_goto (tgt := 28) hx hb dX11_written_16 (by decide) ?_
      cases h
      exact xr_i C hW dX11_written_28
end
theorem dX11_ways_0 : decode cX11_ways 0 = .ok (.aload_n 0, 1) := by decide +kernel
theorem dX11_ways_1 : decode cX11_ways 1 = .ok (.getfield 81, 3) := by decide +kernel
theorem dX11_ways_4 : decode cX11_ways 4 = .ok (.getfield 260, 3) := by decide +kernel
theorem dX11_ways_7 : decode cX11_ways 7 = .ok (.ifCond .ne 6, 3) := by decide +kernel
theorem dX11_ways_10 : decode cX11_ways 10 = .ok (.bipush (-4), 2) := by decide +kernel
theorem dX11_ways_12 : decode cX11_ways 12 = .ok (.ireturn, 1) := by decide +kernel
theorem dX11_ways_13 : decode cX11_ways 13 = .ok (.aload_n 0, 1) := by decide +kernel
theorem dX11_ways_14 : decode cX11_ways 14 = .ok (.getfield 81, 3) := by decide +kernel
theorem dX11_ways_17 : decode cX11_ways 17 = .ok (.aload_n 0, 1) := by decide +kernel
theorem dX11_ways_18 : decode cX11_ways 18 = .ok (.getfield 19, 3) := by decide +kernel
theorem dX11_ways_21 : decode cX11_ways 21 = .ok (.invokevirtual 264, 3) := by decide +kernel
theorem dX11_ways_24 : decode cX11_ways 24 = .ok (.ireturn, 1) := by decide +kernel
abbrev rm_X11_ways : Room := { frames := 6, cells := 0, slots := 0, locals := 144 }
def f_X11_ways (N : Nat) (σ : St) : Option (Int32 × St) := (if (σ.1 12404 0) = 0 then some ((-4), σ) else bd (f_X5_countWays 1 N σ) (fun r2_ σ2 => some (r2_, σ2)))
section
variable {p : Program} {l : Launch} {e : Env} {s : State} {m : MethodId} {args : Array Value} {below : List Frame} {meth : Method} {c : Code} {g : XG}
set_option maxRecDepth 4000 in
theorem m_X11_ways (N : Nat) (σ : St) {r : Int32} {σ' : St} (h : f_X11_ways N σ = some (r, σ')) : xM l KX g yX11_ways cX11_ways 1 (some .int) rm_X11_ways [.ref (g.q 0)] σ (some (.int r)) σ' := by
  refine xmet pn_X11 rfl (Nat.le_of_ble_eq_true rfl) (lv := [(0, .ref (g.q 0))]) rfl (fun p e s m args below meth c ls C hW hl => ?_)
  have hx := C.1
  have hb := C.2.1
  unfold f_X11_ways at h
  refine lv_aload_n hx hb dX11_ways_0 rfl (lv_at hl 0 rfl) ?_
  refine xg_r C hW fg_11_81 KX_0 rfl dX11_ways_1 ?_
  refine xg_i C hW fg_11_260 KX_57 rfl (v := 12404) rfl (x := σ.1 12404 0) rfl dX11_ways_4 ?_
  refine lv_if_ne (tgt := 13) hx hb dX11_ways_7 (by decide) (fun c1 => ?_) (fun c1 => ?_)
  · have h := xif c1 h
    refine lv_aload_n hx hb dX11_ways_13 rfl (lv_at hl 0 rfl) ?_
    refine xg_r C hW fg_11_81 KX_0 rfl dX11_ways_14 ?_
    refine lv_aload_n hx hb dX11_ways_17 rfl (lv_at hl 0 rfl) ?_
    refine xg_r C hW fg_11_19 KX_0 rfl dX11_ways_18 ?_
    obtain ⟨r2_, σ2, e2, h⟩ := xbd h
    refine xc_V (As := [.ref (g.q 1)]) (rest := []) C hW (m_X5_countWays 1 (Or.inl rfl) N _ e2) mf_X5_countWays mv_X5_countWays ml_X11_264 ⟨rfl, rfl⟩ ⟨Nat.le_of_ble_eq_true rfl, Nat.le_of_ble_eq_true rfl⟩ KX_57 rfl hl.1 rfl rfl (Nat.le_of_ble_eq_true rfl) dX11_ways_21 (fun H locs hW => W.eq (g2 := F0 m 24 ls [.int r2_]) rfl ?_)
    cases h
    exact xr_i C hW dX11_ways_24
  · have h := xit c1 h
    refine lv_bipush (v := (-4)) hx hb dX11_ways_10 rfl ?_
    cases h
    exact xr_i C hW dX11_ways_12
end
theorem dX11_isDay_0 : decode cX11_isDay 0 = .ok (.iload_n 0, 1) := by decide +kernel
theorem dX11_isDay_1 : decode cX11_isDay 1 = .ok (.ifCond .lt 14, 3) := by decide +kernel
theorem dX11_isDay_4 : decode cX11_isDay 4 = .ok (.iload_n 0, 1) := by decide +kernel
theorem dX11_isDay_5 : decode cX11_isDay 5 = .ok (.sipush 999, 3) := by decide +kernel
theorem dX11_isDay_8 : decode cX11_isDay 8 = .ok (.if_icmp .gt 7, 3) := by decide +kernel
theorem dX11_isDay_11 : decode cX11_isDay 11 = .ok (.iconst 1, 1) := by decide +kernel
theorem dX11_isDay_12 : decode cX11_isDay 12 = .ok (.goto 4, 3) := by decide +kernel
theorem dX11_isDay_15 : decode cX11_isDay 15 = .ok (.iconst 0, 1) := by decide +kernel
theorem dX11_isDay_16 : decode cX11_isDay 16 = .ok (.ireturn, 1) := by decide +kernel
abbrev rm_X11_isDay : Room := { frames := 0, cells := 0, slots := 0, locals := 0 }
def f_X11_isDay (x0 : Int32) (σ : St) : Int32 := (if x0 < 0 then 0 else (if 999 < x0 then 0 else 1))
section
variable {p : Program} {l : Launch} {e : Env} {s : State} {m : MethodId} {args : Array Value} {below : List Frame} {meth : Method} {c : Code} {g : XG}
set_option maxRecDepth 4000 in
theorem m_X11_isDay (x0 : Int32) (σ : St) {r : Int32} (h : f_X11_isDay x0 σ = r) : xM l KX g yX11_isDay cX11_isDay 1 (some .boolean) rm_X11_isDay [.int x0] σ (some (.int r)) σ := by
  refine xmet pn_X11 rfl (Nat.le_of_ble_eq_true rfl) (lv := [(0, .int x0)]) rfl (fun p e s m args below meth c ls C hW hl => ?_)
  have hx := C.1
  have hb := C.2.1
  unfold f_X11_isDay at h
  refine lv_iload_n hx hb dX11_isDay_0 rfl (lv_at hl 0 rfl) ?_
  refine lv_if_lt (tgt := 15) hx hb dX11_isDay_1 (by decide) (fun c1 => ?_) (fun c1 => ?_)
  · have h := xit c1 h
    refine lv_iconst (v := 0) hx hb dX11_isDay_15 rfl ?_
    cases h
    exact xr_z C hW (by decide) dX11_isDay_16
  · have h := xif c1 h
    refine lv_iload_n hx hb dX11_isDay_4 rfl (lv_at hl 0 rfl) ?_
    refine lv_sipush (v := 999) hx hb dX11_isDay_5 rfl ?_
    refine lv_icmp_gt (tgt := 15) hx hb dX11_isDay_8 (by decide) (fun c2 => ?_) (fun c2 => ?_)
    · have h := xit c2 h
      refine lv_iconst (v := 0) hx hb dX11_isDay_15 rfl ?_
      cases h
      exact xr_z C hW (by decide) dX11_isDay_16
    · have h := xif c2 h
      refine lv_iconst (v := 1) hx hb dX11_isDay_11 rfl ?_
      refine lv_goto (tgt := 16) hx hb dX11_isDay_12 (by decide) ?_
      cases h
      exact xr_z C hW (by decide) dX11_isDay_16
end
theorem dX11_waysOn_0 : decode cX11_waysOn 0 = .ok (.iload_n 1, 1) := by decide +kernel
theorem dX11_waysOn_1 : decode cX11_waysOn 1 = .ok (.invokestatic 268, 3) := by decide +kernel
theorem dX11_waysOn_4 : decode cX11_waysOn 4 = .ok (.ifCond .eq 10, 3) := by decide +kernel
theorem dX11_waysOn_7 : decode cX11_waysOn 7 = .ok (.iload_n 2, 1) := by decide +kernel
theorem dX11_waysOn_8 : decode cX11_waysOn 8 = .ok (.invokestatic 268, 3) := by decide +kernel
theorem dX11_waysOn_11 : decode cX11_waysOn 11 = .ok (.ifCond .ne 6, 3) := by decide +kernel
theorem dX11_waysOn_14 : decode cX11_waysOn 14 = .ok (.bipush (-2), 2) := by decide +kernel
theorem dX11_waysOn_16 : decode cX11_waysOn 16 = .ok (.ireturn, 1) := by decide +kernel
theorem dX11_waysOn_17 : decode cX11_waysOn 17 = .ok (.aload_n 0, 1) := by decide +kernel
theorem dX11_waysOn_18 : decode cX11_waysOn 18 = .ok (.getfield 81, 3) := by decide +kernel
theorem dX11_waysOn_21 : decode cX11_waysOn 21 = .ok (.getfield 260, 3) := by decide +kernel
theorem dX11_waysOn_24 : decode cX11_waysOn 24 = .ok (.ifCond .ne 6, 3) := by decide +kernel
theorem dX11_waysOn_27 : decode cX11_waysOn 27 = .ok (.bipush (-4), 2) := by decide +kernel
theorem dX11_waysOn_29 : decode cX11_waysOn 29 = .ok (.ireturn, 1) := by decide +kernel
theorem dX11_waysOn_30 : decode cX11_waysOn 30 = .ok (.aload_n 0, 1) := by decide +kernel
theorem dX11_waysOn_31 : decode cX11_waysOn 31 = .ok (.getfield 23, 3) := by decide +kernel
theorem dX11_waysOn_34 : decode cX11_waysOn 34 = .ok (.aload_n 0, 1) := by decide +kernel
theorem dX11_waysOn_35 : decode cX11_waysOn 35 = .ok (.getfield 19, 3) := by decide +kernel
theorem dX11_waysOn_38 : decode cX11_waysOn 38 = .ok (.invokevirtual 122, 3) := by decide +kernel
theorem dX11_waysOn_41 : decode cX11_waysOn 41 = .ok (.aload_n 0, 1) := by decide +kernel
theorem dX11_waysOn_42 : decode cX11_waysOn 42 = .ok (.getfield 97, 3) := by decide +kernel
theorem dX11_waysOn_45 : decode cX11_waysOn 45 = .ok (.aload_n 0, 1) := by decide +kernel
theorem dX11_waysOn_46 : decode cX11_waysOn 46 = .ok (.getfield 23, 3) := by decide +kernel
theorem dX11_waysOn_49 : decode cX11_waysOn 49 = .ok (.iload_n 1, 1) := by decide +kernel
theorem dX11_waysOn_50 : decode cX11_waysOn 50 = .ok (.iload_n 2, 1) := by decide +kernel
theorem dX11_waysOn_51 : decode cX11_waysOn 51 = .ok (.invokevirtual 271, 3) := by decide +kernel
theorem dX11_waysOn_54 : decode cX11_waysOn 54 = .ok (.aload_n 0, 1) := by decide +kernel
theorem dX11_waysOn_55 : decode cX11_waysOn 55 = .ok (.getfield 81, 3) := by decide +kernel
theorem dX11_waysOn_58 : decode cX11_waysOn 58 = .ok (.aload_n 0, 1) := by decide +kernel
theorem dX11_waysOn_59 : decode cX11_waysOn 59 = .ok (.getfield 23, 3) := by decide +kernel
theorem dX11_waysOn_62 : decode cX11_waysOn 62 = .ok (.invokevirtual 264, 3) := by decide +kernel
theorem dX11_waysOn_65 : decode cX11_waysOn 65 = .ok (.ireturn, 1) := by decide +kernel
abbrev rm_X11_waysOn : Room := { frames := 6, cells := 0, slots := 0, locals := 144 }
def f_X11_waysOn (N : Nat) (x1 : Int32) (x2 : Int32) (σ : St) : Option (Int32 × St) := (if (f_X11_isDay x1 σ) = 0 then some ((-2), σ) else (if (f_X11_isDay x2 σ) = 0 then some ((-2), σ) else (if (σ.1 12404 0) = 0 then some ((-4), σ) else bo (f_X6_become 2 1 σ) (fun σ4 => bo (f_X10_applyTo 2 N x1 x2 σ4) (fun σ5 => bd (f_X5_countWays 2 N σ5) (fun r6_ σ6 => some (r6_, σ6)))))))
section
variable {p : Program} {l : Launch} {e : Env} {s : State} {m : MethodId} {args : Array Value} {below : List Frame} {meth : Method} {c : Code} {g : XG}
set_option maxRecDepth 4000 in
theorem m_X11_waysOn (N : Nat) (x1 : Int32) (x2 : Int32) (σ : St) {r : Int32} {σ' : St} (h : f_X11_waysOn N x1 x2 σ = some (r, σ')) : xM l KX g yX11_waysOn cX11_waysOn 3 (some .int) rm_X11_waysOn [.ref (g.q 0), .int x1, .int x2] σ (some (.int r)) σ' := by
  refine xmet pn_X11 rfl (Nat.le_of_ble_eq_true rfl) (lv := [(0, .ref (g.q 0)), (1, .int x1), (2, .int x2)]) rfl (fun p e s m args below meth c ls C hW hl => ?_)
  have hx := C.1
  have hb := C.2.1
  unfold f_X11_waysOn at h
  refine lv_iload_n hx hb dX11_waysOn_0 rfl (lv_at hl 1 rfl) ?_
  refine xc_S (As := [.int x1]) (rest := []) C hW (m_X11_isDay x1 _ rfl) mf_X11_isDay mt_X11_isDay ml_X11_268 ⟨rfl, rfl⟩ ⟨Nat.le_of_ble_eq_true rfl, Nat.le_of_ble_eq_true rfl⟩ hl.1 rfl rfl (Nat.le_of_ble_eq_true rfl) dX11_waysOn_1 (fun H locs hW => W.eq (g2 := F0 m 4 ls [.int (f_X11_isDay x1 σ)]) rfl ?_)
  refine lv_if_eq (tgt := 14) hx hb dX11_waysOn_4 (by decide) (fun c1 => ?_) (fun c1 => ?_)
  · have h := xit c1 h
    refine lv_bipush (v := (-2)) hx hb dX11_waysOn_14 rfl ?_
    cases h
    exact xr_i C hW dX11_waysOn_16
  · have h := xif c1 h
    refine lv_iload_n hx hb dX11_waysOn_7 rfl (lv_at hl 2 rfl) ?_
    refine xc_S (As := [.int x2]) (rest := []) C hW (m_X11_isDay x2 _ rfl) mf_X11_isDay mt_X11_isDay ml_X11_268 ⟨rfl, rfl⟩ ⟨Nat.le_of_ble_eq_true rfl, Nat.le_of_ble_eq_true rfl⟩ hl.1 rfl rfl (Nat.le_of_ble_eq_true rfl) dX11_waysOn_8 (fun H locs hW => W.eq (g2 := F0 m 11 ls [.int (f_X11_isDay x2 σ)]) rfl ?_)
    refine lv_if_ne (tgt := 17) hx hb dX11_waysOn_11 (by decide) (fun c2 => ?_) (fun c2 => ?_)
    · have h := xif c2 h
      refine lv_aload_n hx hb dX11_waysOn_17 rfl (lv_at hl 0 rfl) ?_
      refine xg_r C hW fg_11_81 KX_0 rfl dX11_waysOn_18 ?_
      refine xg_i C hW fg_11_260 KX_57 rfl (v := 12404) rfl (x := σ.1 12404 0) rfl dX11_waysOn_21 ?_
      refine lv_if_ne (tgt := 30) hx hb dX11_waysOn_24 (by decide) (fun c3 => ?_) (fun c3 => ?_)
      · have h := xif c3 h
        refine lv_aload_n hx hb dX11_waysOn_30 rfl (lv_at hl 0 rfl) ?_
        refine xg_r C hW fg_11_23 KX_0 rfl dX11_waysOn_31 ?_
        refine lv_aload_n hx hb dX11_waysOn_34 rfl (lv_at hl 0 rfl) ?_
        refine xg_r C hW fg_11_19 KX_0 rfl dX11_waysOn_35 ?_
        obtain ⟨σ4, e4, h⟩ := xbo h
        refine xc_V (As := [.ref (g.q 1)]) (rest := []) C hW (m_X6_become 2 (Or.inr rfl) 1 (Or.inl rfl) _ e4) mf_X6_become mv_X6_become ml_X11_122 ⟨rfl, rfl⟩ ⟨Nat.le_of_ble_eq_true rfl, Nat.le_of_ble_eq_true rfl⟩ (KX_sl (Or.inr rfl)) rfl hl.1 rfl rfl (Nat.le_of_ble_eq_true rfl) dX11_waysOn_38 (fun H locs hW => W.eq (g2 := F0 m 41 ls []) rfl ?_)
        refine lv_aload_n hx hb dX11_waysOn_41 rfl (lv_at hl 0 rfl) ?_
        refine xg_r C hW fg_11_97 KX_0 rfl dX11_waysOn_42 ?_
        refine lv_aload_n hx hb dX11_waysOn_45 rfl (lv_at hl 0 rfl) ?_
        refine xg_r C hW fg_11_23 KX_0 rfl dX11_waysOn_46 ?_
        refine lv_iload_n hx hb dX11_waysOn_49 rfl (lv_at hl 1 rfl) ?_
        refine lv_iload_n hx hb dX11_waysOn_50 rfl (lv_at hl 2 rfl) ?_
        obtain ⟨σ5, e5, h⟩ := xbo h
        refine xc_V (As := [.ref (g.q 2), .int x1, .int x2]) (rest := []) C hW (m_X10_applyTo 2 (Or.inr rfl) N x1 x2 _ e5) mf_X10_applyTo mv_X10_applyTo ml_X11_271 ⟨rfl, rfl⟩ ⟨Nat.le_of_ble_eq_true rfl, Nat.le_of_ble_eq_true rfl⟩ KX_73 rfl hl.1 rfl rfl (Nat.le_of_ble_eq_true rfl) dX11_waysOn_51 (fun H locs hW => W.eq (g2 := F0 m 54 ls []) rfl ?_)
        refine lv_aload_n hx hb dX11_waysOn_54 rfl (lv_at hl 0 rfl) ?_
        refine xg_r C hW fg_11_81 KX_0 rfl dX11_waysOn_55 ?_
        refine lv_aload_n hx hb dX11_waysOn_58 rfl (lv_at hl 0 rfl) ?_
        refine xg_r C hW fg_11_23 KX_0 rfl dX11_waysOn_59 ?_
        obtain ⟨r6_, σ6, e6, h⟩ := xbd h
        refine xc_V (As := [.ref (g.q 2)]) (rest := []) C hW (m_X5_countWays 2 (Or.inr rfl) N _ e6) mf_X5_countWays mv_X5_countWays ml_X11_264 ⟨rfl, rfl⟩ ⟨Nat.le_of_ble_eq_true rfl, Nat.le_of_ble_eq_true rfl⟩ KX_57 rfl hl.1 rfl rfl (Nat.le_of_ble_eq_true rfl) dX11_waysOn_62 (fun H locs hW => W.eq (g2 := F0 m 65 ls [.int r6_]) rfl ?_)
        cases h
        exact xr_i C hW dX11_waysOn_65
      · have h := xit c3 h
        refine lv_bipush (v := (-4)) hx hb dX11_waysOn_27 rfl ?_
        cases h
        exact xr_i C hW dX11_waysOn_29
    · have h := xit c2 h
      refine lv_bipush (v := (-2)) hx hb dX11_waysOn_14 rfl ?_
      cases h
      exact xr_i C hW dX11_waysOn_16
end
theorem dX11_read_0 : decode cX11_read 0 = .ok (.aload_n 0, 1) := by decide +kernel
theorem dX11_read_1 : decode cX11_read 1 = .ok (.getfield 81, 3) := by decide +kernel
theorem dX11_read_4 : decode cX11_read 4 = .ok (.getfield 260, 3) := by decide +kernel
theorem dX11_read_7 : decode cX11_read 7 = .ok (.ifCond .ne 6, 3) := by decide +kernel
theorem dX11_read_10 : decode cX11_read 10 = .ok (.bipush (-4), 2) := by decide +kernel
theorem dX11_read_12 : decode cX11_read 12 = .ok (.ireturn, 1) := by decide +kernel
theorem dX11_read_13 : decode cX11_read 13 = .ok (.aload_n 0, 1) := by decide +kernel
theorem dX11_read_14 : decode cX11_read 14 = .ok (.getfield 81, 3) := by decide +kernel
theorem dX11_read_17 : decode cX11_read 17 = .ok (.invokevirtual 275, 3) := by decide +kernel
theorem dX11_read_20 : decode cX11_read 20 = .ok (.ireturn, 1) := by decide +kernel
abbrev rm_X11_read : Room := { frames := 7, cells := 0, slots := 0, locals := 161 }
def f_X11_read (N : Nat) (σ : St) : Option (Int32 × St) := (if (σ.1 12404 0) = 0 then some ((-4), σ) else bd (f_X5_findFirstWay N σ) (fun r2_ σ2 => some (r2_, σ2)))
section
variable {p : Program} {l : Launch} {e : Env} {s : State} {m : MethodId} {args : Array Value} {below : List Frame} {meth : Method} {c : Code} {g : XG}
set_option maxRecDepth 4000 in
theorem m_X11_read (N : Nat) (σ : St) {r : Int32} {σ' : St} (h : f_X11_read N σ = some (r, σ')) : xM l KX g yX11_read cX11_read 1 (some .int) rm_X11_read [.ref (g.q 0)] σ (some (.int r)) σ' := by
  refine xmet pn_X11 rfl (Nat.le_of_ble_eq_true rfl) (lv := [(0, .ref (g.q 0))]) rfl (fun p e s m args below meth c ls C hW hl => ?_)
  have hx := C.1
  have hb := C.2.1
  unfold f_X11_read at h
  refine lv_aload_n hx hb dX11_read_0 rfl (lv_at hl 0 rfl) ?_
  refine xg_r C hW fg_11_81 KX_0 rfl dX11_read_1 ?_
  refine xg_i C hW fg_11_260 KX_57 rfl (v := 12404) rfl (x := σ.1 12404 0) rfl dX11_read_4 ?_
  refine lv_if_ne (tgt := 13) hx hb dX11_read_7 (by decide) (fun c1 => ?_) (fun c1 => ?_)
  · have h := xif c1 h
    refine lv_aload_n hx hb dX11_read_13 rfl (lv_at hl 0 rfl) ?_
    refine xg_r C hW fg_11_81 KX_0 rfl dX11_read_14 ?_
    obtain ⟨r2_, σ2, e2, h⟩ := xbd h
    refine xc_V (As := []) (rest := []) C hW (m_X5_findFirstWay N _ e2) mf_X5_findFirstWay mv_X5_findFirstWay ml_X11_275 ⟨rfl, rfl⟩ ⟨Nat.le_of_ble_eq_true rfl, Nat.le_of_ble_eq_true rfl⟩ KX_57 rfl hl.1 rfl rfl (Nat.le_of_ble_eq_true rfl) dX11_read_17 (fun H locs hW => W.eq (g2 := F0 m 20 ls [.int r2_]) rfl ?_)
    cases h
    exact xr_i C hW dX11_read_20
  · have h := xit c1 h
    refine lv_bipush (v := (-4)) hx hb dX11_read_10 rfl ?_
    cases h
    exact xr_i C hW dX11_read_12
end
theorem dX11_readTerm_0 : decode cX11_readTerm 0 = .ok (.iload_n 1, 1) := by decide +kernel
theorem dX11_readTerm_1 : decode cX11_readTerm 1 = .ok (.ifCond .lt 14, 3) := by decide +kernel
theorem dX11_readTerm_4 : decode cX11_readTerm 4 = .ok (.iload_n 1, 1) := by decide +kernel
theorem dX11_readTerm_5 : decode cX11_readTerm 5 = .ok (.aload_n 0, 1) := by decide +kernel
theorem dX11_readTerm_6 : decode cX11_readTerm 6 = .ok (.getfield 81, 3) := by decide +kernel
theorem dX11_readTerm_9 : decode cX11_readTerm 9 = .ok (.getfield 279, 3) := by decide +kernel
theorem dX11_readTerm_12 : decode cX11_readTerm 12 = .ok (.if_icmp .lt 5, 3) := by decide +kernel
theorem dX11_readTerm_15 : decode cX11_readTerm 15 = .ok (.iconst (-1), 1) := by decide +kernel
theorem dX11_readTerm_16 : decode cX11_readTerm 16 = .ok (.ireturn, 1) := by decide +kernel
theorem dX11_readTerm_17 : decode cX11_readTerm 17 = .ok (.iload_n 2, 1) := by decide +kernel
theorem dX11_readTerm_18 : decode cX11_readTerm 18 = .ok (.ifCond .ne 13, 3) := by decide +kernel
theorem dX11_readTerm_21 : decode cX11_readTerm 21 = .ok (.aload_n 0, 1) := by decide +kernel
theorem dX11_readTerm_22 : decode cX11_readTerm 22 = .ok (.getfield 81, 3) := by decide +kernel
theorem dX11_readTerm_25 : decode cX11_readTerm 25 = .ok (.getfield 282, 3) := by decide +kernel
theorem dX11_readTerm_28 : decode cX11_readTerm 28 = .ok (.iload_n 1, 1) := by decide +kernel
theorem dX11_readTerm_29 : decode cX11_readTerm 29 = .ok (.iaload, 1) := by decide +kernel
theorem dX11_readTerm_30 : decode cX11_readTerm 30 = .ok (.ireturn, 1) := by decide +kernel
theorem dX11_readTerm_31 : decode cX11_readTerm 31 = .ok (.iload_n 2, 1) := by decide +kernel
theorem dX11_readTerm_32 : decode cX11_readTerm 32 = .ok (.iconst 1, 1) := by decide +kernel
theorem dX11_readTerm_33 : decode cX11_readTerm 33 = .ok (.if_icmp .ne 15, 3) := by decide +kernel
theorem dX11_readTerm_36 : decode cX11_readTerm 36 = .ok (.aload_n 0, 1) := by decide +kernel
theorem dX11_readTerm_37 : decode cX11_readTerm 37 = .ok (.getfield 81, 3) := by decide +kernel
theorem dX11_readTerm_40 : decode cX11_readTerm 40 = .ok (.getfield 285, 3) := by decide +kernel
theorem dX11_readTerm_43 : decode cX11_readTerm 43 = .ok (.iload_n 1, 1) := by decide +kernel
theorem dX11_readTerm_44 : decode cX11_readTerm 44 = .ok (.iaload, 1) := by decide +kernel
theorem dX11_readTerm_45 : decode cX11_readTerm 45 = .ok (.goto 4, 3) := by decide +kernel
theorem dX11_readTerm_48 : decode cX11_readTerm 48 = .ok (.iconst (-1), 1) := by decide +kernel
theorem dX11_readTerm_49 : decode cX11_readTerm 49 = .ok (.ireturn, 1) := by decide +kernel
abbrev rm_X11_readTerm : Room := { frames := 0, cells := 0, slots := 0, locals := 0 }
def f_X11_readTerm (x1 : Int32) (x2 : Int32) (σ : St) : Option Int32 := (if x1 < 0 then some ((-1)) else (if x1 < (σ.1 12411 0) then (if x2 = 0 then grd (ib x1 24) (some (σ.1 65 x1.toNatClampNeg)) else (if x2 = 1 then grd (ib x1 24) (some (σ.1 66 x1.toNatClampNeg)) else some ((-1)))) else some ((-1))))
section
variable {p : Program} {l : Launch} {e : Env} {s : State} {m : MethodId} {args : Array Value} {below : List Frame} {meth : Method} {c : Code} {g : XG}
set_option maxRecDepth 4000 in
theorem m_X11_readTerm (x1 : Int32) (x2 : Int32) (σ : St) {r : Int32} (h : f_X11_readTerm x1 x2 σ = some r) : xM l KX g yX11_readTerm cX11_readTerm 3 (some .int) rm_X11_readTerm [.ref (g.q 0), .int x1, .int x2] σ (some (.int r)) σ := by
  refine xmet pn_X11 rfl (Nat.le_of_ble_eq_true rfl) (lv := [(0, .ref (g.q 0)), (1, .int x1), (2, .int x2)]) rfl (fun p e s m args below meth c ls C hW hl => ?_)
  have hx := C.1
  have hb := C.2.1
  unfold f_X11_readTerm at h
  refine lv_iload_n hx hb dX11_readTerm_0 rfl (lv_at hl 1 rfl) ?_
  refine lv_if_lt (tgt := 15) hx hb dX11_readTerm_1 (by decide) (fun c1 => ?_) (fun c1 => ?_)
  · have h := xit c1 h
    refine lv_iconst (v := (-1)) hx hb dX11_readTerm_15 rfl ?_
    cases h
    exact xr_i C hW dX11_readTerm_16
  · have h := xif c1 h
    refine lv_iload_n hx hb dX11_readTerm_4 rfl (lv_at hl 1 rfl) ?_
    refine lv_aload_n hx hb dX11_readTerm_5 rfl (lv_at hl 0 rfl) ?_
    refine xg_r C hW fg_11_81 KX_0 rfl dX11_readTerm_6 ?_
    refine xg_i C hW fg_11_279 KX_57 rfl (v := 12411) rfl (x := σ.1 12411 0) rfl dX11_readTerm_9 ?_
    refine lv_icmp_lt (tgt := 17) hx hb dX11_readTerm_12 (by decide) (fun c2 => ?_) (fun c2 => ?_)
    · have h := xit c2 h
      refine lv_iload_n hx hb dX11_readTerm_17 rfl (lv_at hl 2 rfl) ?_
      refine lv_if_ne (tgt := 31) hx hb dX11_readTerm_18 (by decide) (fun c3 => ?_) (fun c3 => ?_)
      · have h := xif c3 h
        refine lv_iload_n hx hb dX11_readTerm_31 rfl (lv_at hl 2 rfl) ?_
        refine lv_iconst (v := 1) hx hb dX11_readTerm_32 rfl ?_
        refine lv_icmp_ne (tgt := 48) hx hb dX11_readTerm_33 (by decide) (fun c4 => ?_) (fun c4 => ?_)
        · have h := xif c4 h
          refine lv_iconst (v := (-1)) hx hb dX11_readTerm_48 rfl ?_
          cases h
          exact xr_i C hW dX11_readTerm_49
        · have h := xit c4 h
          refine lv_aload_n hx hb dX11_readTerm_36 rfl (lv_at hl 0 rfl) ?_
          refine xg_r C hW fg_11_81 KX_0 rfl dX11_readTerm_37 ?_
          refine xg_r C hW fg_11_285 KX_57 rfl dX11_readTerm_40 ?_
          refine lv_iload_n hx hb dX11_readTerm_43 rfl (lv_at hl 1 rfl) ?_
          obtain ⟨g5, h⟩ := xgd h
          refine xa_i C hW KX_66 g5 (x := σ.1 66 x1.toNatClampNeg) rfl dX11_readTerm_44 ?_
          refine lv_goto (tgt := 49) hx hb dX11_readTerm_45 (by decide) ?_
          cases h
          exact xr_i C hW dX11_readTerm_49
      · have h := xit c3 h
        refine lv_aload_n hx hb dX11_readTerm_21 rfl (lv_at hl 0 rfl) ?_
        refine xg_r C hW fg_11_81 KX_0 rfl dX11_readTerm_22 ?_
        refine xg_r C hW fg_11_282 KX_57 rfl dX11_readTerm_25 ?_
        refine lv_iload_n hx hb dX11_readTerm_28 rfl (lv_at hl 1 rfl) ?_
        obtain ⟨g6, h⟩ := xgd h
        refine xa_i C hW KX_65 g6 (x := σ.1 65 x1.toNatClampNeg) rfl dX11_readTerm_29 ?_
        cases h
        exact xr_i C hW dX11_readTerm_30
    · have h := xif c2 h
      refine lv_iconst (v := (-1)) hx hb dX11_readTerm_15 rfl ?_
      cases h
      exact xr_i C hW dX11_readTerm_16
end
theorem dX11_spells_0 : decode cX11_spells 0 = .ok (.aload_n 0, 1) := by decide +kernel
theorem dX11_spells_1 : decode cX11_spells 1 = .ok (.getfield 47, 3) := by decide +kernel
theorem dX11_spells_4 : decode cX11_spells 4 = .ok (.iload_n 1, 1) := by decide +kernel
theorem dX11_spells_5 : decode cX11_spells 5 = .ok (.invokevirtual 243, 3) := by decide +kernel
theorem dX11_spells_8 : decode cX11_spells 8 = .ok (.ifCond .ne 6, 3) := by decide +kernel
theorem dX11_spells_11 : decode cX11_spells 11 = .ok (.bipush (-2), 2) := by decide +kernel
theorem dX11_spells_13 : decode cX11_spells 13 = .ok (.ireturn, 1) := by decide +kernel
theorem dX11_spells_14 : decode cX11_spells 14 = .ok (.aload_n 0, 1) := by decide +kernel
theorem dX11_spells_15 : decode cX11_spells 15 = .ok (.getfield 81, 3) := by decide +kernel
theorem dX11_spells_18 : decode cX11_spells 18 = .ok (.getfield 260, 3) := by decide +kernel
theorem dX11_spells_21 : decode cX11_spells 21 = .ok (.ifCond .ne 6, 3) := by decide +kernel
theorem dX11_spells_24 : decode cX11_spells 24 = .ok (.bipush (-4), 2) := by decide +kernel
theorem dX11_spells_26 : decode cX11_spells 26 = .ok (.ireturn, 1) := by decide +kernel
theorem dX11_spells_27 : decode cX11_spells 27 = .ok (.aload_n 0, 1) := by decide +kernel
theorem dX11_spells_28 : decode cX11_spells 28 = .ok (.getfield 81, 3) := by decide +kernel
theorem dX11_spells_31 : decode cX11_spells 31 = .ok (.iload_n 1, 1) := by decide +kernel
theorem dX11_spells_32 : decode cX11_spells 32 = .ok (.invokevirtual 288, 3) := by decide +kernel
theorem dX11_spells_35 : decode cX11_spells 35 = .ok (.ifCond .eq 7, 3) := by decide +kernel
theorem dX11_spells_38 : decode cX11_spells 38 = .ok (.iconst 1, 1) := by decide +kernel
theorem dX11_spells_39 : decode cX11_spells 39 = .ok (.goto 4, 3) := by decide +kernel
theorem dX11_spells_42 : decode cX11_spells 42 = .ok (.iconst 0, 1) := by decide +kernel
theorem dX11_spells_43 : decode cX11_spells 43 = .ok (.ireturn, 1) := by decide +kernel
abbrev rm_X11_spells : Room := { frames := 6, cells := 0, slots := 0, locals := 140 }
def f_X11_spells (N : Nat) (x1 : Int32) (σ : St) : Option (Int32 × St) := (if (f_X9_has x1 σ) = 0 then some ((-2), σ) else (if (σ.1 12404 0) = 0 then some ((-4), σ) else bd (f_X5_isSpellingOf N x1 σ) (fun r3_ σ3 => (if r3_ = 0 then some (0, σ3) else some (1, σ3)))))
section
variable {p : Program} {l : Launch} {e : Env} {s : State} {m : MethodId} {args : Array Value} {below : List Frame} {meth : Method} {c : Code} {g : XG}
set_option maxRecDepth 4000 in
theorem m_X11_spells (N : Nat) (x1 : Int32) (σ : St) {r : Int32} {σ' : St} (h : f_X11_spells N x1 σ = some (r, σ')) : xM l KX g yX11_spells cX11_spells 2 (some .int) rm_X11_spells [.ref (g.q 0), .int x1] σ (some (.int r)) σ' := by
  refine xmet pn_X11 rfl (Nat.le_of_ble_eq_true rfl) (lv := [(0, .ref (g.q 0)), (1, .int x1)]) rfl (fun p e s m args below meth c ls C hW hl => ?_)
  have hx := C.1
  have hb := C.2.1
  unfold f_X11_spells at h
  refine lv_aload_n hx hb dX11_spells_0 rfl (lv_at hl 0 rfl) ?_
  refine xg_r C hW fg_11_47 KX_0 rfl dX11_spells_1 ?_
  refine lv_iload_n hx hb dX11_spells_4 rfl (lv_at hl 1 rfl) ?_
  refine xc_V (As := [.int x1]) (rest := []) C hW (m_X9_has x1 _ rfl) mf_X9_has mv_X9_has ml_X11_243 ⟨rfl, rfl⟩ ⟨Nat.le_of_ble_eq_true rfl, Nat.le_of_ble_eq_true rfl⟩ KX_33 rfl hl.1 rfl rfl (Nat.le_of_ble_eq_true rfl) dX11_spells_5 (fun H locs hW => W.eq (g2 := F0 m 8 ls [.int (f_X9_has x1 σ)]) rfl ?_)
  refine lv_if_ne (tgt := 14) hx hb dX11_spells_8 (by decide) (fun c1 => ?_) (fun c1 => ?_)
  · have h := xif c1 h
    refine lv_aload_n hx hb dX11_spells_14 rfl (lv_at hl 0 rfl) ?_
    refine xg_r C hW fg_11_81 KX_0 rfl dX11_spells_15 ?_
    refine xg_i C hW fg_11_260 KX_57 rfl (v := 12404) rfl (x := σ.1 12404 0) rfl dX11_spells_18 ?_
    refine lv_if_ne (tgt := 27) hx hb dX11_spells_21 (by decide) (fun c2 => ?_) (fun c2 => ?_)
    · have h := xif c2 h
      refine lv_aload_n hx hb dX11_spells_27 rfl (lv_at hl 0 rfl) ?_
      refine xg_r C hW fg_11_81 KX_0 rfl dX11_spells_28 ?_
      refine lv_iload_n hx hb dX11_spells_31 rfl (lv_at hl 1 rfl) ?_
      obtain ⟨r3_, σ3, e3, h⟩ := xbd h
      refine xc_V (As := [.int x1]) (rest := []) C hW (m_X5_isSpellingOf N x1 _ e3) mf_X5_isSpellingOf mv_X5_isSpellingOf ml_X11_288 ⟨rfl, rfl⟩ ⟨Nat.le_of_ble_eq_true rfl, Nat.le_of_ble_eq_true rfl⟩ KX_57 rfl hl.1 rfl rfl (Nat.le_of_ble_eq_true rfl) dX11_spells_32 (fun H locs hW => W.eq (g2 := F0 m 35 ls [.int r3_]) rfl ?_)
      refine lv_if_eq (tgt := 42) hx hb dX11_spells_35 (by decide) (fun c4 => ?_) (fun c4 => ?_)
      · have h := xit c4 h
        refine lv_iconst (v := 0) hx hb dX11_spells_42 rfl ?_
        cases h
        exact xr_i C hW dX11_spells_43
      · have h := xif c4 h
        refine lv_iconst (v := 1) hx hb dX11_spells_38 rfl ?_
        refine lv_goto (tgt := 43) hx hb dX11_spells_39 (by decide) ?_
        cases h
        exact xr_i C hW dX11_spells_43
    · have h := xit c2 h
      refine lv_bipush (v := (-4)) hx hb dX11_spells_24 rfl ?_
      cases h
      exact xr_i C hW dX11_spells_26
  · have h := xit c1 h
    refine lv_bipush (v := (-2)) hx hb dX11_spells_11 rfl ?_
    cases h
    exact xr_i C hW dX11_spells_13
end
theorem dX11_group_0 : decode cX11_group 0 = .ok (.aload_n 0, 1) := by decide +kernel
theorem dX11_group_1 : decode cX11_group 1 = .ok (.getfield 81, 3) := by decide +kernel
theorem dX11_group_4 : decode cX11_group 4 = .ok (.getfield 260, 3) := by decide +kernel
theorem dX11_group_7 : decode cX11_group 7 = .ok (.ifCond .ne 6, 3) := by decide +kernel
theorem dX11_group_10 : decode cX11_group 10 = .ok (.bipush (-4), 2) := by decide +kernel
theorem dX11_group_12 : decode cX11_group 12 = .ok (.ireturn, 1) := by decide +kernel
theorem dX11_group_13 : decode cX11_group 13 = .ok (.aload_n 0, 1) := by decide +kernel
theorem dX11_group_14 : decode cX11_group 14 = .ok (.getfield 63, 3) := by decide +kernel
theorem dX11_group_17 : decode cX11_group 17 = .ok (.aload_n 0, 1) := by decide +kernel
theorem dX11_group_18 : decode cX11_group 18 = .ok (.getfield 81, 3) := by decide +kernel
theorem dX11_group_21 : decode cX11_group 21 = .ok (.getfield 261, 3) := by decide +kernel
theorem dX11_group_24 : decode cX11_group 24 = .ok (.aload_n 0, 1) := by decide +kernel
theorem dX11_group_25 : decode cX11_group 25 = .ok (.getfield 81, 3) := by decide +kernel
theorem dX11_group_28 : decode cX11_group 28 = .ok (.getfield 260, 3) := by decide +kernel
theorem dX11_group_31 : decode cX11_group 31 = .ok (.invokevirtual 291, 3) := by decide +kernel
theorem dX11_group_34 : decode cX11_group 34 = .ok (.ireturn, 1) := by decide +kernel
abbrev rm_X11_group : Room := { frames := 4, cells := 0, slots := 0, locals := 144 }
def f_X11_group (N : Nat) (σ : St) : Option (Int32 × St) := (if (σ.1 12404 0) = 0 then some ((-4), σ) else bd (f_X3_arrange 58 24 N (σ.1 12404 0) σ) (fun r2_ σ2 => some (r2_, σ2)))
section
variable {p : Program} {l : Launch} {e : Env} {s : State} {m : MethodId} {args : Array Value} {below : List Frame} {meth : Method} {c : Code} {g : XG}
set_option maxRecDepth 4000 in
theorem m_X11_group (N : Nat) (σ : St) {r : Int32} {σ' : St} (h : f_X11_group N σ = some (r, σ')) : xM l KX g yX11_group cX11_group 1 (some .int) rm_X11_group [.ref (g.q 0)] σ (some (.int r)) σ' := by
  refine xmet pn_X11 rfl (Nat.le_of_ble_eq_true rfl) (lv := [(0, .ref (g.q 0))]) rfl (fun p e s m args below meth c ls C hW hl => ?_)
  have hx := C.1
  have hb := C.2.1
  unfold f_X11_group at h
  refine lv_aload_n hx hb dX11_group_0 rfl (lv_at hl 0 rfl) ?_
  refine xg_r C hW fg_11_81 KX_0 rfl dX11_group_1 ?_
  refine xg_i C hW fg_11_260 KX_57 rfl (v := 12404) rfl (x := σ.1 12404 0) rfl dX11_group_4 ?_
  refine lv_if_ne (tgt := 13) hx hb dX11_group_7 (by decide) (fun c1 => ?_) (fun c1 => ?_)
  · have h := xif c1 h
    refine lv_aload_n hx hb dX11_group_13 rfl (lv_at hl 0 rfl) ?_
    refine xg_r C hW fg_11_63 KX_0 rfl dX11_group_14 ?_
    refine lv_aload_n hx hb dX11_group_17 rfl (lv_at hl 0 rfl) ?_
    refine xg_r C hW fg_11_81 KX_0 rfl dX11_group_18 ?_
    refine xg_r C hW fg_11_261 KX_57 rfl dX11_group_21 ?_
    refine lv_aload_n hx hb dX11_group_24 rfl (lv_at hl 0 rfl) ?_
    refine xg_r C hW fg_11_81 KX_0 rfl dX11_group_25 ?_
    refine xg_i C hW fg_11_260 KX_57 rfl (v := 12404) rfl (x := σ.1 12404 0) rfl dX11_group_28 ?_
    obtain ⟨r2_, σ2, e2, h⟩ := xbd h
    refine xc_V (As := [.ref (g.q 58), .int (σ.1 12404 0)]) (rest := []) C hW (m_X3_arrange 58 24 KX_58 N (σ.1 12404 0) _ e2) mf_X3_arrange mv_X3_arrange ml_X11_291 ⟨rfl, rfl⟩ ⟨Nat.le_of_ble_eq_true rfl, Nat.le_of_ble_eq_true rfl⟩ KX_40 rfl hl.1 rfl rfl (Nat.le_of_ble_eq_true rfl) dX11_group_31 (fun H locs hW => W.eq (g2 := F0 m 34 ls [.int r2_]) rfl ?_)
    cases h
    exact xr_i C hW dX11_group_34
  · have h := xit c1 h
    refine lv_bipush (v := (-4)) hx hb dX11_group_10 rfl ?_
    cases h
    exact xr_i C hW dX11_group_12
end
theorem dX11_grouped_0 : decode cX11_grouped 0 = .ok (.iload_n 1, 1) := by decide +kernel
theorem dX11_grouped_1 : decode cX11_grouped 1 = .ok (.ifCond .lt 14, 3) := by decide +kernel
theorem dX11_grouped_4 : decode cX11_grouped 4 = .ok (.iload_n 1, 1) := by decide +kernel
theorem dX11_grouped_5 : decode cX11_grouped 5 = .ok (.aload_n 0, 1) := by decide +kernel
theorem dX11_grouped_6 : decode cX11_grouped 6 = .ok (.getfield 63, 3) := by decide +kernel
theorem dX11_grouped_9 : decode cX11_grouped 9 = .ok (.getfield 295, 3) := by decide +kernel
theorem dX11_grouped_12 : decode cX11_grouped 12 = .ok (.if_icmp .lt 5, 3) := by decide +kernel
theorem dX11_grouped_15 : decode cX11_grouped 15 = .ok (.iconst (-1), 1) := by decide +kernel
theorem dX11_grouped_16 : decode cX11_grouped 16 = .ok (.ireturn, 1) := by decide +kernel
theorem dX11_grouped_17 : decode cX11_grouped 17 = .ok (.iload_n 2, 1) := by decide +kernel
theorem dX11_grouped_18 : decode cX11_grouped 18 = .ok (.ifCond .ne 13, 3) := by decide +kernel
theorem dX11_grouped_21 : decode cX11_grouped 21 = .ok (.aload_n 0, 1) := by decide +kernel
theorem dX11_grouped_22 : decode cX11_grouped 22 = .ok (.getfield 63, 3) := by decide +kernel
theorem dX11_grouped_25 : decode cX11_grouped 25 = .ok (.getfield 298, 3) := by decide +kernel
theorem dX11_grouped_28 : decode cX11_grouped 28 = .ok (.iload_n 1, 1) := by decide +kernel
theorem dX11_grouped_29 : decode cX11_grouped 29 = .ok (.iaload, 1) := by decide +kernel
theorem dX11_grouped_30 : decode cX11_grouped 30 = .ok (.ireturn, 1) := by decide +kernel
theorem dX11_grouped_31 : decode cX11_grouped 31 = .ok (.iload_n 2, 1) := by decide +kernel
theorem dX11_grouped_32 : decode cX11_grouped 32 = .ok (.iconst 1, 1) := by decide +kernel
theorem dX11_grouped_33 : decode cX11_grouped 33 = .ok (.if_icmp .ne 15, 3) := by decide +kernel
theorem dX11_grouped_36 : decode cX11_grouped 36 = .ok (.aload_n 0, 1) := by decide +kernel
theorem dX11_grouped_37 : decode cX11_grouped 37 = .ok (.getfield 63, 3) := by decide +kernel
theorem dX11_grouped_40 : decode cX11_grouped 40 = .ok (.getfield 301, 3) := by decide +kernel
theorem dX11_grouped_43 : decode cX11_grouped 43 = .ok (.iload_n 1, 1) := by decide +kernel
theorem dX11_grouped_44 : decode cX11_grouped 44 = .ok (.iaload, 1) := by decide +kernel
theorem dX11_grouped_45 : decode cX11_grouped 45 = .ok (.goto 4, 3) := by decide +kernel
theorem dX11_grouped_48 : decode cX11_grouped 48 = .ok (.iconst (-1), 1) := by decide +kernel
theorem dX11_grouped_49 : decode cX11_grouped 49 = .ok (.ireturn, 1) := by decide +kernel
abbrev rm_X11_grouped : Room := { frames := 0, cells := 0, slots := 0, locals := 0 }
def f_X11_grouped (x1 : Int32) (x2 : Int32) (σ : St) : Option Int32 := (if x1 < 0 then some ((-1)) else (if x1 < (σ.1 9004 0) then (if x2 = 0 then grd (ib x1 24) (some (σ.1 44 x1.toNatClampNeg)) else (if x2 = 1 then grd (ib x1 24) (some (σ.1 45 x1.toNatClampNeg)) else some ((-1)))) else some ((-1))))
section
variable {p : Program} {l : Launch} {e : Env} {s : State} {m : MethodId} {args : Array Value} {below : List Frame} {meth : Method} {c : Code} {g : XG}
set_option maxRecDepth 4000 in
theorem m_X11_grouped (x1 : Int32) (x2 : Int32) (σ : St) {r : Int32} (h : f_X11_grouped x1 x2 σ = some r) : xM l KX g yX11_grouped cX11_grouped 3 (some .int) rm_X11_grouped [.ref (g.q 0), .int x1, .int x2] σ (some (.int r)) σ := by
  refine xmet pn_X11 rfl (Nat.le_of_ble_eq_true rfl) (lv := [(0, .ref (g.q 0)), (1, .int x1), (2, .int x2)]) rfl (fun p e s m args below meth c ls C hW hl => ?_)
  have hx := C.1
  have hb := C.2.1
  unfold f_X11_grouped at h
  refine lv_iload_n hx hb dX11_grouped_0 rfl (lv_at hl 1 rfl) ?_
  refine lv_if_lt (tgt := 15) hx hb dX11_grouped_1 (by decide) (fun c1 => ?_) (fun c1 => ?_)
  · have h := xit c1 h
    refine lv_iconst (v := (-1)) hx hb dX11_grouped_15 rfl ?_
    cases h
    exact xr_i C hW dX11_grouped_16
  · have h := xif c1 h
    refine lv_iload_n hx hb dX11_grouped_4 rfl (lv_at hl 1 rfl) ?_
    refine lv_aload_n hx hb dX11_grouped_5 rfl (lv_at hl 0 rfl) ?_
    refine xg_r C hW fg_11_63 KX_0 rfl dX11_grouped_6 ?_
    refine xg_i C hW fg_11_295 KX_40 rfl (v := 9004) rfl (x := σ.1 9004 0) rfl dX11_grouped_9 ?_
    refine lv_icmp_lt (tgt := 17) hx hb dX11_grouped_12 (by decide) (fun c2 => ?_) (fun c2 => ?_)
    · have h := xit c2 h
      refine lv_iload_n hx hb dX11_grouped_17 rfl (lv_at hl 2 rfl) ?_
      refine lv_if_ne (tgt := 31) hx hb dX11_grouped_18 (by decide) (fun c3 => ?_) (fun c3 => ?_)
      · have h := xif c3 h
        refine lv_iload_n hx hb dX11_grouped_31 rfl (lv_at hl 2 rfl) ?_
        refine lv_iconst (v := 1) hx hb dX11_grouped_32 rfl ?_
        refine lv_icmp_ne (tgt := 48) hx hb dX11_grouped_33 (by decide) (fun c4 => ?_) (fun c4 => ?_)
        · have h := xif c4 h
          refine lv_iconst (v := (-1)) hx hb dX11_grouped_48 rfl ?_
          cases h
          exact xr_i C hW dX11_grouped_49
        · have h := xit c4 h
          refine lv_aload_n hx hb dX11_grouped_36 rfl (lv_at hl 0 rfl) ?_
          refine xg_r C hW fg_11_63 KX_0 rfl dX11_grouped_37 ?_
          refine xg_r C hW fg_11_301 KX_40 rfl dX11_grouped_40 ?_
          refine lv_iload_n hx hb dX11_grouped_43 rfl (lv_at hl 1 rfl) ?_
          obtain ⟨g5, h⟩ := xgd h
          refine xa_i C hW KX_45 g5 (x := σ.1 45 x1.toNatClampNeg) rfl dX11_grouped_44 ?_
          refine lv_goto (tgt := 49) hx hb dX11_grouped_45 (by decide) ?_
          cases h
          exact xr_i C hW dX11_grouped_49
      · have h := xit c3 h
        refine lv_aload_n hx hb dX11_grouped_21 rfl (lv_at hl 0 rfl) ?_
        refine xg_r C hW fg_11_63 KX_0 rfl dX11_grouped_22 ?_
        refine xg_r C hW fg_11_298 KX_40 rfl dX11_grouped_25 ?_
        refine lv_iload_n hx hb dX11_grouped_28 rfl (lv_at hl 1 rfl) ?_
        obtain ⟨g6, h⟩ := xgd h
        refine xa_i C hW KX_44 g6 (x := σ.1 44 x1.toNatClampNeg) rfl dX11_grouped_29 ?_
        cases h
        exact xr_i C hW dX11_grouped_30
    · have h := xif c2 h
      refine lv_iconst (v := (-1)) hx hb dX11_grouped_15 rfl ?_
      cases h
      exact xr_i C hW dX11_grouped_16
end
theorem dX11_clear_0 : decode cX11_clear 0 = .ok (.aload_n 0, 1) := by decide +kernel
theorem dX11_clear_1 : decode cX11_clear 1 = .ok (.getfield 90, 3) := by decide +kernel
theorem dX11_clear_4 : decode cX11_clear 4 = .ok (.getfield 304, 3) := by decide +kernel
theorem dX11_clear_7 : decode cX11_clear 7 = .ok (.istore_n 1, 1) := by decide +kernel
theorem dX11_clear_8 : decode cX11_clear 8 = .ok (.aload_n 0, 1) := by decide +kernel
theorem dX11_clear_9 : decode cX11_clear 9 = .ok (.getfield 90, 3) := by decide +kernel
theorem dX11_clear_12 : decode cX11_clear 12 = .ok (.iconst 0, 1) := by decide +kernel
theorem dX11_clear_13 : decode cX11_clear 13 = .ok (.putfield 304, 3) := by decide +kernel
theorem dX11_clear_16 : decode cX11_clear 16 = .ok (.aload_n 0, 1) := by decide +kernel
theorem dX11_clear_17 : decode cX11_clear 17 = .ok (.getfield 90, 3) := by decide +kernel
theorem dX11_clear_20 : decode cX11_clear 20 = .ok (.invokevirtual 132, 3) := by decide +kernel
theorem dX11_clear_23 : decode cX11_clear 23 = .ok (.iload_n 1, 1) := by decide +kernel
theorem dX11_clear_24 : decode cX11_clear 24 = .ok (.ireturn, 1) := by decide +kernel
abbrev rm_X11_clear : Room := { frames := 1, cells := 0, slots := 0, locals := 20 }
def f_X11_clear (σ : St) : Option (Int32 × St) := bo (f_X4_forgetFilled (si σ 14402 0 0)) (fun σ1 => some (σ.1 14402 0, σ1))
section
variable {p : Program} {l : Launch} {e : Env} {s : State} {m : MethodId} {args : Array Value} {below : List Frame} {meth : Method} {c : Code} {g : XG}
set_option maxRecDepth 4000 in
theorem m_X11_clear (σ : St) {r : Int32} {σ' : St} (h : f_X11_clear σ = some (r, σ')) : xM l KX g yX11_clear cX11_clear 2 (some .int) rm_X11_clear [.ref (g.q 0)] σ (some (.int r)) σ' := by
  refine xmet pn_X11 rfl (Nat.le_of_ble_eq_true rfl) (lv := [(0, .ref (g.q 0))]) rfl (fun p e s m args below meth c ls C hW hl => ?_)
  have hx := C.1
  have hb := C.2.1
  unfold f_X11_clear at h
  refine lv_aload_n hx hb dX11_clear_0 rfl (lv_at hl 0 rfl) ?_
  refine xg_r C hW fg_11_90 KX_0 rfl dX11_clear_1 ?_
  refine xg_i C hW fg_11_304 KX_67 rfl (v := 14402) rfl (x := σ.1 14402 0) rfl dX11_clear_4 ?_
  refine lv_istore_n (lv' := [(1, .int (σ.1 14402 0)), (0, .ref (g.q 0))]) hx hb dX11_clear_7 rfl hl (Nat.le_of_ble_eq_true rfl) rfl (fun ls hl => ?_)
  refine lv_aload_n hx hb dX11_clear_8 rfl (lv_at hl 1 rfl) ?_
  refine xg_r C hW fg_11_90 KX_0 rfl dX11_clear_9 ?_
  refine lv_iconst (v := 0) hx hb dX11_clear_12 rfl ?_
  refine xp_i C hW fp_11_304 KX_67 rfl (v := 14402) rfl rfl rfl dX11_clear_13 (fun H locs hW => ?_)
  refine lv_aload_n hx hb dX11_clear_16 rfl (lv_at hl 1 rfl) ?_
  refine xg_r C hW fg_11_90 KX_0 rfl dX11_clear_17 ?_
  obtain ⟨σ1, e1, h⟩ := xbo h
  refine xc_V (As := []) (rest := []) C hW (m_X4_forgetFilled _ e1) mf_X4_forgetFilled mv_X4_forgetFilled ml_X11_132 ⟨rfl, rfl⟩ ⟨Nat.le_of_ble_eq_true rfl, Nat.le_of_ble_eq_true rfl⟩ KX_67 rfl hl.1 rfl rfl (Nat.le_of_ble_eq_true rfl) dX11_clear_20 (fun H locs hW => W.eq (g2 := F0 m 23 ls []) rfl ?_)
  refine lv_iload_n hx hb dX11_clear_23 rfl (lv_at hl 0 rfl) ?_
  cases h
  exact xr_i C hW dX11_clear_24
end
theorem dX11_say_0 : decode cX11_say 0 = .ok (.aload_n 0, 1) := by decide +kernel
theorem dX11_say_1 : decode cX11_say 1 = .ok (.getfield 47, 3) := by decide +kernel
theorem dX11_say_4 : decode cX11_say 4 = .ok (.iload_n 1, 1) := by decide +kernel
theorem dX11_say_5 : decode cX11_say 5 = .ok (.invokevirtual 243, 3) := by decide +kernel
theorem dX11_say_8 : decode cX11_say 8 = .ok (.ifCond .ne 6, 3) := by decide +kernel
theorem dX11_say_11 : decode cX11_say 11 = .ok (.bipush (-2), 2) := by decide +kernel
theorem dX11_say_13 : decode cX11_say 13 = .ok (.ireturn, 1) := by decide +kernel
theorem dX11_say_14 : decode cX11_say 14 = .ok (.aload_n 0, 1) := by decide +kernel
theorem dX11_say_15 : decode cX11_say 15 = .ok (.getfield 90, 3) := by decide +kernel
theorem dX11_say_18 : decode cX11_say 18 = .ok (.iload_n 1, 1) := by decide +kernel
theorem dX11_say_19 : decode cX11_say 19 = .ok (.invokevirtual 305, 3) := by decide +kernel
theorem dX11_say_22 : decode cX11_say 22 = .ok (.ifCond .eq 13, 3) := by decide +kernel
theorem dX11_say_25 : decode cX11_say 25 = .ok (.aload_n 0, 1) := by decide +kernel
theorem dX11_say_26 : decode cX11_say 26 = .ok (.getfield 90, 3) := by decide +kernel
theorem dX11_say_29 : decode cX11_say 29 = .ok (.getfield 304, 3) := by decide +kernel
theorem dX11_say_32 : decode cX11_say 32 = .ok (.goto 5, 3) := by decide +kernel
theorem dX11_say_35 : decode cX11_say 35 = .ok (.bipush (-3), 2) := by decide +kernel
theorem dX11_say_37 : decode cX11_say 37 = .ok (.ireturn, 1) := by decide +kernel
abbrev rm_X11_say : Room := { frames := 2, cells := 0, slots := 0, locals := 41 }
def f_X11_say (x1 : Int32) (σ : St) : Option (Int32 × St) := (if (f_X9_has x1 σ) = 0 then some ((-2), σ) else bd (f_X4_put x1 σ) (fun r2_ σ2 => (if r2_ = 0 then some ((-3), σ2) else some (σ2.1 14402 0, σ2))))
section
variable {p : Program} {l : Launch} {e : Env} {s : State} {m : MethodId} {args : Array Value} {below : List Frame} {meth : Method} {c : Code} {g : XG}
set_option maxRecDepth 4000 in
theorem m_X11_say (x1 : Int32) (σ : St) {r : Int32} {σ' : St} (h : f_X11_say x1 σ = some (r, σ')) : xM l KX g yX11_say cX11_say 2 (some .int) rm_X11_say [.ref (g.q 0), .int x1] σ (some (.int r)) σ' := by
  refine xmet pn_X11 rfl (Nat.le_of_ble_eq_true rfl) (lv := [(0, .ref (g.q 0)), (1, .int x1)]) rfl (fun p e s m args below meth c ls C hW hl => ?_)
  have hx := C.1
  have hb := C.2.1
  unfold f_X11_say at h
  refine lv_aload_n hx hb dX11_say_0 rfl (lv_at hl 0 rfl) ?_
  refine xg_r C hW fg_11_47 KX_0 rfl dX11_say_1 ?_
  refine lv_iload_n hx hb dX11_say_4 rfl (lv_at hl 1 rfl) ?_
  refine xc_V (As := [.int x1]) (rest := []) C hW (m_X9_has x1 _ rfl) mf_X9_has mv_X9_has ml_X11_243 ⟨rfl, rfl⟩ ⟨Nat.le_of_ble_eq_true rfl, Nat.le_of_ble_eq_true rfl⟩ KX_33 rfl hl.1 rfl rfl (Nat.le_of_ble_eq_true rfl) dX11_say_5 (fun H locs hW => W.eq (g2 := F0 m 8 ls [.int (f_X9_has x1 σ)]) rfl ?_)
  refine lv_if_ne (tgt := 14) hx hb dX11_say_8 (by decide) (fun c1 => ?_) (fun c1 => ?_)
  · have h := xif c1 h
    refine lv_aload_n hx hb dX11_say_14 rfl (lv_at hl 0 rfl) ?_
    refine xg_r C hW fg_11_90 KX_0 rfl dX11_say_15 ?_
    refine lv_iload_n hx hb dX11_say_18 rfl (lv_at hl 1 rfl) ?_
    obtain ⟨r2_, σ2, e2, h⟩ := xbd h
    refine xc_V (As := [.int x1]) (rest := []) C hW (m_X4_put x1 _ e2) mf_X4_put mv_X4_put ml_X11_305 ⟨rfl, rfl⟩ ⟨Nat.le_of_ble_eq_true rfl, Nat.le_of_ble_eq_true rfl⟩ KX_67 rfl hl.1 rfl rfl (Nat.le_of_ble_eq_true rfl) dX11_say_19 (fun H locs hW => W.eq (g2 := F0 m 22 ls [.int r2_]) rfl ?_)
    refine lv_if_eq (tgt := 35) hx hb dX11_say_22 (by decide) (fun c3 => ?_) (fun c3 => ?_)
    · have h := xit c3 h
      refine lv_bipush (v := (-3)) hx hb dX11_say_35 rfl ?_
      cases h
      exact xr_i C hW dX11_say_37
    · have h := xif c3 h
      refine lv_aload_n hx hb dX11_say_25 rfl (lv_at hl 0 rfl) ?_
      refine xg_r C hW fg_11_90 KX_0 rfl dX11_say_26 ?_
      refine xg_i C hW fg_11_304 KX_67 rfl (v := 14402) rfl (x := σ2.1 14402 0) rfl dX11_say_29 ?_
      refine lv_goto (tgt := 37) hx hb dX11_say_32 (by decide) ?_
      cases h
      exact xr_i C hW dX11_say_37
  · have h := xit c1 h
    refine lv_bipush (v := (-2)) hx hb dX11_say_11 rfl ?_
    cases h
    exact xr_i C hW dX11_say_13
end
theorem dX11_fill_0 : decode cX11_fill 0 = .ok (.iload_n 1, 1) := by decide +kernel
theorem dX11_fill_1 : decode cX11_fill 1 = .ok (.iconst 1, 1) := by decide +kernel
theorem dX11_fill_2 : decode cX11_fill 2 = .ok (.if_icmp .lt 10, 3) := by decide +kernel
theorem dX11_fill_5 : decode cX11_fill 5 = .ok (.iload_n 1, 1) := by decide +kernel
theorem dX11_fill_6 : decode cX11_fill 6 = .ok (.sipush 144, 3) := by decide +kernel
theorem dX11_fill_9 : decode cX11_fill 9 = .ok (.if_icmp .le 6, 3) := by decide +kernel
theorem dX11_fill_12 : decode cX11_fill 12 = .ok (.bipush (-2), 2) := by decide +kernel
theorem dX11_fill_14 : decode cX11_fill 14 = .ok (.ireturn, 1) := by decide +kernel
theorem dX11_fill_15 : decode cX11_fill 15 = .ok (.aload_n 0, 1) := by decide +kernel
theorem dX11_fill_16 : decode cX11_fill 16 = .ok (.getfield 90, 3) := by decide +kernel
theorem dX11_fill_19 : decode cX11_fill 19 = .ok (.getfield 304, 3) := by decide +kernel
theorem dX11_fill_22 : decode cX11_fill 22 = .ok (.ifCond .ne 6, 3) := by decide +kernel
theorem dX11_fill_25 : decode cX11_fill 25 = .ok (.bipush (-4), 2) := by decide +kernel
theorem dX11_fill_27 : decode cX11_fill 27 = .ok (.ireturn, 1) := by decide +kernel
theorem dX11_fill_28 : decode cX11_fill 28 = .ok (.aload_n 0, 1) := by decide +kernel
theorem dX11_fill_29 : decode cX11_fill 29 = .ok (.getfield 72, 3) := by decide +kernel
theorem dX11_fill_32 : decode cX11_fill 32 = .ok (.aload_n 0, 1) := by decide +kernel
theorem dX11_fill_33 : decode cX11_fill 33 = .ok (.getfield 90, 3) := by decide +kernel
theorem dX11_fill_36 : decode cX11_fill 36 = .ok (.getfield 307, 3) := by decide +kernel
theorem dX11_fill_39 : decode cX11_fill 39 = .ok (.aload_n 0, 1) := by decide +kernel
theorem dX11_fill_40 : decode cX11_fill 40 = .ok (.getfield 90, 3) := by decide +kernel
theorem dX11_fill_43 : decode cX11_fill 43 = .ok (.getfield 304, 3) := by decide +kernel
theorem dX11_fill_46 : decode cX11_fill 46 = .ok (.invokevirtual 310, 3) := by decide +kernel
theorem dX11_fill_49 : decode cX11_fill 49 = .ok (.ifCond .eq 14, 3) := by decide +kernel
theorem dX11_fill_52 : decode cX11_fill 52 = .ok (.aload_n 0, 1) := by decide +kernel
theorem dX11_fill_53 : decode cX11_fill 53 = .ok (.getfield 90, 3) := by decide +kernel
theorem dX11_fill_56 : decode cX11_fill 56 = .ok (.iload_n 1, 1) := by decide +kernel
theorem dX11_fill_57 : decode cX11_fill 57 = .ok (.invokevirtual 314, 3) := by decide +kernel
theorem dX11_fill_60 : decode cX11_fill 60 = .ok (.goto 5, 3) := by decide +kernel
theorem dX11_fill_63 : decode cX11_fill 63 = .ok (.bipush (-3), 2) := by decide +kernel
theorem dX11_fill_65 : decode cX11_fill 65 = .ok (.ireturn, 1) := by decide +kernel
abbrev rm_X11_fill : Room := { frames := 47, cells := 0, slots := 0, locals := 1886 }
def f_X11_fill (N : Nat) (x1 : Int32) (σ : St) : Option (Int32 × St) := (if x1 < 1 then some ((-2), σ) else (if x1 ≤ 144 then (if (σ.1 14402 0) = 0 then some ((-4), σ) else bd (f_X2_settle 68 12 N (σ.1 14402 0) σ) (fun r4_ σ4 => (if r4_ = 0 then some ((-3), σ4) else bd (f_X4_fillWith N x1 σ4) (fun r6_ σ6 => some (r6_, σ6))))) else some ((-2), σ)))
section
variable {p : Program} {l : Launch} {e : Env} {s : State} {m : MethodId} {args : Array Value} {below : List Frame} {meth : Method} {c : Code} {g : XG}
set_option maxRecDepth 4000 in
theorem m_X11_fill (N : Nat) (x1 : Int32) (σ : St) {r : Int32} {σ' : St} (h : f_X11_fill N x1 σ = some (r, σ')) : xM l KX g yX11_fill cX11_fill 2 (some .int) rm_X11_fill [.ref (g.q 0), .int x1] σ (some (.int r)) σ' := by
  refine xmet pn_X11 rfl (Nat.le_of_ble_eq_true rfl) (lv := [(0, .ref (g.q 0)), (1, .int x1)]) rfl (fun p e s m args below meth c ls C hW hl => ?_)
  have hx := C.1
  have hb := C.2.1
  unfold f_X11_fill at h
  refine lv_iload_n hx hb dX11_fill_0 rfl (lv_at hl 1 rfl) ?_
  refine lv_iconst (v := 1) hx hb dX11_fill_1 rfl ?_
  refine lv_icmp_lt (tgt := 12) hx hb dX11_fill_2 (by decide) (fun c1 => ?_) (fun c1 => ?_)
  · have h := xit c1 h
    refine lv_bipush (v := (-2)) hx hb dX11_fill_12 rfl ?_
    cases h
    exact xr_i C hW dX11_fill_14
  · have h := xif c1 h
    refine lv_iload_n hx hb dX11_fill_5 rfl (lv_at hl 1 rfl) ?_
    refine lv_sipush (v := 144) hx hb dX11_fill_6 rfl ?_
    refine lv_icmp_le (tgt := 15) hx hb dX11_fill_9 (by decide) (fun c2 => ?_) (fun c2 => ?_)
    · have h := xit c2 h
      refine lv_aload_n hx hb dX11_fill_15 rfl (lv_at hl 0 rfl) ?_
      refine xg_r C hW fg_11_90 KX_0 rfl dX11_fill_16 ?_
      refine xg_i C hW fg_11_304 KX_67 rfl (v := 14402) rfl (x := σ.1 14402 0) rfl dX11_fill_19 ?_
      refine lv_if_ne (tgt := 28) hx hb dX11_fill_22 (by decide) (fun c3 => ?_) (fun c3 => ?_)
      · have h := xif c3 h
        refine lv_aload_n hx hb dX11_fill_28 rfl (lv_at hl 0 rfl) ?_
        refine xg_r C hW fg_11_72 KX_0 rfl dX11_fill_29 ?_
        refine lv_aload_n hx hb dX11_fill_32 rfl (lv_at hl 0 rfl) ?_
        refine xg_r C hW fg_11_90 KX_0 rfl dX11_fill_33 ?_
        refine xg_r C hW fg_11_307 KX_67 rfl dX11_fill_36 ?_
        refine lv_aload_n hx hb dX11_fill_39 rfl (lv_at hl 0 rfl) ?_
        refine xg_r C hW fg_11_90 KX_0 rfl dX11_fill_40 ?_
        refine xg_i C hW fg_11_304 KX_67 rfl (v := 14402) rfl (x := σ.1 14402 0) rfl dX11_fill_43 ?_
        obtain ⟨r4_, σ4, e4, h⟩ := xbd h
        refine xc_V (As := [.ref (g.q 68), .int (σ.1 14402 0)]) (rest := []) C hW (m_X2_settle 68 12 KX_68 N (σ.1 14402 0) _ e4) mf_X2_settle mv_X2_settle ml_X11_310 ⟨rfl, rfl⟩ ⟨Nat.le_of_ble_eq_true rfl, Nat.le_of_ble_eq_true rfl⟩ KX_46 rfl hl.1 rfl rfl (Nat.le_of_ble_eq_true rfl) dX11_fill_46 (fun H locs hW => W.eq (g2 := F0 m 49 ls [.int r4_]) rfl ?_)
        refine lv_if_eq (tgt := 63) hx hb dX11_fill_49 (by decide) (fun c5 => ?_) (fun c5 => ?_)
        · have h := xit c5 h
          refine lv_bipush (v := (-3)) hx hb dX11_fill_63 rfl ?_
          cases h
          exact xr_i C hW dX11_fill_65
        · have h := xif c5 h
          refine lv_aload_n hx hb dX11_fill_52 rfl (lv_at hl 0 rfl) ?_
          refine xg_r C hW fg_11_90 KX_0 rfl dX11_fill_53 ?_
          refine lv_iload_n hx hb dX11_fill_56 rfl (lv_at hl 1 rfl) ?_
          obtain ⟨r6_, σ6, e6, h⟩ := xbd h
          refine xc_V (As := [.int x1]) (rest := []) C hW (m_X4_fillWith N x1 _ e6) mf_X4_fillWith mv_X4_fillWith ml_X11_314 ⟨rfl, rfl⟩ ⟨Nat.le_of_ble_eq_true rfl, Nat.le_of_ble_eq_true rfl⟩ KX_67 rfl hl.1 rfl rfl (Nat.le_of_ble_eq_true rfl) dX11_fill_57 (fun H locs hW => W.eq (g2 := F0 m 60 ls [.int r6_]) rfl ?_)
          refine lv_goto (tgt := 65) hx hb dX11_fill_60 (by decide) ?_
          cases h
          exact xr_i C hW dX11_fill_65
      · have h := xit c3 h
        refine lv_bipush (v := (-4)) hx hb dX11_fill_25 rfl ?_
        cases h
        exact xr_i C hW dX11_fill_27
    · have h := xif c2 h
      refine lv_bipush (v := (-2)) hx hb dX11_fill_12 rfl ?_
      cases h
      exact xr_i C hW dX11_fill_14
end
theorem dX11_filled_0 : decode cX11_filled 0 = .ok (.iload_n 1, 1) := by decide +kernel
theorem dX11_filled_1 : decode cX11_filled 1 = .ok (.ifCond .lt 14, 3) := by decide +kernel
theorem dX11_filled_4 : decode cX11_filled 4 = .ok (.iload_n 1, 1) := by decide +kernel
theorem dX11_filled_5 : decode cX11_filled 5 = .ok (.aload_n 0, 1) := by decide +kernel
theorem dX11_filled_6 : decode cX11_filled 6 = .ok (.getfield 90, 3) := by decide +kernel
theorem dX11_filled_9 : decode cX11_filled 9 = .ok (.getfield 317, 3) := by decide +kernel
theorem dX11_filled_12 : decode cX11_filled 12 = .ok (.if_icmp .lt 5, 3) := by decide +kernel
theorem dX11_filled_15 : decode cX11_filled 15 = .ok (.iconst (-1), 1) := by decide +kernel
theorem dX11_filled_16 : decode cX11_filled 16 = .ok (.ireturn, 1) := by decide +kernel
theorem dX11_filled_17 : decode cX11_filled 17 = .ok (.aload_n 0, 1) := by decide +kernel
theorem dX11_filled_18 : decode cX11_filled 18 = .ok (.getfield 90, 3) := by decide +kernel
theorem dX11_filled_21 : decode cX11_filled 21 = .ok (.getfield 320, 3) := by decide +kernel
theorem dX11_filled_24 : decode cX11_filled 24 = .ok (.iload_n 1, 1) := by decide +kernel
theorem dX11_filled_25 : decode cX11_filled 25 = .ok (.iaload, 1) := by decide +kernel
theorem dX11_filled_26 : decode cX11_filled 26 = .ok (.istore_n 3, 1) := by decide +kernel
theorem dX11_filled_27 : decode cX11_filled 27 = .ok (.iload_n 2, 1) := by decide +kernel
theorem dX11_filled_28 : decode cX11_filled 28 = .ok (.ifCond .ne 13, 3) := by decide +kernel
theorem dX11_filled_31 : decode cX11_filled 31 = .ok (.aload_n 0, 1) := by decide +kernel
theorem dX11_filled_32 : decode cX11_filled 32 = .ok (.getfield 90, 3) := by decide +kernel
theorem dX11_filled_35 : decode cX11_filled 35 = .ok (.getfield 323, 3) := by decide +kernel
theorem dX11_filled_38 : decode cX11_filled 38 = .ok (.iload_n 1, 1) := by decide +kernel
theorem dX11_filled_39 : decode cX11_filled 39 = .ok (.iaload, 1) := by decide +kernel
theorem dX11_filled_40 : decode cX11_filled 40 = .ok (.ireturn, 1) := by decide +kernel
theorem dX11_filled_41 : decode cX11_filled 41 = .ok (.iload_n 2, 1) := by decide +kernel
theorem dX11_filled_42 : decode cX11_filled 42 = .ok (.iconst 1, 1) := by decide +kernel
theorem dX11_filled_43 : decode cX11_filled 43 = .ok (.if_icmp .ne 7, 3) := by decide +kernel
theorem dX11_filled_46 : decode cX11_filled 46 = .ok (.iload_n 3, 1) := by decide +kernel
theorem dX11_filled_47 : decode cX11_filled 47 = .ok (.goto 20, 3) := by decide +kernel
theorem dX11_filled_50 : decode cX11_filled 50 = .ok (.aload_n 0, 1) := by decide +kernel
theorem dX11_filled_51 : decode cX11_filled 51 = .ok (.getfield 90, 3) := by decide +kernel
theorem dX11_filled_54 : decode cX11_filled 54 = .ok (.getfield 326, 3) := by decide +kernel
theorem dX11_filled_57 : decode cX11_filled 57 = .ok (.iload_n 1, 1) := by decide +kernel
theorem dX11_filled_58 : decode cX11_filled 58 = .ok (.laload, 1) := by decide +kernel
theorem dX11_filled_59 : decode cX11_filled 59 = .ok (.iload_n 3, 1) := by decide +kernel
theorem dX11_filled_60 : decode cX11_filled 60 = .ok (.iload_n 2, 1) := by decide +kernel
theorem dX11_filled_61 : decode cX11_filled 61 = .ok (.bipush 10, 2) := by decide +kernel
theorem dX11_filled_63 : decode cX11_filled 63 = .ok (.isub, 1) := by decide +kernel
theorem dX11_filled_64 : decode cX11_filled 64 = .ok (.invokestatic 329, 3) := by decide +kernel
theorem dX11_filled_67 : decode cX11_filled 67 = .ok (.ireturn, 1) := by decide +kernel
abbrev rm_X11_filled : Room := { frames := 1, cells := 0, slots := 0, locals := 23 }
def f_X11_filled (x1 : Int32) (x2 : Int32) (σ : St) : Option Int32 := (if x1 < 0 then some ((-1)) else (if x1 < (σ.1 14405 0) then grd (ib x1 12) ((if x2 = 0 then grd (ib x1 12) (some (σ.1 70 x1.toNatClampNeg)) else (if x2 = 1 then some (σ.1 71 x1.toNatClampNeg) else grd (ib x1 12) (some (f_X11_signOf (σ.2 72 x1.toNatClampNeg) (σ.1 71 x1.toNatClampNeg) (x2 - 10) σ))))) else some ((-1))))
section
variable {p : Program} {l : Launch} {e : Env} {s : State} {m : MethodId} {args : Array Value} {below : List Frame} {meth : Method} {c : Code} {g : XG}
set_option maxRecDepth 4000 in
theorem m_X11_filled (x1 : Int32) (x2 : Int32) (σ : St) {r : Int32} (h : f_X11_filled x1 x2 σ = some r) : xM l KX g yX11_filled cX11_filled 4 (some .int) rm_X11_filled [.ref (g.q 0), .int x1, .int x2] σ (some (.int r)) σ := by
  refine xmet pn_X11 rfl (Nat.le_of_ble_eq_true rfl) (lv := [(0, .ref (g.q 0)), (1, .int x1), (2, .int x2)]) rfl (fun p e s m args below meth c ls C hW hl => ?_)
  have hx := C.1
  have hb := C.2.1
  unfold f_X11_filled at h
  refine lv_iload_n hx hb dX11_filled_0 rfl (lv_at hl 1 rfl) ?_
  refine lv_if_lt (tgt := 15) hx hb dX11_filled_1 (by decide) (fun c1 => ?_) (fun c1 => ?_)
  · have h := xit c1 h
    refine lv_iconst (v := (-1)) hx hb dX11_filled_15 rfl ?_
    cases h
    exact xr_i C hW dX11_filled_16
  · have h := xif c1 h
    refine lv_iload_n hx hb dX11_filled_4 rfl (lv_at hl 1 rfl) ?_
    refine lv_aload_n hx hb dX11_filled_5 rfl (lv_at hl 0 rfl) ?_
    refine xg_r C hW fg_11_90 KX_0 rfl dX11_filled_6 ?_
    refine xg_i C hW fg_11_317 KX_67 rfl (v := 14405) rfl (x := σ.1 14405 0) rfl dX11_filled_9 ?_
    refine lv_icmp_lt (tgt := 17) hx hb dX11_filled_12 (by decide) (fun c2 => ?_) (fun c2 => ?_)
    · have h := xit c2 h
      refine lv_aload_n hx hb dX11_filled_17 rfl (lv_at hl 0 rfl) ?_
      refine xg_r C hW fg_11_90 KX_0 rfl dX11_filled_18 ?_
      refine xg_r C hW fg_11_320 KX_67 rfl dX11_filled_21 ?_
      refine lv_iload_n hx hb dX11_filled_24 rfl (lv_at hl 1 rfl) ?_
      obtain ⟨g3, h⟩ := xgd h
      refine xa_i C hW KX_71 g3 (x := σ.1 71 x1.toNatClampNeg) rfl dX11_filled_25 ?_
      refine lv_istore_n (lv' := [(3, .int (σ.1 71 x1.toNatClampNeg)), (0, .ref (g.q 0)), (1, .int x1), (2, .int x2)]) hx hb dX11_filled_26 rfl hl (Nat.le_of_ble_eq_true rfl) rfl (fun ls hl => ?_)
      refine lv_iload_n hx hb dX11_filled_27 rfl (lv_at hl 3 rfl) ?_
      refine lv_if_ne (tgt := 41) hx hb dX11_filled_28 (by decide) (fun c4 => ?_) (fun c4 => ?_)
      · have h := xif c4 h
        refine lv_iload_n hx hb dX11_filled_41 rfl (lv_at hl 3 rfl) ?_
        refine lv_iconst (v := 1) hx hb dX11_filled_42 rfl ?_
        refine lv_icmp_ne (tgt := 50) hx hb dX11_filled_43 (by decide) (fun c5 => ?_) (fun c5 => ?_)
        · have h := xif c5 h
          refine lv_aload_n hx hb dX11_filled_50 rfl (lv_at hl 1 rfl) ?_
          refine xg_r C hW fg_11_90 KX_0 rfl dX11_filled_51 ?_
          refine xg_r C hW fg_11_326 KX_67 rfl dX11_filled_54 ?_
          refine lv_iload_n hx hb dX11_filled_57 rfl (lv_at hl 2 rfl) ?_
          obtain ⟨g6, h⟩ := xgd h
          refine xa_l C hW KX_72 g6 (x := σ.2 72 x1.toNatClampNeg) rfl dX11_filled_58 ?_
          refine lv_iload_n hx hb dX11_filled_59 rfl (lv_at hl 0 rfl) ?_
          refine lv_iload_n hx hb dX11_filled_60 rfl (lv_at hl 3 rfl) ?_
          refine lv_bipush (v := 10) hx hb dX11_filled_61 rfl ?_
          refine lv_isub hx hb dX11_filled_63 ?_
          refine xc_S (As := [.long (σ.2 72 x1.toNatClampNeg), .int (σ.1 71 x1.toNatClampNeg), .int (x2 - 10)]) (rest := []) C hW (m_X11_signOf (σ.2 72 x1.toNatClampNeg) (σ.1 71 x1.toNatClampNeg) (x2 - 10) _ rfl) mf_X11_signOf mt_X11_signOf ml_X11_329 ⟨rfl, rfl⟩ ⟨Nat.le_of_ble_eq_true rfl, Nat.le_of_ble_eq_true rfl⟩ hl.1 rfl rfl (Nat.le_of_ble_eq_true rfl) dX11_filled_64 (fun H locs hW => W.eq (g2 := F0 m 67 ls [.int (f_X11_signOf (σ.2 72 x1.toNatClampNeg) (σ.1 71 x1.toNatClampNeg) (x2 - 10) σ)]) rfl ?_)
          cases h
          exact xr_i C hW dX11_filled_67
        · have h := xit c5 h
          refine lv_iload_n hx hb dX11_filled_46 rfl (lv_at hl 0 rfl) ?_
          refine lv_goto (tgt := 67) hx hb dX11_filled_47 (by decide) ?_
          cases h
          exact xr_i C hW dX11_filled_67
      · have h := xit c4 h
        refine lv_aload_n hx hb dX11_filled_31 rfl (lv_at hl 1 rfl) ?_
        refine xg_r C hW fg_11_90 KX_0 rfl dX11_filled_32 ?_
        refine xg_r C hW fg_11_323 KX_67 rfl dX11_filled_35 ?_
        refine lv_iload_n hx hb dX11_filled_38 rfl (lv_at hl 2 rfl) ?_
        obtain ⟨g7, h⟩ := xgd h
        refine xa_i C hW KX_70 g7 (x := σ.1 70 x1.toNatClampNeg) rfl dX11_filled_39 ?_
        cases h
        exact xr_i C hW dX11_filled_40
    · have h := xif c2 h
      refine lv_iconst (v := (-1)) hx hb dX11_filled_15 rfl ?_
      cases h
      exact xr_i C hW dX11_filled_16
end
theorem dX11_fills_0 : decode cX11_fills 0 = .ok (.aload_n 0, 1) := by decide +kernel
theorem dX11_fills_1 : decode cX11_fills 1 = .ok (.getfield 90, 3) := by decide +kernel
theorem dX11_fills_4 : decode cX11_fills 4 = .ok (.getfield 304, 3) := by decide +kernel
theorem dX11_fills_7 : decode cX11_fills 7 = .ok (.ifCond .ne 6, 3) := by decide +kernel
theorem dX11_fills_10 : decode cX11_fills 10 = .ok (.bipush (-4), 2) := by decide +kernel
theorem dX11_fills_12 : decode cX11_fills 12 = .ok (.ireturn, 1) := by decide +kernel
theorem dX11_fills_13 : decode cX11_fills 13 = .ok (.aload_n 0, 1) := by decide +kernel
theorem dX11_fills_14 : decode cX11_fills 14 = .ok (.getfield 72, 3) := by decide +kernel
theorem dX11_fills_17 : decode cX11_fills 17 = .ok (.aload_n 0, 1) := by decide +kernel
theorem dX11_fills_18 : decode cX11_fills 18 = .ok (.getfield 90, 3) := by decide +kernel
theorem dX11_fills_21 : decode cX11_fills 21 = .ok (.getfield 307, 3) := by decide +kernel
theorem dX11_fills_24 : decode cX11_fills 24 = .ok (.aload_n 0, 1) := by decide +kernel
theorem dX11_fills_25 : decode cX11_fills 25 = .ok (.getfield 90, 3) := by decide +kernel
theorem dX11_fills_28 : decode cX11_fills 28 = .ok (.getfield 304, 3) := by decide +kernel
theorem dX11_fills_31 : decode cX11_fills 31 = .ok (.invokevirtual 310, 3) := by decide +kernel
theorem dX11_fills_34 : decode cX11_fills 34 = .ok (.ifCond .eq 13, 3) := by decide +kernel
theorem dX11_fills_37 : decode cX11_fills 37 = .ok (.aload_n 0, 1) := by decide +kernel
theorem dX11_fills_38 : decode cX11_fills 38 = .ok (.getfield 90, 3) := by decide +kernel
theorem dX11_fills_41 : decode cX11_fills 41 = .ok (.invokevirtual 333, 3) := by decide +kernel
theorem dX11_fills_44 : decode cX11_fills 44 = .ok (.goto 5, 3) := by decide +kernel
theorem dX11_fills_47 : decode cX11_fills 47 = .ok (.bipush (-3), 2) := by decide +kernel
theorem dX11_fills_49 : decode cX11_fills 49 = .ok (.ireturn, 1) := by decide +kernel
abbrev rm_X11_fills : Room := { frames := 47, cells := 0, slots := 0, locals := 1886 }
def f_X11_fills (N : Nat) (σ : St) : Option (Int32 × St) := (if (σ.1 14402 0) = 0 then some ((-4), σ) else bd (f_X2_settle 68 12 N (σ.1 14402 0) σ) (fun r2_ σ2 => (if r2_ = 0 then some ((-3), σ2) else bd (f_X4_countFills N σ2) (fun r4_ σ4 => some (r4_, σ4)))))
section
variable {p : Program} {l : Launch} {e : Env} {s : State} {m : MethodId} {args : Array Value} {below : List Frame} {meth : Method} {c : Code} {g : XG}
set_option maxRecDepth 4000 in
theorem m_X11_fills (N : Nat) (σ : St) {r : Int32} {σ' : St} (h : f_X11_fills N σ = some (r, σ')) : xM l KX g yX11_fills cX11_fills 1 (some .int) rm_X11_fills [.ref (g.q 0)] σ (some (.int r)) σ' := by
  refine xmet pn_X11 rfl (Nat.le_of_ble_eq_true rfl) (lv := [(0, .ref (g.q 0))]) rfl (fun p e s m args below meth c ls C hW hl => ?_)
  have hx := C.1
  have hb := C.2.1
  unfold f_X11_fills at h
  refine lv_aload_n hx hb dX11_fills_0 rfl (lv_at hl 0 rfl) ?_
  refine xg_r C hW fg_11_90 KX_0 rfl dX11_fills_1 ?_
  refine xg_i C hW fg_11_304 KX_67 rfl (v := 14402) rfl (x := σ.1 14402 0) rfl dX11_fills_4 ?_
  refine lv_if_ne (tgt := 13) hx hb dX11_fills_7 (by decide) (fun c1 => ?_) (fun c1 => ?_)
  · have h := xif c1 h
    refine lv_aload_n hx hb dX11_fills_13 rfl (lv_at hl 0 rfl) ?_
    refine xg_r C hW fg_11_72 KX_0 rfl dX11_fills_14 ?_
    refine lv_aload_n hx hb dX11_fills_17 rfl (lv_at hl 0 rfl) ?_
    refine xg_r C hW fg_11_90 KX_0 rfl dX11_fills_18 ?_
    refine xg_r C hW fg_11_307 KX_67 rfl dX11_fills_21 ?_
    refine lv_aload_n hx hb dX11_fills_24 rfl (lv_at hl 0 rfl) ?_
    refine xg_r C hW fg_11_90 KX_0 rfl dX11_fills_25 ?_
    refine xg_i C hW fg_11_304 KX_67 rfl (v := 14402) rfl (x := σ.1 14402 0) rfl dX11_fills_28 ?_
    obtain ⟨r2_, σ2, e2, h⟩ := xbd h
    refine xc_V (As := [.ref (g.q 68), .int (σ.1 14402 0)]) (rest := []) C hW (m_X2_settle 68 12 KX_68 N (σ.1 14402 0) _ e2) mf_X2_settle mv_X2_settle ml_X11_310 ⟨rfl, rfl⟩ ⟨Nat.le_of_ble_eq_true rfl, Nat.le_of_ble_eq_true rfl⟩ KX_46 rfl hl.1 rfl rfl (Nat.le_of_ble_eq_true rfl) dX11_fills_31 (fun H locs hW => W.eq (g2 := F0 m 34 ls [.int r2_]) rfl ?_)
    refine lv_if_eq (tgt := 47) hx hb dX11_fills_34 (by decide) (fun c3 => ?_) (fun c3 => ?_)
    · have h := xit c3 h
      refine lv_bipush (v := (-3)) hx hb dX11_fills_47 rfl ?_
      cases h
      exact xr_i C hW dX11_fills_49
    · have h := xif c3 h
      refine lv_aload_n hx hb dX11_fills_37 rfl (lv_at hl 0 rfl) ?_
      refine xg_r C hW fg_11_90 KX_0 rfl dX11_fills_38 ?_
      obtain ⟨r4_, σ4, e4, h⟩ := xbd h
      refine xc_V (As := []) (rest := []) C hW (m_X4_countFills N _ e4) mf_X4_countFills mv_X4_countFills ml_X11_333 ⟨rfl, rfl⟩ ⟨Nat.le_of_ble_eq_true rfl, Nat.le_of_ble_eq_true rfl⟩ KX_67 rfl hl.1 rfl rfl (Nat.le_of_ble_eq_true rfl) dX11_fills_41 (fun H locs hW => W.eq (g2 := F0 m 44 ls [.int r4_]) rfl ?_)
      refine lv_goto (tgt := 49) hx hb dX11_fills_44 (by decide) ?_
      cases h
      exact xr_i C hW dX11_fills_49
  · have h := xit c1 h
    refine lv_bipush (v := (-4)) hx hb dX11_fills_10 rfl ?_
    cases h
    exact xr_i C hW dX11_fills_12
end
theorem dX11_judgeSpellings_0 : decode cX11_judgeSpellings 0 = .ok (.iconst 1, 1) := by decide +kernel
theorem dX11_judgeSpellings_1 : decode cX11_judgeSpellings 1 = .ok (.istore_n 1, 1) := by decide +kernel
theorem dX11_judgeSpellings_2 : decode cX11_judgeSpellings 2 = .ok (.iconst 0, 1) := by decide +kernel
theorem dX11_judgeSpellings_3 : decode cX11_judgeSpellings 3 = .ok (.istore_n 2, 1) := by decide +kernel
theorem dX11_judgeSpellings_4 : decode cX11_judgeSpellings 4 = .ok (.iload_n 2, 1) := by decide +kernel
theorem dX11_judgeSpellings_5 : decode cX11_judgeSpellings 5 = .ok (.aload_n 0, 1) := by decide +kernel
theorem dX11_judgeSpellings_6 : decode cX11_judgeSpellings 6 = .ok (.getfield 90, 3) := by decide +kernel
theorem dX11_judgeSpellings_9 : decode cX11_judgeSpellings 9 = .ok (.getfield 304, 3) := by decide +kernel
theorem dX11_judgeSpellings_12 : decode cX11_judgeSpellings 12 = .ok (.if_icmp .ge 62, 3) := by decide +kernel
theorem dX11_judgeSpellings_15 : decode cX11_judgeSpellings 15 = .ok (.aload_n 0, 1) := by decide +kernel
theorem dX11_judgeSpellings_16 : decode cX11_judgeSpellings 16 = .ok (.getfield 56, 3) := by decide +kernel
theorem dX11_judgeSpellings_19 : decode cX11_judgeSpellings 19 = .ok (.aload_n 0, 1) := by decide +kernel
theorem dX11_judgeSpellings_20 : decode cX11_judgeSpellings 20 = .ok (.getfield 19, 3) := by decide +kernel
theorem dX11_judgeSpellings_23 : decode cX11_judgeSpellings 23 = .ok (.aload_n 0, 1) := by decide +kernel
theorem dX11_judgeSpellings_24 : decode cX11_judgeSpellings 24 = .ok (.getfield 90, 3) := by decide +kernel
theorem dX11_judgeSpellings_27 : decode cX11_judgeSpellings 27 = .ok (.getfield 307, 3) := by decide +kernel
theorem dX11_judgeSpellings_30 : decode cX11_judgeSpellings 30 = .ok (.iload_n 2, 1) := by decide +kernel
theorem dX11_judgeSpellings_31 : decode cX11_judgeSpellings 31 = .ok (.iaload, 1) := by decide +kernel
theorem dX11_judgeSpellings_32 : decode cX11_judgeSpellings 32 = .ok (.invokevirtual 342, 3) := by decide +kernel
theorem dX11_judgeSpellings_35 : decode cX11_judgeSpellings 35 = .ok (.aload_n 0, 1) := by decide +kernel
theorem dX11_judgeSpellings_36 : decode cX11_judgeSpellings 36 = .ok (.getfield 56, 3) := by decide +kernel
theorem dX11_judgeSpellings_39 : decode cX11_judgeSpellings 39 = .ok (.aload_n 0, 1) := by decide +kernel
theorem dX11_judgeSpellings_40 : decode cX11_judgeSpellings 40 = .ok (.getfield 40, 3) := by decide +kernel
theorem dX11_judgeSpellings_43 : decode cX11_judgeSpellings 43 = .ok (.getfield 219, 3) := by decide +kernel
theorem dX11_judgeSpellings_46 : decode cX11_judgeSpellings 46 = .ok (.aload_n 0, 1) := by decide +kernel
theorem dX11_judgeSpellings_47 : decode cX11_judgeSpellings 47 = .ok (.getfield 40, 3) := by decide +kernel
theorem dX11_judgeSpellings_50 : decode cX11_judgeSpellings 50 = .ok (.getfield 216, 3) := by decide +kernel
theorem dX11_judgeSpellings_53 : decode cX11_judgeSpellings 53 = .ok (.iload_n 1, 1) := by decide +kernel
theorem dX11_judgeSpellings_54 : decode cX11_judgeSpellings 54 = .ok (.invokevirtual 346, 3) := by decide +kernel
theorem dX11_judgeSpellings_57 : decode cX11_judgeSpellings 57 = .ok (.istore_n 1, 1) := by decide +kernel
theorem dX11_judgeSpellings_58 : decode cX11_judgeSpellings 58 = .ok (.iload_n 1, 1) := by decide +kernel
theorem dX11_judgeSpellings_59 : decode cX11_judgeSpellings 59 = .ok (.ifCond .ne 9, 3) := by decide +kernel
theorem dX11_judgeSpellings_62 : decode cX11_judgeSpellings 62 = .ok (.sipush 2000, 3) := by decide +kernel
theorem dX11_judgeSpellings_65 : decode cX11_judgeSpellings 65 = .ok (.iload_n 2, 1) := by decide +kernel
theorem dX11_judgeSpellings_66 : decode cX11_judgeSpellings 66 = .ok (.iadd, 1) := by decide +kernel
theorem dX11_judgeSpellings_67 : decode cX11_judgeSpellings 67 = .ok (.ireturn, 1) := by decide +kernel
theorem dX11_judgeSpellings_68 : decode cX11_judgeSpellings 68 = .ok (.iinc 2 1, 3) := by decide +kernel
theorem dX11_judgeSpellings_71 : decode cX11_judgeSpellings 71 = .ok (.goto (-67), 3) := by decide +kernel
theorem dX11_judgeSpellings_74 : decode cX11_judgeSpellings 74 = .ok (.iload_n 1, 1) := by decide +kernel
theorem dX11_judgeSpellings_75 : decode cX11_judgeSpellings 75 = .ok (.aload_n 0, 1) := by decide +kernel
theorem dX11_judgeSpellings_76 : decode cX11_judgeSpellings 76 = .ok (.getfield 40, 3) := by decide +kernel
theorem dX11_judgeSpellings_79 : decode cX11_judgeSpellings 79 = .ok (.getfield 216, 3) := by decide +kernel
theorem dX11_judgeSpellings_82 : decode cX11_judgeSpellings 82 = .ok (.iushr, 1) := by decide +kernel
theorem dX11_judgeSpellings_83 : decode cX11_judgeSpellings 83 = .ok (.iconst 1, 1) := by decide +kernel
theorem dX11_judgeSpellings_84 : decode cX11_judgeSpellings 84 = .ok (.iand, 1) := by decide +kernel
theorem dX11_judgeSpellings_85 : decode cX11_judgeSpellings 85 = .ok (.iconst 1, 1) := by decide +kernel
theorem dX11_judgeSpellings_86 : decode cX11_judgeSpellings 86 = .ok (.if_icmp .ne 7, 3) := by decide +kernel
theorem dX11_judgeSpellings_89 : decode cX11_judgeSpellings 89 = .ok (.iconst 0, 1) := by decide +kernel
theorem dX11_judgeSpellings_90 : decode cX11_judgeSpellings 90 = .ok (.goto 6, 3) := by decide +kernel
theorem dX11_judgeSpellings_93 : decode cX11_judgeSpellings 93 = .ok (.sipush 3000, 3) := by decide +kernel
theorem dX11_judgeSpellings_96 : decode cX11_judgeSpellings 96 = .ok (.ireturn, 1) := by decide +kernel
abbrev rm_X11_judgeSpellings : Room := { frames := 6, cells := 0, slots := 0, locals := 144 }
def f_X11_judgeSpellings_4 (N : Nat) : Nat → Int32 → Int32 → St → Option (Int32 × St)
  | 0, _, _, _ => none
  | n + 1, x1, x2, σ => (if (σ.1 14402 0) ≤ x2 then (if ((ushr x1 (σ.1 5605 0)) &&& 1) = 1 then some (0, σ) else some (3000, σ)) else grd (ib x2 12) (bo (f_X7_look 1 (σ.1 68 x2.toNatClampNeg) σ) (fun σ4 => bo (f_X7_endsFromAny 26 24 N (σ4.1 5605 0) x1 σ4) (fun r5_ => (if r5_ = 0 then some (2000 + x2, σ4) else f_X11_judgeSpellings_4 N n r5_ (x2 + 1) σ4)))))
def f_X11_judgeSpellings (N : Nat) (σ : St) : Option (Int32 × St) := f_X11_judgeSpellings_4 N N 1 0 σ
section
variable {p : Program} {l : Launch} {e : Env} {s : State} {m : MethodId} {args : Array Value} {below : List Frame} {meth : Method} {c : Code} {g : XG}
set_option maxRecDepth 4000 in
theorem w_X11_judgeSpellings_4 (N : Nat) {r : Int32} {σ' : St} (C : xC KX g RX11 cX11_judgeSpellings 3 (some .int) p s m args meth c) : ∀ (n : Nat), ∀ (x1 : Int32) (x2 : Int32) (σ : St) (H : Heap) (locs : List Loc) (ls : Array Slot), xW KX g s σ H locs → lv_has ls 3 [(0, .ref (g.q 0)), (1, .int x1), (2, .int x2)] → f_X11_judgeSpellings_4 N n x1 x2 σ = some (r, σ') → W p l e rm_X11_judgeSpellings s m args below meth c H locs 0 0 (MQ below (xPost KX g (some (.int r)) σ') args s 0 0 (xA KX g.q)) (F0 m 4 ls []) := by
  have hx := C.1
  have hb := C.2.1
  intro n
  induction n with
  | zero => intro x1 x2 σ H locs ls hW hl h; rw [f_X11_judgeSpellings_4] at h; cases h
  | succ n ih =>
    intro x1 x2 σ H locs ls hW hl h
    rw [f_X11_judgeSpellings_4] at h
    refine lv_iload_n hx hb dX11_judgeSpellings_4 rfl (lv_at hl 2 rfl) ?_
    refine lv_aload_n hx hb dX11_judgeSpellings_5 rfl (lv_at hl 0 rfl) ?_
    refine xg_r C hW fg_11_90 KX_0 rfl dX11_judgeSpellings_6 ?_
    refine xg_i C hW fg_11_304 KX_67 rfl (v := 14402) rfl (x := σ.1 14402 0) rfl dX11_judgeSpellings_9 ?_
    refine lv_icmp_ge (tgt := 74) hx hb dX11_judgeSpellings_12 (by decide) (fun c1 => ?_) (fun c1 => ?_)
    · have h := xit c1 h
      refine lv_iload_n hx hb dX11_judgeSpellings_74 rfl (lv_at hl 1 rfl) ?_
      refine lv_aload_n hx hb dX11_judgeSpellings_75 rfl (lv_at hl 0 rfl) ?_
      refine xg_r C hW fg_11_40 KX_0 rfl dX11_judgeSpellings_76 ?_
      refine xg_i C hW fg_11_216 KX_23 rfl (v := 5605) rfl (x := σ.1 5605 0) rfl dX11_judgeSpellings_79 ?_
      refine lv_iushr (v := ushr x1 (σ.1 5605 0)) hx hb dX11_judgeSpellings_82 rfl ?_
      refine lv_iconst (v := 1) hx hb dX11_judgeSpellings_83 rfl ?_
      refine lv_iand hx hb dX11_judgeSpellings_84 ?_
      refine lv_iconst (v := 1) hx hb dX11_judgeSpellings_85 rfl ?_
      refine lv_icmp_ne (tgt := 93) hx hb dX11_judgeSpellings_86 (by decide) (fun c2 => ?_) (fun c2 => ?_)
      · have h := xif c2 h
        refine lv_sipush (v := 3000) hx hb dX11_judgeSpellings_93 rfl ?_
        cases h
        exact xr_i C hW dX11_judgeSpellings_96
      · have h := xit c2 h
        refine lv_iconst (v := 0) hx hb dX11_judgeSpellings_89 rfl ?_
        refine lv_goto (tgt := 96) hx hb dX11_judgeSpellings_90 (by decide) ?_
        cases h
        exact xr_i C hW dX11_judgeSpellings_96
    · have h := xif c1 h
      refine lv_aload_n hx hb dX11_judgeSpellings_15 rfl (lv_at hl 0 rfl) ?_
      refine xg_r C hW fg_11_56 KX_0 rfl dX11_judgeSpellings_16 ?_
      refine lv_aload_n hx hb dX11_judgeSpellings_19 rfl (lv_at hl 0 rfl) ?_
      refine xg_r C hW fg_11_19 KX_0 rfl dX11_judgeSpellings_20 ?_
      refine lv_aload_n hx hb dX11_judgeSpellings_23 rfl (lv_at hl 0 rfl) ?_
      refine xg_r C hW fg_11_90 KX_0 rfl dX11_judgeSpellings_24 ?_
      refine xg_r C hW fg_11_307 KX_67 rfl dX11_judgeSpellings_27 ?_
      refine lv_iload_n hx hb dX11_judgeSpellings_30 rfl (lv_at hl 2 rfl) ?_
      obtain ⟨g3, h⟩ := xgd h
      refine xa_i C hW KX_68 g3 (x := σ.1 68 x2.toNatClampNeg) rfl dX11_judgeSpellings_31 ?_
      obtain ⟨σ4, e4, h⟩ := xbo h
      refine xc_V (As := [.ref (g.q 1), .int (σ.1 68 x2.toNatClampNeg)]) (rest := []) C hW (m_X7_look 1 (Or.inl rfl) (σ.1 68 x2.toNatClampNeg) _ e4) mf_X7_look mv_X7_look ml_X11_342 ⟨rfl, rfl⟩ ⟨Nat.le_of_ble_eq_true rfl, Nat.le_of_ble_eq_true rfl⟩ KX_38 rfl hl.1 rfl rfl (Nat.le_of_ble_eq_true rfl) dX11_judgeSpellings_32 (fun H locs hW => W.eq (g2 := F0 m 35 ls []) rfl ?_)
      refine lv_aload_n hx hb dX11_judgeSpellings_35 rfl (lv_at hl 0 rfl) ?_
      refine xg_r C hW fg_11_56 KX_0 rfl dX11_judgeSpellings_36 ?_
      refine lv_aload_n hx hb dX11_judgeSpellings_39 rfl (lv_at hl 0 rfl) ?_
      refine xg_r C hW fg_11_40 KX_0 rfl dX11_judgeSpellings_40 ?_
      refine xg_r C hW fg_11_219 KX_23 rfl dX11_judgeSpellings_43 ?_
      refine lv_aload_n hx hb dX11_judgeSpellings_46 rfl (lv_at hl 0 rfl) ?_
      refine xg_r C hW fg_11_40 KX_0 rfl dX11_judgeSpellings_47 ?_
      refine xg_i C hW fg_11_216 KX_23 rfl (v := 5605) rfl (x := σ4.1 5605 0) rfl dX11_judgeSpellings_50 ?_
      refine lv_iload_n hx hb dX11_judgeSpellings_53 rfl (lv_at hl 1 rfl) ?_
      obtain ⟨r5_, e5, h⟩ := xbo h
      refine xc_V (As := [.ref (g.q 26), .int (σ4.1 5605 0), .int x1]) (rest := []) C hW (m_X7_endsFromAny 26 24 KX_26 N (σ4.1 5605 0) x1 _ e5) mf_X7_endsFromAny mv_X7_endsFromAny ml_X11_346 ⟨rfl, rfl⟩ ⟨Nat.le_of_ble_eq_true rfl, Nat.le_of_ble_eq_true rfl⟩ KX_38 rfl hl.1 rfl rfl (Nat.le_of_ble_eq_true rfl) dX11_judgeSpellings_54 (fun H locs hW => W.eq (g2 := F0 m 57 ls [.int r5_]) rfl ?_)
      refine lv_istore_n (lv' := [(1, .int r5_), (0, .ref (g.q 0)), (2, .int x2)]) hx hb dX11_judgeSpellings_57 rfl hl (Nat.le_of_ble_eq_true rfl) rfl (fun ls hl => ?_)
      refine lv_iload_n hx hb dX11_judgeSpellings_58 rfl (lv_at hl 0 rfl) ?_
      refine lv_if_ne (tgt := 68) hx hb dX11_judgeSpellings_59 (by decide) (fun c6 => ?_) (fun c6 => ?_)
      · have h := xif c6 h
        refine lv_iinc (v := x2 + 1) (lv' := [(2, .int (x2 + 1)), (1, .int r5_), (0, .ref (g.q 0))]) hx hb dX11_judgeSpellings_68 hl (k := 2) rfl rfl (Nat.le_of_ble_eq_true rfl) rfl (fun ls hl => ?_)
        refine lv_goto (tgt := 4) hx hb dX11_judgeSpellings_71 (by decide) ?_
        exact ih r5_ (x2 + 1) _ _ _ _ hW (lv_sub hl [2, 1, 0] rfl) h
      · have h := xit c6 h
        refine lv_sipush (v := 2000) hx hb dX11_judgeSpellings_62 rfl ?_
        refine lv_iload_n hx hb dX11_judgeSpellings_65 rfl (lv_at hl 2 rfl) ?_
        refine lv_iadd hx hb dX11_judgeSpellings_66 ?_
        cases h
        exact xr_i C hW dX11_judgeSpellings_67
set_option maxRecDepth 4000 in
theorem m_X11_judgeSpellings (N : Nat) (σ : St) {r : Int32} {σ' : St} (h : f_X11_judgeSpellings N σ = some (r, σ')) : xM l KX g yX11_judgeSpellings cX11_judgeSpellings 3 (some .int) rm_X11_judgeSpellings [.ref (g.q 0)] σ (some (.int r)) σ' := by
  refine xmet pn_X11 rfl (Nat.le_of_ble_eq_true rfl) (lv := [(0, .ref (g.q 0))]) rfl (fun p e s m args below meth c ls C hW hl => ?_)
  have hx := C.1
  have hb := C.2.1
  unfold f_X11_judgeSpellings at h
  refine lv_iconst (v := 1) hx hb dX11_judgeSpellings_0 rfl ?_
  refine lv_istore_n (lv' := [(1, .int 1), (0, .ref (g.q 0))]) hx hb dX11_judgeSpellings_1 rfl hl (Nat.le_of_ble_eq_true rfl) rfl (fun ls hl => ?_)
  refine lv_iconst (v := 0) hx hb dX11_judgeSpellings_2 rfl ?_
  refine lv_istore_n (lv' := [(2, .int 0), (1, .int 1), (0, .ref (g.q 0))]) hx hb dX11_judgeSpellings_3 rfl hl (Nat.le_of_ble_eq_true rfl) rfl (fun ls hl => ?_)
  exact w_X11_judgeSpellings_4 N C N 1 0 _ _ _ _ hW (lv_sub hl [2, 1, 0] rfl) h
end
