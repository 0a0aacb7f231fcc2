theorem dX7_covers_0 : decode cX7_covers 0 = .ok (.aload_n 0, 1) := by decide +kernel
theorem dX7_covers_1 : decode cX7_covers 1 = .ok (.getfield 17, 3) := by decide +kernel
theorem dX7_covers_4 : decode cX7_covers 4 = .ok (.getfield 65, 3) := by decide +kernel
theorem dX7_covers_7 : decode cX7_covers 7 = .ok (.iload_n 1, 1) := by decide +kernel
theorem dX7_covers_8 : decode cX7_covers 8 = .ok (.iaload, 1) := by decide +kernel
theorem dX7_covers_9 : decode cX7_covers 9 = .ok (.istore_n 3, 1) := by decide +kernel
theorem dX7_covers_10 : decode cX7_covers 10 = .ok (.iload_n 3, 1) := by decide +kernel
theorem dX7_covers_11 : decode cX7_covers 11 = .ok (.iconst 1, 1) := by decide +kernel
theorem dX7_covers_12 : decode cX7_covers 12 = .ok (.if_icmp .lt 17, 3) := by decide +kernel
theorem dX7_covers_15 : decode cX7_covers 15 = .ok (.iload_n 2, 1) := by decide +kernel
theorem dX7_covers_16 : decode cX7_covers 16 = .ok (.ifCond .lt 13, 3) := by decide +kernel
theorem dX7_covers_19 : decode cX7_covers 19 = .ok (.iload_n 2, 1) := by decide +kernel
theorem dX7_covers_20 : decode cX7_covers 20 = .ok (.iload_n 3, 1) := by decide +kernel
theorem dX7_covers_21 : decode cX7_covers 21 = .ok (.iadd, 1) := by decide +kernel
theorem dX7_covers_22 : decode cX7_covers 22 = .ok (.aload_n 0, 1) := by decide +kernel
theorem dX7_covers_23 : decode cX7_covers 23 = .ok (.getfield 55, 3) := by decide +kernel
theorem dX7_covers_26 : decode cX7_covers 26 = .ok (.if_icmp .le 5, 3) := by decide +kernel
theorem dX7_covers_29 : decode cX7_covers 29 = .ok (.iconst 0, 1) := by decide +kernel
theorem dX7_covers_30 : decode cX7_covers 30 = .ok (.ireturn, 1) := by decide +kernel
theorem dX7_covers_31 : decode cX7_covers 31 = .ok (.aload_n 0, 1) := by decide +kernel
theorem dX7_covers_32 : decode cX7_covers 32 = .ok (.getfield 49, 3) := by decide +kernel
theorem dX7_covers_35 : decode cX7_covers 35 = .ok (.iconst 4, 1) := by decide +kernel
theorem dX7_covers_36 : decode cX7_covers 36 = .ok (.iload_n 2, 1) := by decide +kernel
theorem dX7_covers_37 : decode cX7_covers 37 = .ok (.imul, 1) := by decide +kernel
theorem dX7_covers_38 : decode cX7_covers 38 = .ok (.iushr, 1) := by decide +kernel
theorem dX7_covers_39 : decode cX7_covers 39 = .ok (.iconst 1, 1) := by decide +kernel
theorem dX7_covers_40 : decode cX7_covers 40 = .ok (.iconst 4, 1) := by decide +kernel
theorem dX7_covers_41 : decode cX7_covers 41 = .ok (.iload_n 3, 1) := by decide +kernel
theorem dX7_covers_42 : decode cX7_covers 42 = .ok (.imul, 1) := by decide +kernel
theorem dX7_covers_43 : decode cX7_covers 43 = .ok (.ishl, 1) := by decide +kernel
theorem dX7_covers_44 : decode cX7_covers 44 = .ok (.iconst 1, 1) := by decide +kernel
theorem dX7_covers_45 : decode cX7_covers 45 = .ok (.isub, 1) := by decide +kernel
theorem dX7_covers_46 : decode cX7_covers 46 = .ok (.iand, 1) := by decide +kernel
theorem dX7_covers_47 : decode cX7_covers 47 = .ok (.aload_n 0, 1) := by decide +kernel
theorem dX7_covers_48 : decode cX7_covers 48 = .ok (.getfield 17, 3) := by decide +kernel
theorem dX7_covers_51 : decode cX7_covers 51 = .ok (.getfield 70, 3) := by decide +kernel
theorem dX7_covers_54 : decode cX7_covers 54 = .ok (.iload_n 1, 1) := by decide +kernel
theorem dX7_covers_55 : decode cX7_covers 55 = .ok (.iaload, 1) := by decide +kernel
theorem dX7_covers_56 : decode cX7_covers 56 = .ok (.if_icmp .ne 7, 3) := by decide +kernel
theorem dX7_covers_59 : decode cX7_covers 59 = .ok (.iconst 1, 1) := by decide +kernel
theorem dX7_covers_60 : decode cX7_covers 60 = .ok (.goto 4, 3) := by decide +kernel
theorem dX7_covers_63 : decode cX7_covers 63 = .ok (.iconst 0, 1) := by decide +kernel
theorem dX7_covers_64 : decode cX7_covers 64 = .ok (.ireturn, 1) := by decide +kernel
abbrev rm_X7_covers : Room := { frames := 0, cells := 0, slots := 0, locals := 0 }
def f_X7_covers (x1 : Int32) (x2 : Int32) (σ : St) : Option Int32 := grd (sgb (σ.1 8601 0)) (grd (ib x1 40) ((if (σ.1 (8 * ((σ.1 8601 0).toNatClampNeg) + 5 - 6) x1.toNatClampNeg) < 1 then some 0 else (if x2 < 0 then some 0 else (if (x2 + (σ.1 (8 * ((σ.1 8601 0).toNatClampNeg) + 5 - 6) x1.toNatClampNeg)) ≤ (σ.1 8606 0) then grd (sgb (σ.1 8601 0)) (grd (ib x1 40) ((if ((ushr (σ.1 8605 0) (4 * x2)) &&& ((1 <<< ((4 * (σ.1 (8 * ((σ.1 8601 0).toNatClampNeg) + 5 - 6) x1.toNatClampNeg)) &&& 31)) - 1)) = (σ.1 (8 * ((σ.1 8601 0).toNatClampNeg) + 6 - 6) x1.toNatClampNeg) then some 1 else some 0))) else some 0)))))
section
variable {p : Program} {l : Launch} {e : Env} {s : State} {m : MethodId} {args : Array Value} {below : List Frame} {meth : Method} {c : Code} {g : XG}
set_option maxRecDepth 4000 in
theorem m_X7_covers (x1 : Int32) (x2 : Int32) (σ : St) {r : Int32} (h : f_X7_covers x1 x2 σ = some r) : xM l KX g yX7_covers cX7_covers 4 (some .boolean) rm_X7_covers [.ref (g.q 38), .int x1, .int x2] σ (some (.int r)) σ := by
  refine xmet pn_X7 rfl (Nat.le_of_ble_eq_true rfl) (lv := [(0, .ref (g.q 38)), (1, .int x1), (2, .int x2)]) rfl (fun p e s m args below meth c ls C hW hl => ?_)
  have hx := C.1
  have hb := C.2.1
  unfold f_X7_covers at h
  refine lv_aload_n hx hb dX7_covers_0 rfl (lv_at hl 0 rfl) ?_
  obtain ⟨g1, h⟩ := xgd h
  refine xg_v C hW fg_7_17 KX_38 rfl (v := 8601) rfl (x := σ.1 8601 0) rfl dX7_covers_1 ?_
  refine xg_r C hW fg_7_65 (KX_sl (sgb_o g1)) rfl dX7_covers_4 ?_
  refine lv_iload_n hx hb dX7_covers_7 rfl (lv_at hl 1 rfl) ?_
  obtain ⟨g2, h⟩ := xgd h
  refine xa_i C hW (KX_sl_5 (sgb_o g1)) g2 (x := σ.1 (8 * ((σ.1 8601 0).toNatClampNeg) + 5 - 6) x1.toNatClampNeg) rfl dX7_covers_8 ?_
  refine lv_istore_n (lv' := [(3, .int (σ.1 (8 * ((σ.1 8601 0).toNatClampNeg) + 5 - 6) x1.toNatClampNeg)), (0, .ref (g.q 38)), (1, .int x1), (2, .int x2)]) hx hb dX7_covers_9 rfl hl (Nat.le_of_ble_eq_true rfl) rfl (fun ls hl => ?_)
  refine lv_iload_n hx hb dX7_covers_10 rfl (lv_at hl 0 rfl) ?_
  refine lv_iconst (v := 1) hx hb dX7_covers_11 rfl ?_
  refine lv_icmp_lt (tgt := 29) hx hb dX7_covers_12 (by decide) (fun c3 => ?_) (fun c3 => ?_)
  · have h := xit c3 h
    refine lv_iconst (v := 0) hx hb dX7_covers_29 rfl ?_
    cases h
    exact xr_z C hW (by decide) dX7_covers_30
  · have h := xif c3 h
    refine lv_iload_n hx hb dX7_covers_15 rfl (lv_at hl 3 rfl) ?_
    refine lv_if_lt (tgt := 29) hx hb dX7_covers_16 (by decide) (fun c4 => ?_) (fun c4 => ?_)
    · have h := xit c4 h
      refine lv_iconst (v := 0) hx hb dX7_covers_29 rfl ?_
      cases h
      exact xr_z C hW (by decide) dX7_covers_30
    · have h := xif c4 h
      refine lv_iload_n hx hb dX7_covers_19 rfl (lv_at hl 3 rfl) ?_
      refine lv_iload_n hx hb dX7_covers_20 rfl (lv_at hl 0 rfl) ?_
      refine lv_iadd hx hb dX7_covers_21 ?_
      refine lv_aload_n hx hb dX7_covers_22 rfl (lv_at hl 1 rfl) ?_
      refine xg_i C hW fg_7_55 KX_38 rfl (v := 8606) rfl (x := σ.1 8606 0) rfl dX7_covers_23 ?_
      refine lv_icmp_le (tgt := 31) hx hb dX7_covers_26 (by decide) (fun c5 => ?_) (fun c5 => ?_)
      · have h := xit c5 h
        refine lv_aload_n hx hb dX7_covers_31 rfl (lv_at hl 1 rfl) ?_
        refine xg_i C hW fg_7_49 KX_38 rfl (v := 8605) rfl (x := σ.1 8605 0) rfl dX7_covers_32 ?_
        refine lv_iconst (v := 4) hx hb dX7_covers_35 rfl ?_
        refine lv_iload_n hx hb dX7_covers_36 rfl (lv_at hl 3 rfl) ?_
        refine lv_imul hx hb dX7_covers_37 ?_
        refine lv_iushr (v := ushr (σ.1 8605 0) (4 * x2)) hx hb dX7_covers_38 rfl ?_
        refine lv_iconst (v := 1) hx hb dX7_covers_39 rfl ?_
        refine lv_iconst (v := 4) hx hb dX7_covers_40 rfl ?_
        refine lv_iload_n hx hb dX7_covers_41 rfl (lv_at hl 0 rfl) ?_
        refine lv_imul hx hb dX7_covers_42 ?_
        refine lv_ishl hx hb dX7_covers_43 ?_
        refine lv_iconst (v := 1) hx hb dX7_covers_44 rfl ?_
        refine lv_isub hx hb dX7_covers_45 ?_
        refine lv_iand hx hb dX7_covers_46 ?_
        refine lv_aload_n hx hb dX7_covers_47 rfl (lv_at hl 1 rfl) ?_
        obtain ⟨g6, h⟩ := xgd h
        refine xg_v C hW fg_7_17 KX_38 rfl (v := 8601) rfl (x := σ.1 8601 0) rfl dX7_covers_48 ?_
        refine xg_r C hW fg_7_70 (KX_sl (sgb_o g6)) rfl dX7_covers_51 ?_
        refine lv_iload_n hx hb dX7_covers_54 rfl (lv_at hl 2 rfl) ?_
        obtain ⟨g7, h⟩ := xgd h
        refine xa_i C hW (KX_sl_6 (sgb_o g6)) g7 (x := σ.1 (8 * ((σ.1 8601 0).toNatClampNeg) + 6 - 6) x1.toNatClampNeg) rfl dX7_covers_55 ?_
        refine lv_icmp_ne (tgt := 63) hx hb dX7_covers_56 (by decide) (fun c8 => ?_) (fun c8 => ?_)
        · have h := xif c8 h
          refine lv_iconst (v := 0) hx hb dX7_covers_63 rfl ?_
          cases h
          exact xr_z C hW (by decide) dX7_covers_64
        · have h := xit c8 h
          refine lv_iconst (v := 1) hx hb dX7_covers_59 rfl ?_
          refine lv_goto (tgt := 64) hx hb dX7_covers_60 (by decide) ?_
          cases h
          exact xr_z C hW (by decide) dX7_covers_64
      · have h := xif c5 h
        refine lv_iconst (v := 0) hx hb dX7_covers_29 rfl ?_
        cases h
        exact xr_z C hW (by decide) dX7_covers_30
end
theorem dX11_soundAt_0 : decode cX11_soundAt 0 = .ok (.iload_n 0, 1) := by decide +kernel
theorem dX11_soundAt_1 : decode cX11_soundAt 1 = .ok (.iconst 4, 1) := by decide +kernel
theorem dX11_soundAt_2 : decode cX11_soundAt 2 = .ok (.iload_n 1, 1) := by decide +kernel
theorem dX11_soundAt_3 : decode cX11_soundAt 3 = .ok (.imul, 1) := by decide +kernel
theorem dX11_soundAt_4 : decode cX11_soundAt 4 = .ok (.iushr, 1) := by decide +kernel
theorem dX11_soundAt_5 : decode cX11_soundAt 5 = .ok (.bipush 15, 2) := by decide +kernel
theorem dX11_soundAt_7 : decode cX11_soundAt 7 = .ok (.iand, 1) := by decide +kernel
theorem dX11_soundAt_8 : decode cX11_soundAt 8 = .ok (.ireturn, 1) := by decide +kernel
abbrev rm_X11_soundAt : Room := { frames := 0, cells := 0, slots := 0, locals := 0 }
def f_X11_soundAt (x0 : Int32) (x1 : Int32) (σ : St) : Int32 := (ushr x0 (4 * x1)) &&& 15
section
variable {p : Program} {l : Launch} {e : Env} {s : State} {m : MethodId} {args : Array Value} {below : List Frame} {meth : Method} {c : Code} {g : XG}
set_option maxRecDepth 4000 in
theorem m_X11_soundAt (x0 : Int32) (x1 : Int32) (σ : St) {r : Int32} (h : f_X11_soundAt x0 x1 σ = r) : xM l KX g yX11_soundAt cX11_soundAt 2 (some .int) rm_X11_soundAt [.int x0, .int x1] σ (some (.int r)) σ := by
  refine xmet pn_X11 rfl (Nat.le_of_ble_eq_true rfl) (lv := [(0, .int x0), (1, .int x1)]) rfl (fun p e s m args below meth c ls C hW hl => ?_)
  have hx := C.1
  have hb := C.2.1
  unfold f_X11_soundAt at h
  refine lv_iload_n hx hb dX11_soundAt_0 rfl (lv_at hl 0 rfl) ?_
  refine lv_iconst (v := 4) hx hb dX11_soundAt_1 rfl ?_
  refine lv_iload_n hx hb dX11_soundAt_2 rfl (lv_at hl 1 rfl) ?_
  refine lv_imul hx hb dX11_soundAt_3 ?_
  refine lv_iushr (v := ushr x0 (4 * x1)) hx hb dX11_soundAt_4 rfl ?_
  refine lv_bipush (v := 15) hx hb dX11_soundAt_5 rfl ?_
  refine lv_iand hx hb dX11_soundAt_7 ?_
  cases h
  exact xr_i C hW dX11_soundAt_8
end
theorem dX7_echoes_0 : decode cX7_echoes 0 = .ok (.aload_n 0, 1) := by decide +kernel
theorem dX7_echoes_1 : decode cX7_echoes 1 = .ok (.getfield 17, 3) := by decide +kernel
theorem dX7_echoes_4 : decode cX7_echoes 4 = .ok (.getfield 65, 3) := by decide +kernel
theorem dX7_echoes_7 : decode cX7_echoes 7 = .ok (.iload_n 1, 1) := by decide +kernel
theorem dX7_echoes_8 : decode cX7_echoes 8 = .ok (.iaload, 1) := by decide +kernel
theorem dX7_echoes_9 : decode cX7_echoes 9 = .ok (.iconst 1, 1) := by decide +kernel
theorem dX7_echoes_10 : decode cX7_echoes 10 = .ok (.if_icmp .ne 33, 3) := by decide +kernel
theorem dX7_echoes_13 : decode cX7_echoes 13 = .ok (.iload_n 2, 1) := by decide +kernel
theorem dX7_echoes_14 : decode cX7_echoes 14 = .ok (.ifCond .le 29, 3) := by decide +kernel
theorem dX7_echoes_17 : decode cX7_echoes 17 = .ok (.aload_n 0, 1) := by decide +kernel
theorem dX7_echoes_18 : decode cX7_echoes 18 = .ok (.getfield 49, 3) := by decide +kernel
theorem dX7_echoes_21 : decode cX7_echoes 21 = .ok (.iload_n 2, 1) := by decide +kernel
theorem dX7_echoes_22 : decode cX7_echoes 22 = .ok (.iconst 1, 1) := by decide +kernel
theorem dX7_echoes_23 : decode cX7_echoes 23 = .ok (.isub, 1) := by decide +kernel
theorem dX7_echoes_24 : decode cX7_echoes 24 = .ok (.invokestatic 71, 3) := by decide +kernel
theorem dX7_echoes_27 : decode cX7_echoes 27 = .ok (.aload_n 0, 1) := by decide +kernel
theorem dX7_echoes_28 : decode cX7_echoes 28 = .ok (.getfield 17, 3) := by decide +kernel
theorem dX7_echoes_31 : decode cX7_echoes 31 = .ok (.getfield 70, 3) := by decide +kernel
theorem dX7_echoes_34 : decode cX7_echoes 34 = .ok (.iload_n 1, 1) := by decide +kernel
theorem dX7_echoes_35 : decode cX7_echoes 35 = .ok (.iaload, 1) := by decide +kernel
theorem dX7_echoes_36 : decode cX7_echoes 36 = .ok (.if_icmp .ne 7, 3) := by decide +kernel
theorem dX7_echoes_39 : decode cX7_echoes 39 = .ok (.iconst 1, 1) := by decide +kernel
theorem dX7_echoes_40 : decode cX7_echoes 40 = .ok (.goto 4, 3) := by decide +kernel
theorem dX7_echoes_43 : decode cX7_echoes 43 = .ok (.iconst 0, 1) := by decide +kernel
theorem dX7_echoes_44 : decode cX7_echoes 44 = .ok (.ireturn, 1) := by decide +kernel
abbrev rm_X7_echoes : Room := { frames := 1, cells := 0, slots := 0, locals := 21 }
def f_X7_echoes (x1 : Int32) (x2 : Int32) (σ : St) : Option Int32 := grd (sgb (σ.1 8601 0)) (grd (ib x1 40) ((if (σ.1 (8 * ((σ.1 8601 0).toNatClampNeg) + 5 - 6) x1.toNatClampNeg) = 1 then (if x2 ≤ 0 then some 0 else grd (sgb (σ.1 8601 0)) (grd (ib x1 40) ((if (f_X11_soundAt (σ.1 8605 0) (x2 - 1) σ) = (σ.1 (8 * ((σ.1 8601 0).toNatClampNeg) + 6 - 6) x1.toNatClampNeg) then some 1 else some 0)))) else some 0)))
section
variable {p : Program} {l : Launch} {e : Env} {s : State} {m : MethodId} {args : Array Value} {below : List Frame} {meth : Method} {c : Code} {g : XG}
set_option maxRecDepth 4000 in
theorem m_X7_echoes (x1 : Int32) (x2 : Int32) (σ : St) {r : Int32} (h : f_X7_echoes x1 x2 σ = some r) : xM l KX g yX7_echoes cX7_echoes 3 (some .boolean) rm_X7_echoes [.ref (g.q 38), .int x1, .int x2] σ (some (.int r)) σ := by
  refine xmet pn_X7 rfl (Nat.le_of_ble_eq_true rfl) (lv := [(0, .ref (g.q 38)), (1, .int x1), (2, .int x2)]) rfl (fun p e s m args below meth c ls C hW hl => ?_)
  have hx := C.1
  have hb := C.2.1
  unfold f_X7_echoes at h
  refine lv_aload_n hx hb dX7_echoes_0 rfl (lv_at hl 0 rfl) ?_
  obtain ⟨g1, h⟩ := xgd h
  refine xg_v C hW fg_7_17 KX_38 rfl (v := 8601) rfl (x := σ.1 8601 0) rfl dX7_echoes_1 ?_
  refine xg_r C hW fg_7_65 (KX_sl (sgb_o g1)) rfl dX7_echoes_4 ?_
  refine lv_iload_n hx hb dX7_echoes_7 rfl (lv_at hl 1 rfl) ?_
  obtain ⟨g2, h⟩ := xgd h
  refine xa_i C hW (KX_sl_5 (sgb_o g1)) g2 (x := σ.1 (8 * ((σ.1 8601 0).toNatClampNeg) + 5 - 6) x1.toNatClampNeg) rfl dX7_echoes_8 ?_
  refine lv_iconst (v := 1) hx hb dX7_echoes_9 rfl ?_
  refine lv_icmp_ne (tgt := 43) hx hb dX7_echoes_10 (by decide) (fun c3 => ?_) (fun c3 => ?_)
  · have h := xif c3 h
    refine lv_iconst (v := 0) hx hb dX7_echoes_43 rfl ?_
    cases h
    exact xr_z C hW (by decide) dX7_echoes_44
  · have h := xit c3 h
    refine lv_iload_n hx hb dX7_echoes_13 rfl (lv_at hl 2 rfl) ?_
    refine lv_if_le (tgt := 43) hx hb dX7_echoes_14 (by decide) (fun c4 => ?_) (fun c4 => ?_)
    · have h := xit c4 h
      refine lv_iconst (v := 0) hx hb dX7_echoes_43 rfl ?_
      cases h
      exact xr_z C hW (by decide) dX7_echoes_44
    · have h := xif c4 h
      refine lv_aload_n hx hb dX7_echoes_17 rfl (lv_at hl 0 rfl) ?_
      refine xg_i C hW fg_7_49 KX_38 rfl (v := 8605) rfl (x := σ.1 8605 0) rfl dX7_echoes_18 ?_
      refine lv_iload_n hx hb dX7_echoes_21 rfl (lv_at hl 2 rfl) ?_
      refine lv_iconst (v := 1) hx hb dX7_echoes_22 rfl ?_
      refine lv_isub hx hb dX7_echoes_23 ?_
      refine xc_SN (As := [.int (σ.1 8605 0), .int (x2 - 1)]) (rest := []) C hW (m_X11_soundAt (σ.1 8605 0) (x2 - 1) _ rfl) mf_X11_soundAt mt_X11_soundAt xn_X7_71 ⟨rfl, rfl⟩ ⟨Nat.le_of_ble_eq_true rfl, Nat.le_of_ble_eq_true rfl⟩ hl.1 rfl rfl (Nat.le_of_ble_eq_true rfl) dX7_echoes_24 (fun H locs hW => W.eq (g2 := F0 m 27 ls [.int (f_X11_soundAt (σ.1 8605 0) (x2 - 1) σ)]) rfl ?_)
      refine lv_aload_n hx hb dX7_echoes_27 rfl (lv_at hl 0 rfl) ?_
      obtain ⟨g5, h⟩ := xgd h
      refine xg_v C hW fg_7_17 KX_38 rfl (v := 8601) rfl (x := σ.1 8601 0) rfl dX7_echoes_28 ?_
      refine xg_r C hW fg_7_70 (KX_sl (sgb_o g5)) rfl dX7_echoes_31 ?_
      refine lv_iload_n hx hb dX7_echoes_34 rfl (lv_at hl 1 rfl) ?_
      obtain ⟨g6, h⟩ := xgd h
      refine xa_i C hW (KX_sl_6 (sgb_o g5)) g6 (x := σ.1 (8 * ((σ.1 8601 0).toNatClampNeg) + 6 - 6) x1.toNatClampNeg) rfl dX7_echoes_35 ?_
      refine lv_icmp_ne (tgt := 43) hx hb dX7_echoes_36 (by decide) (fun c7 => ?_) (fun c7 => ?_)
      · have h := xif c7 h
        refine lv_iconst (v := 0) hx hb dX7_echoes_43 rfl ?_
        cases h
        exact xr_z C hW (by decide) dX7_echoes_44
      · have h := xit c7 h
        refine lv_iconst (v := 1) hx hb dX7_echoes_39 rfl ?_
        refine lv_goto (tgt := 44) hx hb dX7_echoes_40 (by decide) ?_
        cases h
        exact xr_z C hW (by decide) dX7_echoes_44
end
theorem dX7_step_0 : decode cX7_step 0 = .ok (.iconst 0, 1) := by decide +kernel
theorem dX7_step_1 : decode cX7_step 1 = .ok (.istore 4, 2) := by decide +kernel
theorem dX7_step_3 : decode cX7_step 3 = .ok (.iconst 0, 1) := by decide +kernel
theorem dX7_step_4 : decode cX7_step 4 = .ok (.istore 5, 2) := by decide +kernel
theorem dX7_step_6 : decode cX7_step 6 = .ok (.iload 5, 2) := by decide +kernel
theorem dX7_step_8 : decode cX7_step 8 = .ok (.aload_n 0, 1) := by decide +kernel
theorem dX7_step_9 : decode cX7_step 9 = .ok (.getfield 26, 3) := by decide +kernel
theorem dX7_step_12 : decode cX7_step 12 = .ok (.if_icmp .gt 78, 3) := by decide +kernel
theorem dX7_step_15 : decode cX7_step 15 = .ok (.iload_n 1, 1) := by decide +kernel
theorem dX7_step_16 : decode cX7_step 16 = .ok (.iload 5, 2) := by decide +kernel
theorem dX7_step_18 : decode cX7_step 18 = .ok (.iushr, 1) := by decide +kernel
theorem dX7_step_19 : decode cX7_step 19 = .ok (.iconst 1, 1) := by decide +kernel
theorem dX7_step_20 : decode cX7_step 20 = .ok (.iand, 1) := by decide +kernel
theorem dX7_step_21 : decode cX7_step 21 = .ok (.ifCond .ne 6, 3) := by decide +kernel
theorem dX7_step_24 : decode cX7_step 24 = .ok (.goto 60, 3) := by decide +kernel
theorem dX7_step_27 : decode cX7_step 27 = .ok (.aload_n 0, 1) := by decide +kernel
theorem dX7_step_28 : decode cX7_step 28 = .ok (.iload_n 3, 1) := by decide +kernel
theorem dX7_step_29 : decode cX7_step 29 = .ok (.iload_n 2, 1) := by decide +kernel
theorem dX7_step_30 : decode cX7_step 30 = .ok (.iload 5, 2) := by decide +kernel
theorem dX7_step_32 : decode cX7_step 32 = .ok (.isub, 1) := by decide +kernel
theorem dX7_step_33 : decode cX7_step 33 = .ok (.invokevirtual 66, 3) := by decide +kernel
theorem dX7_step_36 : decode cX7_step 36 = .ok (.ifCond .eq 12, 3) := by decide +kernel
theorem dX7_step_39 : decode cX7_step 39 = .ok (.iload 4, 2) := by decide +kernel
theorem dX7_step_41 : decode cX7_step 41 = .ok (.iconst 1, 1) := by decide +kernel
theorem dX7_step_42 : decode cX7_step 42 = .ok (.iload 5, 2) := by decide +kernel
theorem dX7_step_44 : decode cX7_step 44 = .ok (.ishl, 1) := by decide +kernel
theorem dX7_step_45 : decode cX7_step 45 = .ok (.ior, 1) := by decide +kernel
theorem dX7_step_46 : decode cX7_step 46 = .ok (.istore 4, 2) := by decide +kernel
theorem dX7_step_48 : decode cX7_step 48 = .ok (.iload_n 1, 1) := by decide +kernel
theorem dX7_step_49 : decode cX7_step 49 = .ok (.bipush 16, 2) := by decide +kernel
theorem dX7_step_51 : decode cX7_step 51 = .ok (.if_icmp .lt 33, 3) := by decide +kernel
theorem dX7_step_54 : decode cX7_step 54 = .ok (.iload 5, 2) := by decide +kernel
theorem dX7_step_56 : decode cX7_step 56 = .ok (.aload_n 0, 1) := by decide +kernel
theorem dX7_step_57 : decode cX7_step 57 = .ok (.getfield 26, 3) := by decide +kernel
theorem dX7_step_60 : decode cX7_step 60 = .ok (.if_icmp .ge 24, 3) := by decide +kernel
theorem dX7_step_63 : decode cX7_step 63 = .ok (.aload_n 0, 1) := by decide +kernel
theorem dX7_step_64 : decode cX7_step 64 = .ok (.iload_n 3, 1) := by decide +kernel
theorem dX7_step_65 : decode cX7_step 65 = .ok (.iload_n 2, 1) := by decide +kernel
theorem dX7_step_66 : decode cX7_step 66 = .ok (.iload 5, 2) := by decide +kernel
theorem dX7_step_68 : decode cX7_step 68 = .ok (.isub, 1) := by decide +kernel
theorem dX7_step_69 : decode cX7_step 69 = .ok (.invokevirtual 77, 3) := by decide +kernel
theorem dX7_step_72 : decode cX7_step 72 = .ok (.ifCond .eq 12, 3) := by decide +kernel
theorem dX7_step_75 : decode cX7_step 75 = .ok (.iload 4, 2) := by decide +kernel
theorem dX7_step_77 : decode cX7_step 77 = .ok (.iconst 2, 1) := by decide +kernel
theorem dX7_step_78 : decode cX7_step 78 = .ok (.iload 5, 2) := by decide +kernel
theorem dX7_step_80 : decode cX7_step 80 = .ok (.ishl, 1) := by decide +kernel
theorem dX7_step_81 : decode cX7_step 81 = .ok (.ior, 1) := by decide +kernel
theorem dX7_step_82 : decode cX7_step 82 = .ok (.istore 4, 2) := by decide +kernel
theorem dX7_step_84 : decode cX7_step 84 = .ok (.iinc 5 1, 3) := by decide +kernel
theorem dX7_step_87 : decode cX7_step 87 = .ok (.goto (-81), 3) := by decide +kernel
theorem dX7_step_90 : decode cX7_step 90 = .ok (.iload 4, 2) := by decide +kernel
theorem dX7_step_92 : decode cX7_step 92 = .ok (.ifCond .eq 24, 3) := by decide +kernel
theorem dX7_step_95 : decode cX7_step 95 = .ok (.aload_n 0, 1) := by decide +kernel
theorem dX7_step_96 : decode cX7_step 96 = .ok (.getfield 17, 3) := by decide +kernel
theorem dX7_step_99 : decode cX7_step 99 = .ok (.getfield 65, 3) := by decide +kernel
theorem dX7_step_102 : decode cX7_step 102 = .ok (.iload_n 3, 1) := by decide +kernel
theorem dX7_step_103 : decode cX7_step 103 = .ok (.iaload, 1) := by decide +kernel
theorem dX7_step_104 : decode cX7_step 104 = .ok (.iconst 1, 1) := by decide +kernel
theorem dX7_step_105 : decode cX7_step 105 = .ok (.if_icmp .le 11, 3) := by decide +kernel
theorem dX7_step_108 : decode cX7_step 108 = .ok (.iload 4, 2) := by decide +kernel
theorem dX7_step_110 : decode cX7_step 110 = .ok (.bipush 16, 2) := by decide +kernel
theorem dX7_step_112 : decode cX7_step 112 = .ok (.ior, 1) := by decide +kernel
theorem dX7_step_113 : decode cX7_step 113 = .ok (.goto 5, 3) := by decide +kernel
theorem dX7_step_116 : decode cX7_step 116 = .ok (.iload 4, 2) := by decide +kernel
theorem dX7_step_118 : decode cX7_step 118 = .ok (.ireturn, 1) := by decide +kernel
abbrev rm_X7_step : Room := { frames := 2, cells := 0, slots := 0, locals := 43 }
def f_X7_step_48 (N : Nat) (k6 : Int32 → Int32 → Int32 → Int32 → Int32 → St → Option Int32) (x1 : Int32) (x2 : Int32) (x3 : Int32) (x4 : Int32) (x5 : Int32) (σ : St) : Option Int32 := (if x1 < 16 then k6 x1 x2 x3 x4 (x5 + 1) σ else (if (σ.1 8602 0) ≤ x5 then k6 x1 x2 x3 x4 (x5 + 1) σ else bo (f_X7_echoes x3 (x2 - x5) σ) (fun r11_ => (if r11_ = 0 then k6 x1 x2 x3 x4 (x5 + 1) σ else k6 x1 x2 x3 (x4 ||| (2 <<< (x5 &&& 31))) (x5 + 1) σ))))
def f_X7_step_6 (N : Nat) : Nat → Int32 → Int32 → Int32 → Int32 → Int32 → St → Option Int32
  | 0, _, _, _, _, _, _ => none
  | n + 1, x1, x2, x3, x4, x5, σ => (if (σ.1 8602 0) < x5 then (if x4 = 0 then some x4 else grd (sgb (σ.1 8601 0)) (grd (ib x3 40) ((if (σ.1 (8 * ((σ.1 8601 0).toNatClampNeg) + 5 - 6) x3.toNatClampNeg) ≤ 1 then some x4 else some (x4 ||| 16))))) else (if ((ushr x1 x5) &&& 1) = 0 then f_X7_step_6 N n x1 x2 x3 x4 (x5 + 1) σ else bo (f_X7_covers x3 (x2 - x5) σ) (fun r7_ => (if r7_ = 0 then f_X7_step_48 N (f_X7_step_6 N n) x1 x2 x3 x4 x5 σ else f_X7_step_48 N (f_X7_step_6 N n) x1 x2 x3 (x4 ||| (1 <<< (x5 &&& 31))) x5 σ))))
def f_X7_step (N : Nat) (x1 : Int32) (x2 : Int32) (x3 : Int32) (σ : St) : Option Int32 := f_X7_step_6 N N x1 x2 x3 0 0 σ
section
variable {p : Program} {l : Launch} {e : Env} {s : State} {m : MethodId} {args : Array Value} {below : List Frame} {meth : Method} {c : Code} {g : XG}
set_option maxRecDepth 4000 in
theorem w_X7_step_48 (N : Nat) (k6 : Int32 → Int32 → Int32 → Int32 → Int32 → St → Option Int32) (σ : St) {r : Int32} (C : xC KX g RX7 cX7_step 6 (some .int) p s m args meth c) (hk6 : ∀ (x1 : Int32) (x2 : Int32) (x3 : Int32) (x4 : Int32) (x5 : Int32) (H : Heap) (locs : List Loc) (ls : Array Slot), xW KX g s σ H locs → lv_has ls 6 [(0, .ref (g.q 38)), (1, .int x1), (2, .int x2), (3, .int x3), (4, .int x4), (5, .int x5)] → k6 x1 x2 x3 x4 x5 σ = some r → W p l e rm_X7_step s m args below meth c H locs 0 0 (MQ below (xPost KX g (some (.int r)) σ) args s 0 0 (xA KX g.q)) (F0 m 6 ls [])) : ∀ (x1 : Int32) (x2 : Int32) (x3 : Int32) (x4 : Int32) (x5 : Int32) (H : Heap) (locs : List Loc) (ls : Array Slot), xW KX g s σ H locs → lv_has ls 6 [(0, .ref (g.q 38)), (1, .int x1), (2, .int x2), (3, .int x3), (4, .int x4), (5, .int x5)] → f_X7_step_48 N k6 x1 x2 x3 x4 x5 σ = some r → W p l e rm_X7_step s m args below meth c H locs 0 0 (MQ below (xPost KX g (some (.int r)) σ) args s 0 0 (xA KX g.q)) (F0 m 48 ls []) := by
  have hx := C.1
  have hb := C.2.1
  intro x1 x2 x3 x4 x5 H locs ls hW hl h
  unfold f_X7_step_48 at h
  refine lv_iload_n hx hb dX7_step_48 rfl (lv_at hl 1 rfl) ?_
  refine lv_bipush (v := 16) hx hb dX7_step_49 rfl ?_
  refine lv_icmp_lt (tgt := 84) hx hb dX7_step_51 (by decide) (fun c9 => ?_) (fun c9 => ?_)
  · have h := xit c9 h
    refine lv_iinc (v := x5 + 1) (lv' := [(5, .int (x5 + 1)), (0, .ref (g.q 38)), (1, .int x1), (2, .int x2), (3, .int x3), (4, .int x4)]) hx hb dX7_step_84 hl (k := 5) rfl rfl (Nat.le_of_ble_eq_true rfl) rfl (fun ls hl => ?_)
    refine lv_goto (tgt := 6) hx hb dX7_step_87 (by decide) ?_
    exact hk6 x1 x2 x3 x4 (x5 + 1) _ _ _ hW (lv_sub hl [1, 2, 3, 4, 5, 0] rfl) h
  · have h := xif c9 h
    refine lv_iload hx hb dX7_step_54 (lv_at hl 5 rfl) ?_
    refine lv_aload_n hx hb dX7_step_56 rfl (lv_at hl 0 rfl) ?_
    refine xg_i C hW fg_7_26 KX_38 rfl (v := 8602) rfl (x := σ.1 8602 0) rfl dX7_step_57 ?_
    refine lv_icmp_ge (tgt := 84) hx hb dX7_step_60 (by decide) (fun c10 => ?_) (fun c10 => ?_)
    · have h := xit c10 h
      refine lv_iinc (v := x5 + 1) (lv' := [(5, .int (x5 + 1)), (0, .ref (g.q 38)), (1, .int x1), (2, .int x2), (3, .int x3), (4, .int x4)]) hx hb dX7_step_84 hl (k := 5) rfl rfl (Nat.le_of_ble_eq_true rfl) rfl (fun ls hl => ?_)
      refine lv_goto (tgt := 6) hx hb dX7_step_87 (by decide) ?_
      exact hk6 x1 x2 x3 x4 (x5 + 1) _ _ _ hW (lv_sub hl [1, 2, 3, 4, 5, 0] rfl) h
    · have h := xif c10 h
      refine lv_aload_n hx hb dX7_step_63 rfl (lv_at hl 0 rfl) ?_
      refine lv_iload_n hx hb dX7_step_64 rfl (lv_at hl 3 rfl) ?_
      refine lv_iload_n hx hb dX7_step_65 rfl (lv_at hl 2 rfl) ?_
      refine lv_iload hx hb dX7_step_66 (lv_at hl 5 rfl) ?_
      refine lv_isub hx hb dX7_step_68 ?_
      obtain ⟨r11_, e11, h⟩ := xbo h
      refine xc_V (As := [.int x3, .int (x2 - x5)]) (rest := []) C hW (m_X7_echoes x3 (x2 - x5) _ e11) mf_X7_echoes mv_X7_echoes ml_X7_77 ⟨rfl, rfl⟩ ⟨Nat.le_of_ble_eq_true rfl, Nat.le_of_ble_eq_true rfl⟩ KX_38 rfl hl.1 rfl rfl (Nat.le_of_ble_eq_true rfl) dX7_step_69 (fun H locs hW => W.eq (g2 := F0 m 72 ls [.int r11_]) rfl ?_)
      refine lv_if_eq (tgt := 84) hx hb dX7_step_72 (by decide) (fun c12 => ?_) (fun c12 => ?_)
      · have h := xit c12 h
        refine lv_iinc (v := x5 + 1) (lv' := [(5, .int (x5 + 1)), (0, .ref (g.q 38)), (1, .int x1), (2, .int x2), (3, .int x3), (4, .int x4)]) hx hb dX7_step_84 hl (k := 5) rfl rfl (Nat.le_of_ble_eq_true rfl) rfl (fun ls hl => ?_)
        refine lv_goto (tgt := 6) hx hb dX7_step_87 (by decide) ?_
        exact hk6 x1 x2 x3 x4 (x5 + 1) _ _ _ hW (lv_sub hl [1, 2, 3, 4, 5, 0] rfl) h
      · have h := xif c12 h
        refine lv_iload hx hb dX7_step_75 (lv_at hl 4 rfl) ?_
        refine lv_iconst (v := 2) hx hb dX7_step_77 rfl ?_
        refine lv_iload hx hb dX7_step_78 (lv_at hl 5 rfl) ?_
        refine lv_ishl hx hb dX7_step_80 ?_
        refine lv_ior hx hb dX7_step_81 ?_
        refine lv_istore (lv' := [(4, .int (x4 ||| (2 <<< (x5 &&& 31)))), (0, .ref (g.q 38)), (1, .int x1), (2, .int x2), (3, .int x3), (5, .int x5)]) hx hb dX7_step_82 hl (Nat.le_of_ble_eq_true rfl) rfl (fun ls hl => ?_)
        refine lv_iinc (v := x5 + 1) (lv' := [(5, .int (x5 + 1)), (4, .int (x4 ||| (2 <<< (x5 &&& 31)))), (0, .ref (g.q 38)), (1, .int x1), (2, .int x2), (3, .int x3)]) hx hb dX7_step_84 hl (k := 5) rfl rfl (Nat.le_of_ble_eq_true rfl) rfl (fun ls hl => ?_)
        refine lv_goto (tgt := 6) hx hb dX7_step_87 (by decide) ?_
        exact hk6 x1 x2 x3 (x4 ||| (2 <<< (x5 &&& 31))) (x5 + 1) _ _ _ hW (lv_sub hl [2, 3, 4, 5, 1, 0] rfl) h
set_option maxRecDepth 4000 in
theorem w_X7_step_6 (N : Nat) (σ : St) {r : Int32} (C : xC KX g RX7 cX7_step 6 (some .int) p s m args meth c) : ∀ (n : Nat), ∀ (x1 : Int32) (x2 : Int32) (x3 : Int32) (x4 : Int32) (x5 : Int32) (H : Heap) (locs : List Loc) (ls : Array Slot), xW KX g s σ H locs → lv_has ls 6 [(0, .ref (g.q 38)), (1, .int x1), (2, .int x2), (3, .int x3), (4, .int x4), (5, .int x5)] → f_X7_step_6 N n x1 x2 x3 x4 x5 σ = some r → W p l e rm_X7_step s m args below meth c H locs 0 0 (MQ below (xPost KX g (some (.int r)) σ) args s 0 0 (xA KX g.q)) (F0 m 6 ls []) := by
  have hx := C.1
  have hb := C.2.1
  intro n
  induction n with
  | zero => intro x1 x2 x3 x4 x5 H locs ls hW hl h; rw [f_X7_step_6] at h; cases h
  | succ n ih =>
    intro x1 x2 x3 x4 x5 H locs ls hW hl h
    rw [f_X7_step_6] at h
    refine lv_iload hx hb dX7_step_6 (lv_at hl 5 rfl) ?_
    refine lv_aload_n hx hb dX7_step_8 rfl (lv_at hl 0 rfl) ?_
    refine xg_i C hW fg_7_26 KX_38 rfl (v := 8602) rfl (x := σ.1 8602 0) rfl dX7_step_9 ?_
    refine lv_icmp_gt (tgt := 90) hx hb dX7_step_12 (by decide) (fun c1 => ?_) (fun c1 => ?_)
    · have h := xit c1 h
      refine lv_iload hx hb dX7_step_90 (lv_at hl 4 rfl) ?_
      refine lv_if_eq (tgt := 116) hx hb dX7_step_92 (by decide) (fun c2 => ?_) (fun c2 => ?_)
      · have h := xit c2 h
        refine lv_iload hx hb dX7_step_116 (lv_at hl 4 rfl) ?_
        cases h
        exact xr_i C hW dX7_step_118
      · have h := xif c2 h
        refine lv_aload_n hx hb dX7_step_95 rfl (lv_at hl 0 rfl) ?_
        obtain ⟨g3, h⟩ := xgd h
        refine xg_v C hW fg_7_17 KX_38 rfl (v := 8601) rfl (x := σ.1 8601 0) rfl dX7_step_96 ?_
        refine xg_r C hW fg_7_65 (KX_sl (sgb_o g3)) rfl dX7_step_99 ?_
        refine lv_iload_n hx hb dX7_step_102 rfl (lv_at hl 3 rfl) ?_
        obtain ⟨g4, h⟩ := xgd h
        refine xa_i C hW (KX_sl_5 (sgb_o g3)) g4 (x := σ.1 (8 * ((σ.1 8601 0).toNatClampNeg) + 5 - 6) x3.toNatClampNeg) rfl dX7_step_103 ?_
        refine lv_iconst (v := 1) hx hb dX7_step_104 rfl ?_
        refine lv_icmp_le (tgt := 116) hx hb dX7_step_105 (by decide) (fun c5 => ?_) (fun c5 => ?_)
        · have h := xit c5 h
          refine lv_iload hx hb dX7_step_116 (lv_at hl 4 rfl) ?_
          cases h
          exact xr_i C hW dX7_step_118
        · have h := xif c5 h
          refine lv_iload hx hb dX7_step_108 (lv_at hl 4 rfl) ?_
          refine lv_bipush (v := 16) hx hb dX7_step_110 rfl ?_
          refine lv_ior hx hb dX7_step_112 ?_
          refine lv_goto (tgt := 118) hx hb dX7_step_113 (by decide) ?_
          cases h
          exact xr_i C hW dX7_step_118
    · have h := xif c1 h
      refine lv_iload_n hx hb dX7_step_15 rfl (lv_at hl 1 rfl) ?_
      refine lv_iload hx hb dX7_step_16 (lv_at hl 5 rfl) ?_
      refine lv_iushr (v := ushr x1 x5) hx hb dX7_step_18 rfl ?_
      refine lv_iconst (v := 1) hx hb dX7_step_19 rfl ?_
      refine lv_iand hx hb dX7_step_20 ?_
      refine lv_if_ne (tgt := 27) hx hb dX7_step_21 (by decide) (fun c6 => ?_) (fun c6 => ?_)
      · have h := xif c6 h
        refine lv_aload_n hx hb dX7_step_27 rfl (lv_at hl 0 rfl) ?_
        refine lv_iload_n hx hb dX7_step_28 rfl (lv_at hl 3 rfl) ?_
        refine lv_iload_n hx hb dX7_step_29 rfl (lv_at hl 2 rfl) ?_
        refine lv_iload hx hb dX7_step_30 (lv_at hl 5 rfl) ?_
        refine lv_isub hx hb dX7_step_32 ?_
        obtain ⟨r7_, e7, h⟩ := xbo h
        refine xc_V (As := [.int x3, .int (x2 - x5)]) (rest := []) C hW (m_X7_covers x3 (x2 - x5) _ e7) mf_X7_covers mv_X7_covers ml_X7_66 ⟨rfl, rfl⟩ ⟨Nat.le_of_ble_eq_true rfl, Nat.le_of_ble_eq_true rfl⟩ KX_38 rfl hl.1 rfl rfl (Nat.le_of_ble_eq_true rfl) dX7_step_33 (fun H locs hW => W.eq (g2 := F0 m 36 ls [.int r7_]) rfl ?_)
        refine lv_if_eq (tgt := 48) hx hb dX7_step_36 (by decide) (fun c8 => ?_) (fun c8 => ?_)
        · have h := xit c8 h
          exact w_X7_step_48 N (f_X7_step_6 N n) σ C ih x1 x2 x3 x4 x5 _ _ _ hW (lv_sub hl [0, 1, 2, 3, 4, 5] rfl) h
        · have h := xif c8 h
          refine lv_iload hx hb dX7_step_39 (lv_at hl 4 rfl) ?_
          refine lv_iconst (v := 1) hx hb dX7_step_41 rfl ?_
          refine lv_iload hx hb dX7_step_42 (lv_at hl 5 rfl) ?_
          refine lv_ishl hx hb dX7_step_44 ?_
          refine lv_ior hx hb dX7_step_45 ?_
          refine lv_istore (lv' := [(4, .int (x4 ||| (1 <<< (x5 &&& 31)))), (0, .ref (g.q 38)), (1, .int x1), (2, .int x2), (3, .int x3), (5, .int x5)]) hx hb dX7_step_46 hl (Nat.le_of_ble_eq_true rfl) rfl (fun ls hl => ?_)
          exact w_X7_step_48 N (f_X7_step_6 N n) σ C ih x1 x2 x3 (x4 ||| (1 <<< (x5 &&& 31))) x5 _ _ _ hW (lv_sub hl [1, 2, 3, 4, 0, 5] rfl) h
      · have h := xit c6 h
        refine lv_goto (tgt := 84) hx hb dX7_step_24 (by decide) ?_
        refine lv_iinc (v := x5 + 1) (lv' := [(5, .int (x5 + 1)), (0, .ref (g.q 38)), (1, .int x1), (2, .int x2), (3, .int x3), (4, .int x4)]) hx hb dX7_step_84 hl (k := 5) rfl rfl (Nat.le_of_ble_eq_true rfl) rfl (fun ls hl => ?_)
        refine lv_goto (tgt := 6) hx hb dX7_step_87 (by decide) ?_
        exact ih x1 x2 x3 x4 (x5 + 1) _ _ _ hW (lv_sub hl [1, 2, 3, 4, 5, 0] rfl) h
set_option maxRecDepth 4000 in
theorem m_X7_step (N : Nat) (x1 : Int32) (x2 : Int32) (x3 : Int32) (σ : St) {r : Int32} (h : f_X7_step N x1 x2 x3 σ = some r) : xM l KX g yX7_step cX7_step 6 (some .int) rm_X7_step [.ref (g.q 38), .int x1, .int x2, .int x3] σ (some (.int r)) σ := by
  refine xmet pn_X7 rfl (Nat.le_of_ble_eq_true rfl) (lv := [(0, .ref (g.q 38)), (1, .int x1), (2, .int x2), (3, .int x3)]) rfl (fun p e s m args below meth c ls C hW hl => ?_)
  have hx := C.1
  have hb := C.2.1
  unfold f_X7_step at h
  refine lv_iconst (v := 0) hx hb dX7_step_0 rfl ?_
  refine lv_istore (lv' := [(4, .int 0), (0, .ref (g.q 38)), (1, .int x1), (2, .int x2), (3, .int x3)]) hx hb dX7_step_1 hl (Nat.le_of_ble_eq_true rfl) rfl (fun ls hl => ?_)
  refine lv_iconst (v := 0) hx hb dX7_step_3 rfl ?_
  refine lv_istore (lv' := [(5, .int 0), (4, .int 0), (0, .ref (g.q 38)), (1, .int x1), (2, .int x2), (3, .int x3)]) hx hb dX7_step_4 hl (Nat.le_of_ble_eq_true rfl) rfl (fun ls hl => ?_)
  exact w_X7_step_6 N σ C N x1 x2 x3 0 0 _ _ _ hW (lv_sub hl [2, 3, 4, 5, 1, 0] rfl) h
end
theorem dX7_coversBehind_0 : decode cX7_coversBehind 0 = .ok (.iload_n 1, 1) := by decide +kernel
theorem dX7_coversBehind_1 : decode cX7_coversBehind 1 = .ok (.ifCond .le 25, 3) := by decide +kernel
theorem dX7_coversBehind_4 : decode cX7_coversBehind 4 = .ok (.iload_n 1, 1) := by decide +kernel
theorem dX7_coversBehind_5 : decode cX7_coversBehind 5 = .ok (.bipush 32, 2) := by decide +kernel
theorem dX7_coversBehind_7 : decode cX7_coversBehind 7 = .ok (.if_icmp .ge 19, 3) := by decide +kernel
theorem dX7_coversBehind_10 : decode cX7_coversBehind 10 = .ok (.iload_n 2, 1) := by decide +kernel
theorem dX7_coversBehind_11 : decode cX7_coversBehind 11 = .ok (.ifCond .lt 15, 3) := by decide +kernel
theorem dX7_coversBehind_14 : decode cX7_coversBehind 14 = .ok (.iload_n 2, 1) := by decide +kernel
theorem dX7_coversBehind_15 : decode cX7_coversBehind 15 = .ok (.bipush 12, 2) := by decide +kernel
theorem dX7_coversBehind_17 : decode cX7_coversBehind 17 = .ok (.if_icmp .ge 9, 3) := by decide +kernel
theorem dX7_coversBehind_20 : decode cX7_coversBehind 20 = .ok (.iload_n 3, 1) := by decide +kernel
theorem dX7_coversBehind_21 : decode cX7_coversBehind 21 = .ok (.bipush 12, 2) := by decide +kernel
theorem dX7_coversBehind_23 : decode cX7_coversBehind 23 = .ok (.if_icmp .le 5, 3) := by decide +kernel
theorem dX7_coversBehind_26 : decode cX7_coversBehind 26 = .ok (.iconst 0, 1) := by decide +kernel
theorem dX7_coversBehind_27 : decode cX7_coversBehind 27 = .ok (.ireturn, 1) := by decide +kernel
theorem dX7_coversBehind_28 : decode cX7_coversBehind 28 = .ok (.iload_n 2, 1) := by decide +kernel
theorem dX7_coversBehind_29 : decode cX7_coversBehind 29 = .ok (.bipush 32, 2) := by decide +kernel
theorem dX7_coversBehind_31 : decode cX7_coversBehind 31 = .ok (.imul, 1) := by decide +kernel
theorem dX7_coversBehind_32 : decode cX7_coversBehind 32 = .ok (.iload_n 1, 1) := by decide +kernel
theorem dX7_coversBehind_33 : decode cX7_coversBehind 33 = .ok (.iadd, 1) := by decide +kernel
theorem dX7_coversBehind_34 : decode cX7_coversBehind 34 = .ok (.istore 4, 2) := by decide +kernel
theorem dX7_coversBehind_36 : decode cX7_coversBehind 36 = .ok (.aload_n 0, 1) := by decide +kernel
theorem dX7_coversBehind_37 : decode cX7_coversBehind 37 = .ok (.getfield 9, 3) := by decide +kernel
theorem dX7_coversBehind_40 : decode cX7_coversBehind 40 = .ok (.iload 4, 2) := by decide +kernel
theorem dX7_coversBehind_42 : decode cX7_coversBehind 42 = .ok (.iaload, 1) := by decide +kernel
theorem dX7_coversBehind_43 : decode cX7_coversBehind 43 = .ok (.iconst (-1), 1) := by decide +kernel
theorem dX7_coversBehind_44 : decode cX7_coversBehind 44 = .ok (.if_icmp .eq 11, 3) := by decide +kernel
theorem dX7_coversBehind_47 : decode cX7_coversBehind 47 = .ok (.aload_n 0, 1) := by decide +kernel
theorem dX7_coversBehind_48 : decode cX7_coversBehind 48 = .ok (.getfield 9, 3) := by decide +kernel
theorem dX7_coversBehind_51 : decode cX7_coversBehind 51 = .ok (.iload 4, 2) := by decide +kernel
theorem dX7_coversBehind_53 : decode cX7_coversBehind 53 = .ok (.iaload, 1) := by decide +kernel
theorem dX7_coversBehind_54 : decode cX7_coversBehind 54 = .ok (.ireturn, 1) := by decide +kernel
theorem dX7_coversBehind_55 : decode cX7_coversBehind 55 = .ok (.aload_n 0, 1) := by decide +kernel
theorem dX7_coversBehind_56 : decode cX7_coversBehind 56 = .ok (.iload_n 1, 1) := by decide +kernel
theorem dX7_coversBehind_57 : decode cX7_coversBehind 57 = .ok (.iload_n 2, 1) := by decide +kernel
theorem dX7_coversBehind_58 : decode cX7_coversBehind 58 = .ok (.invokevirtual 105, 3) := by decide +kernel
theorem dX7_coversBehind_61 : decode cX7_coversBehind 61 = .ok (.ifCond .eq 7, 3) := by decide +kernel
theorem dX7_coversBehind_64 : decode cX7_coversBehind 64 = .ok (.iconst 1, 1) := by decide +kernel
theorem dX7_coversBehind_65 : decode cX7_coversBehind 65 = .ok (.goto 4, 3) := by decide +kernel
theorem dX7_coversBehind_68 : decode cX7_coversBehind 68 = .ok (.iconst 0, 1) := by decide +kernel
theorem dX7_coversBehind_69 : decode cX7_coversBehind 69 = .ok (.istore 5, 2) := by decide +kernel
theorem dX7_coversBehind_71 : decode cX7_coversBehind 71 = .ok (.iconst 0, 1) := by decide +kernel
theorem dX7_coversBehind_72 : decode cX7_coversBehind 72 = .ok (.istore 6, 2) := by decide +kernel
theorem dX7_coversBehind_74 : decode cX7_coversBehind 74 = .ok (.iload 6, 2) := by decide +kernel
theorem dX7_coversBehind_76 : decode cX7_coversBehind 76 = .ok (.aload_n 0, 1) := by decide +kernel
theorem dX7_coversBehind_77 : decode cX7_coversBehind 77 = .ok (.getfield 17, 3) := by decide +kernel
theorem dX7_coversBehind_80 : decode cX7_coversBehind 80 = .ok (.getfield 111, 3) := by decide +kernel
theorem dX7_coversBehind_83 : decode cX7_coversBehind 83 = .ok (.if_icmp .ge 50, 3) := by decide +kernel
theorem dX7_coversBehind_86 : decode cX7_coversBehind 86 = .ok (.aload_n 0, 1) := by decide +kernel
theorem dX7_coversBehind_87 : decode cX7_coversBehind 87 = .ok (.iload_n 1, 1) := by decide +kernel
theorem dX7_coversBehind_88 : decode cX7_coversBehind 88 = .ok (.iload_n 2, 1) := by decide +kernel
theorem dX7_coversBehind_89 : decode cX7_coversBehind 89 = .ok (.iload 6, 2) := by decide +kernel
theorem dX7_coversBehind_91 : decode cX7_coversBehind 91 = .ok (.invokevirtual 101, 3) := by decide +kernel
theorem dX7_coversBehind_94 : decode cX7_coversBehind 94 = .ok (.istore 7, 2) := by decide +kernel
theorem dX7_coversBehind_96 : decode cX7_coversBehind 96 = .ok (.iload 7, 2) := by decide +kernel
theorem dX7_coversBehind_98 : decode cX7_coversBehind 98 = .ok (.ifCond .eq 29, 3) := by decide +kernel
theorem dX7_coversBehind_101 : decode cX7_coversBehind 101 = .ok (.iload 5, 2) := by decide +kernel
theorem dX7_coversBehind_103 : decode cX7_coversBehind 103 = .ok (.aload_n 0, 1) := by decide +kernel
theorem dX7_coversBehind_104 : decode cX7_coversBehind 104 = .ok (.iload 7, 2) := by decide +kernel
theorem dX7_coversBehind_106 : decode cX7_coversBehind 106 = .ok (.iload_n 2, 1) := by decide +kernel
theorem dX7_coversBehind_107 : decode cX7_coversBehind 107 = .ok (.aload_n 0, 1) := by decide +kernel
theorem dX7_coversBehind_108 : decode cX7_coversBehind 108 = .ok (.getfield 17, 3) := by decide +kernel
theorem dX7_coversBehind_111 : decode cX7_coversBehind 111 = .ok (.getfield 65, 3) := by decide +kernel
theorem dX7_coversBehind_114 : decode cX7_coversBehind 114 = .ok (.iload 6, 2) := by decide +kernel
theorem dX7_coversBehind_116 : decode cX7_coversBehind 116 = .ok (.iaload, 1) := by decide +kernel
theorem dX7_coversBehind_117 : decode cX7_coversBehind 117 = .ok (.iadd, 1) := by decide +kernel
theorem dX7_coversBehind_118 : decode cX7_coversBehind 118 = .ok (.iload_n 3, 1) := by decide +kernel
theorem dX7_coversBehind_119 : decode cX7_coversBehind 119 = .ok (.iconst 1, 1) := by decide +kernel
theorem dX7_coversBehind_120 : decode cX7_coversBehind 120 = .ok (.iadd, 1) := by decide +kernel
theorem dX7_coversBehind_121 : decode cX7_coversBehind 121 = .ok (.invokevirtual 115, 3) := by decide +kernel
theorem dX7_coversBehind_124 : decode cX7_coversBehind 124 = .ok (.iadd, 1) := by decide +kernel
theorem dX7_coversBehind_125 : decode cX7_coversBehind 125 = .ok (.istore 5, 2) := by decide +kernel
theorem dX7_coversBehind_127 : decode cX7_coversBehind 127 = .ok (.iinc 6 1, 3) := by decide +kernel
theorem dX7_coversBehind_130 : decode cX7_coversBehind 130 = .ok (.goto (-56), 3) := by decide +kernel
theorem dX7_coversBehind_133 : decode cX7_coversBehind 133 = .ok (.aload_n 0, 1) := by decide +kernel
theorem dX7_coversBehind_134 : decode cX7_coversBehind 134 = .ok (.getfield 9, 3) := by decide +kernel
theorem dX7_coversBehind_137 : decode cX7_coversBehind 137 = .ok (.iload 4, 2) := by decide +kernel
theorem dX7_coversBehind_139 : decode cX7_coversBehind 139 = .ok (.ldc 118, 2) := by decide +kernel
theorem dX7_coversBehind_141 : decode cX7_coversBehind 141 = .ok (.iload 5, 2) := by decide +kernel
theorem dX7_coversBehind_143 : decode cX7_coversBehind 143 = .ok (.invokestatic 119, 3) := by decide +kernel
theorem dX7_coversBehind_146 : decode cX7_coversBehind 146 = .ok (.iastore, 1) := by decide +kernel
theorem dX7_coversBehind_147 : decode cX7_coversBehind 147 = .ok (.aload_n 0, 1) := by decide +kernel
theorem dX7_coversBehind_148 : decode cX7_coversBehind 148 = .ok (.getfield 9, 3) := by decide +kernel
theorem dX7_coversBehind_151 : decode cX7_coversBehind 151 = .ok (.iload 4, 2) := by decide +kernel
theorem dX7_coversBehind_153 : decode cX7_coversBehind 153 = .ok (.iaload, 1) := by decide +kernel
theorem dX7_coversBehind_154 : decode cX7_coversBehind 154 = .ok (.ireturn, 1) := by decide +kernel
abbrev rd_X7_coversBehind : Nat → Room := rmd 3 68 1 60
theorem rd_X7_coversBehind_ok (d : Nat) : (rd_X7_coversBehind d).cells = 0 ∧ (rd_X7_coversBehind d).slots = 0 ∧ 3 ≤ (rd_X7_coversBehind d).frames ∧ 68 ≤ (rd_X7_coversBehind d).locals := rmd_ok _ _ _ _ d
def f_X7_coversBehind_74 (N : Nat) (hd : Int32 → Int32 → Int32 → St → Option (Int32 × St)) : Nat → Int32 → Int32 → Int32 → Int32 → Int32 → Int32 → St → Option (Int32 × St)
  | 0, _, _, _, _, _, _, _ => none
  | n + 1, x1, x2, x3, x4, x5, x6, σ => grd (sgb (σ.1 8601 0)) ((if (σ.1 (1000 + 200 * ((σ.1 8601 0).toNatClampNeg) + 0) 0) ≤ x6 then grd (ib x4 384) (grd (ib x4 384) (some ((si σ 39 x4.toNatClampNeg (imin 100001 x5)).1 39 x4.toNatClampNeg, (si σ 39 x4.toNatClampNeg (imin 100001 x5))))) else bo (f_X7_step N x1 x2 x6 σ) (fun r14_ => (if r14_ = 0 then f_X7_coversBehind_74 N hd n x1 x2 x3 x4 x5 (x6 + 1) σ else grd (sgb (σ.1 8601 0)) (grd (ib x6 40) (bd (hd r14_ (x2 + (σ.1 (8 * ((σ.1 8601 0).toNatClampNeg) + 5 - 6) x6.toNatClampNeg)) (x3 + 1) σ) (fun r18_ σ18 => f_X7_coversBehind_74 N hd n x1 x2 x3 x4 (x5 + r18_) (x6 + 1) σ18)))))))
def f_X7_coversBehind_b (N : Nat) (hd : Int32 → Int32 → Int32 → St → Option (Int32 × St)) (x1 : Int32) (x2 : Int32) (x3 : Int32) (σ : St) : Option (Int32 × St) := (if x1 ≤ 0 then some (0, σ) else (if 32 ≤ x1 then some (0, σ) else (if x2 < 0 then some (0, σ) else (if 12 ≤ x2 then some (0, σ) else (if x3 ≤ 12 then grd (ib ((x2 * 32) + x1) 384) ((if (σ.1 39 ((x2 * 32) + x1).toNatClampNeg) = ((-1)) then (if (f_X7_isCover x1 x2 σ) = 0 then f_X7_coversBehind_74 N hd N x1 x2 x3 ((x2 * 32) + x1) 0 0 σ else f_X7_coversBehind_74 N hd N x1 x2 x3 ((x2 * 32) + x1) 1 0 σ) else grd (ib ((x2 * 32) + x1) 384) (some (σ.1 39 ((x2 * 32) + x1).toNatClampNeg, σ)))) else some (0, σ))))))
def f_X7_coversBehind (N : Nat) : Nat → Int32 → Int32 → Int32 → St → Option (Int32 × St)
  | 0, _, _, _, _ => none
  | d + 1, x1, x2, x3, σ => f_X7_coversBehind_b N (f_X7_coversBehind N d) x1 x2 x3 σ
section
variable {p : Program} {l : Launch} {e : Env} {s : State} {m : MethodId} {args : Array Value} {below : List Frame} {meth : Method} {c : Code} {g : XG}
set_option maxRecDepth 4000 in
theorem w_X7_coversBehind_74 (N : Nat) (hd : Int32 → Int32 → Int32 → St → Option (Int32 × St)) (rmH : Room) (hrm : rmH.cells = 0 ∧ rmH.slots = 0 ∧ 3 ≤ rmH.frames ∧ 68 ≤ rmH.locals) (hH : ∀ (a0 : Int32) (a1 : Int32) (a2 : Int32) (σ : St) {r : Int32} {σ' : St}, hd a0 a1 a2 σ = some (r, σ') → xM l KX g yX7_coversBehind cX7_coversBehind 8 (some .int) rmH [.ref (g.q 38), .int a0, .int a1, .int a2] σ (some (.int r)) σ') {r : Int32} {σ' : St} (C : xC KX g RX7 cX7_coversBehind 8 (some .int) p s m args meth c) : ∀ (n : Nat), ∀ (x1 : Int32) (x2 : Int32) (x3 : Int32) (x4 : Int32) (x5 : Int32) (x6 : Int32) (σ : St) (H : Heap) (locs : List Loc) (ls : Array Slot), xW KX g s σ H locs → lv_has ls 8 [(0, .ref (g.q 38)), (1, .int x1), (2, .int x2), (3, .int x3), (4, .int x4), (5, .int x5), (6, .int x6)] → f_X7_coversBehind_74 N hd n x1 x2 x3 x4 x5 x6 σ = some (r, σ') → W p l e (xrm rmH 1 60) s m args below meth c H locs 0 0 (MQ below (xPost KX g (some (.int r)) σ') args s 0 0 (xA KX g.q)) (F0 m 74 ls []) := by
  have hx := C.1
  have hb := C.2.1
  intro n
  induction n with
  | zero => intro x1 x2 x3 x4 x5 x6 σ H locs ls hW hl h; rw [f_X7_coversBehind_74] at h; cases h
  | succ n ih =>
    intro x1 x2 x3 x4 x5 x6 σ H locs ls hW hl h
    rw [f_X7_coversBehind_74] at h
    refine lv_iload hx hb dX7_coversBehind_74 (lv_at hl 6 rfl) ?_
    refine lv_aload_n hx hb dX7_coversBehind_76 rfl (lv_at hl 0 rfl) ?_
    obtain ⟨g10, h⟩ := xgd h
    refine xg_v C hW fg_7_17 KX_38 rfl (v := 8601) rfl (x := σ.1 8601 0) rfl dX7_coversBehind_77 ?_
    refine xg_i C hW fg_7_111 (KX_sl (sgb_o g10)) rfl (v := (1000 + 200 * ((σ.1 8601 0).toNatClampNeg) + 0)) rfl (x := σ.1 (1000 + 200 * ((σ.1 8601 0).toNatClampNeg) + 0) 0) rfl dX7_coversBehind_80 ?_
    refine lv_icmp_ge (tgt := 133) hx hb dX7_coversBehind_83 (by decide) (fun c11 => ?_) (fun c11 => ?_)
    · have h := xit c11 h
      refine lv_aload_n hx hb dX7_coversBehind_133 rfl (lv_at hl 0 rfl) ?_
      refine xg_r C hW fg_7_9 KX_38 rfl dX7_coversBehind_134 ?_
      refine lv_iload hx hb dX7_coversBehind_137 (lv_at hl 4 rfl) ?_
      refine lv_ldc (v := 100001) hx hb C.ow (C.hts _ kc_X7_118) dX7_coversBehind_139 ?_
      refine lv_iload hx hb dX7_coversBehind_141 (lv_at hl 5 rfl) ?_
      refine xmm_min C hW ml_X7_119 (xle1 hrm.2.2.1 (Nat.le_of_ble_eq_true rfl)) (xle1 hrm.2.2.2 (Nat.le_of_ble_eq_true rfl)) hl.1 (Nat.le_of_ble_eq_true rfl) dX7_coversBehind_143 ?_
      obtain ⟨g12, h⟩ := xgd h
      refine xs_i C hW KX_39 g12 dX7_coversBehind_146 (fun H locs hW => ?_)
      refine lv_aload_n hx hb dX7_coversBehind_147 rfl (lv_at hl 0 rfl) ?_
      refine xg_r C hW fg_7_9 KX_38 rfl dX7_coversBehind_148 ?_
      refine lv_iload hx hb dX7_coversBehind_151 (lv_at hl 4 rfl) ?_
      obtain ⟨g13, h⟩ := xgd h
      refine xa_i C hW KX_39 g13 (x := (si σ 39 x4.toNatClampNeg (imin 100001 x5)).1 39 x4.toNatClampNeg) rfl dX7_coversBehind_153 ?_
      cases h
      exact xr_i C hW dX7_coversBehind_154
    · have h := xif c11 h
      refine lv_aload_n hx hb dX7_coversBehind_86 rfl (lv_at hl 0 rfl) ?_
      refine lv_iload_n hx hb dX7_coversBehind_87 rfl (lv_at hl 1 rfl) ?_
      refine lv_iload_n hx hb dX7_coversBehind_88 rfl (lv_at hl 2 rfl) ?_
      refine lv_iload hx hb dX7_coversBehind_89 (lv_at hl 6 rfl) ?_
      obtain ⟨r14_, e14, h⟩ := xbo h
      refine xc_V (As := [.int x1, .int x2, .int x6]) (rest := []) C hW (m_X7_step N x1 x2 x6 _ e14) mf_X7_step mv_X7_step ml_X7_101 ⟨rfl, rfl⟩ ⟨xle1 hrm.2.2.1 (Nat.le_of_ble_eq_true rfl), xle1 hrm.2.2.2 (Nat.le_of_ble_eq_true rfl)⟩ KX_38 rfl hl.1 rfl rfl (Nat.le_of_ble_eq_true rfl) dX7_coversBehind_91 (fun H locs hW => W.eq (g2 := F0 m 94 ls [.int r14_]) rfl ?_)
      refine lv_istore (lv' := [(7, .int r14_), (0, .ref (g.q 38)), (1, .int x1), (2, .int x2), (3, .int x3), (4, .int x4), (5, .int x5), (6, .int x6)]) hx hb dX7_coversBehind_94 hl (Nat.le_of_ble_eq_true rfl) rfl (fun ls hl => ?_)
      refine lv_iload hx hb dX7_coversBehind_96 (lv_at hl 0 rfl) ?_
      refine lv_if_eq (tgt := 127) hx hb dX7_coversBehind_98 (by decide) (fun c15 => ?_) (fun c15 => ?_)
      · have h := xit c15 h
        refine lv_iinc (v := x6 + 1) (lv' := [(6, .int (x6 + 1)), (7, .int r14_), (0, .ref (g.q 38)), (1, .int x1), (2, .int x2), (3, .int x3), (4, .int x4), (5, .int x5)]) hx hb dX7_coversBehind_127 hl (k := 7) rfl rfl (Nat.le_of_ble_eq_true rfl) rfl (fun ls hl => ?_)
        refine lv_goto (tgt := 74) hx hb dX7_coversBehind_130 (by decide) ?_
        exact ih x1 x2 x3 x4 x5 (x6 + 1) _ _ _ _ hW (lv_sub hl [2, 3, 4, 5, 6, 7, 0] rfl) h
      · have h := xif c15 h
        refine lv_iload hx hb dX7_coversBehind_101 (lv_at hl 6 rfl) ?_
        refine lv_aload_n hx hb dX7_coversBehind_103 rfl (lv_at hl 1 rfl) ?_
        refine lv_iload hx hb dX7_coversBehind_104 (lv_at hl 0 rfl) ?_
        refine lv_iload_n hx hb dX7_coversBehind_106 rfl (lv_at hl 3 rfl) ?_
        refine lv_aload_n hx hb dX7_coversBehind_107 rfl (lv_at hl 1 rfl) ?_
        obtain ⟨g16, h⟩ := xgd h
        refine xg_v C hW fg_7_17 KX_38 rfl (v := 8601) rfl (x := σ.1 8601 0) rfl dX7_coversBehind_108 ?_
        refine xg_r C hW fg_7_65 (KX_sl (sgb_o g16)) rfl dX7_coversBehind_111 ?_
        refine lv_iload hx hb dX7_coversBehind_114 (lv_at hl 7 rfl) ?_
        obtain ⟨g17, h⟩ := xgd h
        refine xa_i C hW (KX_sl_5 (sgb_o g16)) g17 (x := σ.1 (8 * ((σ.1 8601 0).toNatClampNeg) + 5 - 6) x6.toNatClampNeg) rfl dX7_coversBehind_116 ?_
        refine lv_iadd hx hb dX7_coversBehind_117 ?_
        refine lv_iload_n hx hb dX7_coversBehind_118 rfl (lv_at hl 4 rfl) ?_
        refine lv_iconst (v := 1) hx hb dX7_coversBehind_119 rfl ?_
        refine lv_iadd hx hb dX7_coversBehind_120 ?_
        obtain ⟨r18_, σ18, e18, h⟩ := xbd h
        refine xc_V (As := [.int r14_, .int (x2 + (σ.1 (8 * ((σ.1 8601 0).toNatClampNeg) + 5 - 6) x6.toNatClampNeg)), .int (x3 + 1)]) (rest := [.int x5]) C hW (hH r14_ (x2 + (σ.1 (8 * ((σ.1 8601 0).toNatClampNeg) + 5 - 6) x6.toNatClampNeg)) (x3 + 1) _ e18) mf_X7_coversBehind mv_X7_coversBehind ml_X7_115 ⟨hrm.1, hrm.2.1⟩ ⟨by simp only [xrm]; omega, by simp only [xrm]; omega⟩ KX_38 rfl hl.1 rfl rfl (Nat.le_of_ble_eq_true rfl) dX7_coversBehind_121 (fun H locs hW => W.eq (g2 := F0 m 124 ls [.int r18_, .int x5]) rfl ?_)
        refine lv_iadd hx hb dX7_coversBehind_124 ?_
        refine lv_istore (lv' := [(5, .int (x5 + r18_)), (7, .int r14_), (0, .ref (g.q 38)), (1, .int x1), (2, .int x2), (3, .int x3), (4, .int x4), (6, .int x6)]) hx hb dX7_coversBehind_125 hl (Nat.le_of_ble_eq_true rfl) rfl (fun ls hl => ?_)
        refine lv_iinc (v := x6 + 1) (lv' := [(6, .int (x6 + 1)), (5, .int (x5 + r18_)), (7, .int r14_), (0, .ref (g.q 38)), (1, .int x1), (2, .int x2), (3, .int x3), (4, .int x4)]) hx hb dX7_coversBehind_127 hl (k := 7) rfl rfl (Nat.le_of_ble_eq_true rfl) rfl (fun ls hl => ?_)
        refine lv_goto (tgt := 74) hx hb dX7_coversBehind_130 (by decide) ?_
        exact ih x1 x2 x3 x4 (x5 + r18_) (x6 + 1) _ _ _ _ hW (lv_sub hl [3, 4, 5, 6, 7, 1, 0] rfl) h
set_option maxRecDepth 4000 in
theorem m_X7_coversBehind_b (N : Nat) (hd : Int32 → Int32 → Int32 → St → Option (Int32 × St)) (rmH : Room) (hrm : rmH.cells = 0 ∧ rmH.slots = 0 ∧ 3 ≤ rmH.frames ∧ 68 ≤ rmH.locals) (hH : ∀ (a0 : Int32) (a1 : Int32) (a2 : Int32) (σ : St) {r : Int32} {σ' : St}, hd a0 a1 a2 σ = some (r, σ') → xM l KX g yX7_coversBehind cX7_coversBehind 8 (some .int) rmH [.ref (g.q 38), .int a0, .int a1, .int a2] σ (some (.int r)) σ') (x1 : Int32) (x2 : Int32) (x3 : Int32) (σ : St) {r : Int32} {σ' : St} (h : f_X7_coversBehind_b N hd x1 x2 x3 σ = some (r, σ')) : xM l KX g yX7_coversBehind cX7_coversBehind 8 (some .int) (xrm rmH 1 60) [.ref (g.q 38), .int x1, .int x2, .int x3] σ (some (.int r)) σ' := by
  refine xmet pn_X7 rfl (Nat.le_of_ble_eq_true rfl) (lv := [(0, .ref (g.q 38)), (1, .int x1), (2, .int x2), (3, .int x3)]) rfl (fun p e s m args below meth c ls C hW hl => ?_)
  have hx := C.1
  have hb := C.2.1
  unfold f_X7_coversBehind_b at h
  refine lv_iload_n hx hb dX7_coversBehind_0 rfl (lv_at hl 1 rfl) ?_
  refine lv_if_le (tgt := 26) hx hb dX7_coversBehind_1 (by decide) (fun c1 => ?_) (fun c1 => ?_)
  · have h := xit c1 h
    refine lv_iconst (v := 0) hx hb dX7_coversBehind_26 rfl ?_
    cases h
    exact xr_i C hW dX7_coversBehind_27
  · have h := xif c1 h
    refine lv_iload_n hx hb dX7_coversBehind_4 rfl (lv_at hl 1 rfl) ?_
    refine lv_bipush (v := 32) hx hb dX7_coversBehind_5 rfl ?_
    refine lv_icmp_ge (tgt := 26) hx hb dX7_coversBehind_7 (by decide) (fun c2 => ?_) (fun c2 => ?_)
    · have h := xit c2 h
      refine lv_iconst (v := 0) hx hb dX7_coversBehind_26 rfl ?_
      cases h
      exact xr_i C hW dX7_coversBehind_27
    · have h := xif c2 h
      refine lv_iload_n hx hb dX7_coversBehind_10 rfl (lv_at hl 2 rfl) ?_
      refine lv_if_lt (tgt := 26) hx hb dX7_coversBehind_11 (by decide) (fun c3 => ?_) (fun c3 => ?_)
      · have h := xit c3 h
        refine lv_iconst (v := 0) hx hb dX7_coversBehind_26 rfl ?_
        cases h
        exact xr_i C hW dX7_coversBehind_27
      · have h := xif c3 h
        refine lv_iload_n hx hb dX7_coversBehind_14 rfl (lv_at hl 2 rfl) ?_
        refine lv_bipush (v := 12) hx hb dX7_coversBehind_15 rfl ?_
        refine lv_icmp_ge (tgt := 26) hx hb dX7_coversBehind_17 (by decide) (fun c4 => ?_) (fun c4 => ?_)
        · have h := xit c4 h
          refine lv_iconst (v := 0) hx hb dX7_coversBehind_26 rfl ?_
          cases h
          exact xr_i C hW dX7_coversBehind_27
        · have h := xif c4 h
          refine lv_iload_n hx hb dX7_coversBehind_20 rfl (lv_at hl 3 rfl) ?_
          refine lv_bipush (v := 12) hx hb dX7_coversBehind_21 rfl ?_
          refine lv_icmp_le (tgt := 28) hx hb dX7_coversBehind_23 (by decide) (fun c5 => ?_) (fun c5 => ?_)
          · have h := xit c5 h
            refine lv_iload_n hx hb dX7_coversBehind_28 rfl (lv_at hl 2 rfl) ?_
            refine lv_bipush (v := 32) hx hb dX7_coversBehind_29 rfl ?_
            refine lv_imul hx hb dX7_coversBehind_31 ?_
            refine lv_iload_n hx hb dX7_coversBehind_32 rfl (lv_at hl 1 rfl) ?_
            refine lv_iadd hx hb dX7_coversBehind_33 ?_
            refine lv_istore (lv' := [(4, .int ((x2 * 32) + x1)), (0, .ref (g.q 38)), (1, .int x1), (2, .int x2), (3, .int x3)]) hx hb dX7_coversBehind_34 hl (Nat.le_of_ble_eq_true rfl) rfl (fun ls hl => ?_)
            refine lv_aload_n hx hb dX7_coversBehind_36 rfl (lv_at hl 1 rfl) ?_
            refine xg_r C hW fg_7_9 KX_38 rfl dX7_coversBehind_37 ?_
            refine lv_iload hx hb dX7_coversBehind_40 (lv_at hl 0 rfl) ?_
            obtain ⟨g6, h⟩ := xgd h
            refine xa_i C hW KX_39 g6 (x := σ.1 39 ((x2 * 32) + x1).toNatClampNeg) rfl dX7_coversBehind_42 ?_
            refine lv_iconst (v := (-1)) hx hb dX7_coversBehind_43 rfl ?_
            refine lv_icmp_eq (tgt := 55) hx hb dX7_coversBehind_44 (by decide) (fun c7 => ?_) (fun c7 => ?_)
            · have h := xit c7 h
              refine lv_aload_n hx hb dX7_coversBehind_55 rfl (lv_at hl 1 rfl) ?_
              refine lv_iload_n hx hb dX7_coversBehind_56 rfl (lv_at hl 2 rfl) ?_
              refine lv_iload_n hx hb dX7_coversBehind_57 rfl (lv_at hl 3 rfl) ?_
              refine xc_V (As := [.int x1, .int x2]) (rest := []) C hW (m_X7_isCover x1 x2 _ rfl) mf_X7_isCover mv_X7_isCover ml_X7_105 ⟨rfl, rfl⟩ ⟨xle1 hrm.2.2.1 (Nat.le_of_ble_eq_true rfl), xle1 hrm.2.2.2 (Nat.le_of_ble_eq_true rfl)⟩ KX_38 rfl hl.1 rfl rfl (Nat.le_of_ble_eq_true rfl) dX7_coversBehind_58 (fun H locs hW => W.eq (g2 := F0 m 61 ls [.int (f_X7_isCover x1 x2 σ)]) rfl ?_)
              refine lv_if_eq (tgt := 68) hx hb dX7_coversBehind_61 (by decide) (fun c8 => ?_) (fun c8 => ?_)
              · have h := xit c8 h
                refine lv_iconst (v := 0) hx hb dX7_coversBehind_68 rfl ?_
                refine lv_istore (lv' := [(5, .int 0), (4, .int ((x2 * 32) + x1)), (0, .ref (g.q 38)), (1, .int x1), (2, .int x2), (3, .int x3)]) hx hb dX7_coversBehind_69 hl (Nat.le_of_ble_eq_true rfl) rfl (fun ls hl => ?_)
                refine lv_iconst (v := 0) hx hb dX7_coversBehind_71 rfl ?_
                refine lv_istore (lv' := [(6, .int 0), (5, .int 0), (4, .int ((x2 * 32) + x1)), (0, .ref (g.q 38)), (1, .int x1), (2, .int x2), (3, .int x3)]) hx hb dX7_coversBehind_72 hl (Nat.le_of_ble_eq_true rfl) rfl (fun ls hl => ?_)
                exact w_X7_coversBehind_74 N hd rmH hrm hH C N x1 x2 x3 ((x2 * 32) + x1) 0 0 _ _ _ _ hW (lv_sub hl [3, 4, 5, 6, 2, 1, 0] rfl) h
              · have h := xif c8 h
                refine lv_iconst (v := 1) hx hb dX7_coversBehind_64 rfl ?_
                refine lv_goto (tgt := 69) hx hb dX7_coversBehind_65 (by decide) ?_
                refine lv_istore (lv' := [(5, .int 1), (4, .int ((x2 * 32) + x1)), (0, .ref (g.q 38)), (1, .int x1), (2, .int x2), (3, .int x3)]) hx hb dX7_coversBehind_69 hl (Nat.le_of_ble_eq_true rfl) rfl (fun ls hl => ?_)
                refine lv_iconst (v := 0) hx hb dX7_coversBehind_71 rfl ?_
                refine lv_istore (lv' := [(6, .int 0), (5, .int 1), (4, .int ((x2 * 32) + x1)), (0, .ref (g.q 38)), (1, .int x1), (2, .int x2), (3, .int x3)]) hx hb dX7_coversBehind_72 hl (Nat.le_of_ble_eq_true rfl) rfl (fun ls hl => ?_)
                exact w_X7_coversBehind_74 N hd rmH hrm hH C N x1 x2 x3 ((x2 * 32) + x1) 1 0 _ _ _ _ hW (lv_sub hl [3, 4, 5, 6, 2, 1, 0] rfl) h
            · have h := xif c7 h
              refine lv_aload_n hx hb dX7_coversBehind_47 rfl (lv_at hl 1 rfl) ?_
              refine xg_r C hW fg_7_9 KX_38 rfl dX7_coversBehind_48 ?_
              refine lv_iload hx hb dX7_coversBehind_51 (lv_at hl 0 rfl) ?_
              obtain ⟨g9, h⟩ := xgd h
              refine xa_i C hW KX_39 g9 (x := σ.1 39 ((x2 * 32) + x1).toNatClampNeg) rfl dX7_coversBehind_53 ?_
              cases h
              exact xr_i C hW dX7_coversBehind_54
          · have h := xif c5 h
            refine lv_iconst (v := 0) hx hb dX7_coversBehind_26 rfl ?_
            cases h
            exact xr_i C hW dX7_coversBehind_27
theorem m_X7_coversBehind (N : Nat) (d : Nat) (x1 : Int32) (x2 : Int32) (x3 : Int32) (σ : St) {r : Int32} {σ' : St} (h : f_X7_coversBehind N d x1 x2 x3 σ = some (r, σ')) : xM l KX g yX7_coversBehind cX7_coversBehind 8 (some .int) (rd_X7_coversBehind d) [.ref (g.q 38), .int x1, .int x2, .int x3] σ (some (.int r)) σ' := by
  induction d generalizing x1 x2 x3 σ r σ' with
  | zero => rw [f_X7_coversBehind] at h; cases h
  | succ d ih =>
    rw [f_X7_coversBehind] at h
    exact m_X7_coversBehind_b N (f_X7_coversBehind N d) (rd_X7_coversBehind d) (rd_X7_coversBehind_ok d) (fun x1 x2 x3 σ _ _ => ih x1 x2 x3 σ) x1 x2 x3 σ h
end
theorem dX7_forgetCovers_0 : decode cX7_forgetCovers 0 = .ok (.aload_n 0, 1) := by decide +kernel
theorem dX7_forgetCovers_1 : decode cX7_forgetCovers 1 = .ok (.getfield 9, 3) := by decide +kernel
theorem dX7_forgetCovers_4 : decode cX7_forgetCovers 4 = .ok (.iconst (-1), 1) := by decide +kernel
theorem dX7_forgetCovers_5 : decode cX7_forgetCovers 5 = .ok (.invokestatic 124, 3) := by decide +kernel
theorem dX7_forgetCovers_8 : decode cX7_forgetCovers 8 = .ok (.return_, 1) := by decide +kernel
abbrev rm_X7_forgetCovers : Room := { frames := 1, cells := 0, slots := 0, locals := 23 }
def f_X7_forgetCovers (N : Nat) (σ : St) : Option St := bo (f_J7_fill_53178 39 384 N ((-1)) σ) (fun σ1 => some σ1)
section
variable {p : Program} {l : Launch} {e : Env} {s : State} {m : MethodId} {args : Array Value} {below : List Frame} {meth : Method} {c : Code} {g : XG}
set_option maxRecDepth 4000 in
theorem m_X7_forgetCovers (N : Nat) (σ : St) {σ' : St} (h : f_X7_forgetCovers N σ = some σ') : xM l KX g yX7_forgetCovers cX7_forgetCovers 1 none rm_X7_forgetCovers [.ref (g.q 38)] σ none σ' := by
  refine xmet pn_X7 rfl (Nat.le_of_ble_eq_true rfl) (lv := [(0, .ref (g.q 38))]) rfl (fun p e s m args below meth c ls C hW hl => ?_)
  have hx := C.1
  have hb := C.2.1
  unfold f_X7_forgetCovers at h
  refine lv_aload_n hx hb dX7_forgetCovers_0 rfl (lv_at hl 0 rfl) ?_
  refine xg_r C hW fg_7_9 KX_38 rfl dX7_forgetCovers_1 ?_
  refine lv_iconst (v := (-1)) hx hb dX7_forgetCovers_4 rfl ?_
  obtain ⟨σ1, e1, h⟩ := xbo h
  refine xc_S (As := [.ref (g.q 39), .int ((-1))]) (rest := []) C hW (m_J7_fill_53178 39 384 KX_39 N ((-1)) _ e1) mf_J7_fill_53178 mt_J7_fill_53178 ml_X7_124 ⟨rfl, rfl⟩ ⟨Nat.le_of_ble_eq_true rfl, Nat.le_of_ble_eq_true rfl⟩ hl.1 rfl rfl (Nat.le_of_ble_eq_true rfl) dX7_forgetCovers_5 (fun H locs hW => W.eq (g2 := F0 m 8 ls []) rfl ?_)
  cases h
  exact xr_v C hW dX7_forgetCovers_8
end
theorem dX7_hasKind_0 : decode cX7_hasKind 0 = .ok (.aload_n 0, 1) := by decide +kernel
theorem dX7_hasKind_1 : decode cX7_hasKind 1 = .ok (.getfield 43, 3) := by decide +kernel
theorem dX7_hasKind_4 : decode cX7_hasKind 4 = .ok (.lconst 0, 1) := by decide +kernel
theorem dX7_hasKind_5 : decode cX7_hasKind 5 = .ok (.lcmp, 1) := by decide +kernel
theorem dX7_hasKind_6 : decode cX7_hasKind 6 = .ok (.ifCond .eq 7, 3) := by decide +kernel
theorem dX7_hasKind_9 : decode cX7_hasKind 9 = .ok (.iconst 1, 1) := by decide +kernel
theorem dX7_hasKind_10 : decode cX7_hasKind 10 = .ok (.goto 4, 3) := by decide +kernel
theorem dX7_hasKind_13 : decode cX7_hasKind 13 = .ok (.iconst 0, 1) := by decide +kernel
theorem dX7_hasKind_14 : decode cX7_hasKind 14 = .ok (.ireturn, 1) := by decide +kernel
abbrev rm_X7_hasKind : Room := { frames := 0, cells := 0, slots := 0, locals := 0 }
def f_X7_hasKind (σ : St) : Int32 := (if (lg_cmp (σ.2 8604 0) 0) = 0 then 0 else 1)
section
variable {p : Program} {l : Launch} {e : Env} {s : State} {m : MethodId} {args : Array Value} {below : List Frame} {meth : Method} {c : Code} {g : XG}
set_option maxRecDepth 4000 in
theorem m_X7_hasKind (σ : St) {r : Int32} (h : f_X7_hasKind σ = r) : xM l KX g yX7_hasKind cX7_hasKind 1 (some .boolean) rm_X7_hasKind [.ref (g.q 38)] σ (some (.int r)) σ := by
  refine xmet pn_X7 rfl (Nat.le_of_ble_eq_true rfl) (lv := [(0, .ref (g.q 38))]) rfl (fun p e s m args below meth c ls C hW hl => ?_)
  have hx := C.1
  have hb := C.2.1
  unfold f_X7_hasKind at h
  refine lv_aload_n hx hb dX7_hasKind_0 rfl (lv_at hl 0 rfl) ?_
  refine xg_l C hW fg_7_43 KX_38 rfl (v := 8604) rfl (x := σ.2 8604 0) rfl dX7_hasKind_1 ?_
  refine lv_lconst (v := 0) hx hb dX7_hasKind_4 rfl ?_
  refine W.lcmp hx hb dX7_hasKind_5 ?_
  refine lv_if_eq (tgt := 13) hx hb dX7_hasKind_6 (by decide) (fun c1 => ?_) (fun c1 => ?_)
  · have h := xit c1 h
    refine lv_iconst (v := 0) hx hb dX7_hasKind_13 rfl ?_
    cases h
    exact xr_z C hW (by decide) dX7_hasKind_14
  · have h := xif c1 h
    refine lv_iconst (v := 1) hx hb dX7_hasKind_9 rfl ?_
    refine lv_goto (tgt := 14) hx hb dX7_hasKind_10 (by decide) ?_
    cases h
    exact xr_z C hW (by decide) dX7_hasKind_14
end
theorem dX7_isIdea_0 : decode cX7_isIdea 0 = .ok (.aload_n 0, 1) := by decide +kernel
theorem dX7_isIdea_1 : decode cX7_isIdea 1 = .ok (.getfield 17, 3) := by decide +kernel
theorem dX7_isIdea_4 : decode cX7_isIdea 4 = .ok (.getfield 60, 3) := by decide +kernel
theorem dX7_isIdea_7 : decode cX7_isIdea 7 = .ok (.iload_n 1, 1) := by decide +kernel
theorem dX7_isIdea_8 : decode cX7_isIdea 8 = .ok (.iaload, 1) := by decide +kernel
theorem dX7_isIdea_9 : decode cX7_isIdea 9 = .ok (.iconst 2, 1) := by decide +kernel
theorem dX7_isIdea_10 : decode cX7_isIdea 10 = .ok (.if_icmp .ne 24, 3) := by decide +kernel
theorem dX7_isIdea_13 : decode cX7_isIdea 13 = .ok (.aload_n 0, 1) := by decide +kernel
theorem dX7_isIdea_14 : decode cX7_isIdea 14 = .ok (.getfield 17, 3) := by decide +kernel
theorem dX7_isIdea_17 : decode cX7_isIdea 17 = .ok (.getfield 62, 3) := by decide +kernel
theorem dX7_isIdea_20 : decode cX7_isIdea 20 = .ok (.iload_n 1, 1) := by decide +kernel
theorem dX7_isIdea_21 : decode cX7_isIdea 21 = .ok (.laload, 1) := by decide +kernel
theorem dX7_isIdea_22 : decode cX7_isIdea 22 = .ok (.aload_n 0, 1) := by decide +kernel
theorem dX7_isIdea_23 : decode cX7_isIdea 23 = .ok (.getfield 36, 3) := by decide +kernel
theorem dX7_isIdea_26 : decode cX7_isIdea 26 = .ok (.lcmp, 1) := by decide +kernel
theorem dX7_isIdea_27 : decode cX7_isIdea 27 = .ok (.ifCond .ne 7, 3) := by decide +kernel
theorem dX7_isIdea_30 : decode cX7_isIdea 30 = .ok (.iconst 1, 1) := by decide +kernel
theorem dX7_isIdea_31 : decode cX7_isIdea 31 = .ok (.goto 4, 3) := by decide +kernel
theorem dX7_isIdea_34 : decode cX7_isIdea 34 = .ok (.iconst 0, 1) := by decide +kernel
theorem dX7_isIdea_35 : decode cX7_isIdea 35 = .ok (.ireturn, 1) := by decide +kernel
abbrev rm_X7_isIdea : Room := { frames := 0, cells := 0, slots := 0, locals := 0 }
def f_X7_isIdea (x1 : Int32) (σ : St) : Option Int32 := grd (sgb (σ.1 8601 0)) (grd (ib x1 40) ((if (σ.1 (8 * ((σ.1 8601 0).toNatClampNeg) + 4 - 6) x1.toNatClampNeg) = 2 then grd (sgb (σ.1 8601 0)) (grd (ib x1 40) ((if (lg_cmp (σ.2 (8 * ((σ.1 8601 0).toNatClampNeg) + 7 - 6) x1.toNatClampNeg) (σ.2 8603 0)) = 0 then some 1 else some 0))) else some 0)))
section
variable {p : Program} {l : Launch} {e : Env} {s : State} {m : MethodId} {args : Array Value} {below : List Frame} {meth : Method} {c : Code} {g : XG}
set_option maxRecDepth 4000 in
theorem m_X7_isIdea (x1 : Int32) (σ : St) {r : Int32} (h : f_X7_isIdea x1 σ = some r) : xM l KX g yX7_isIdea cX7_isIdea 2 (some .boolean) rm_X7_isIdea [.ref (g.q 38), .int x1] σ (some (.int r)) σ := by
  refine xmet pn_X7 rfl (Nat.le_of_ble_eq_true rfl) (lv := [(0, .ref (g.q 38)), (1, .int x1)]) rfl (fun p e s m args below meth c ls C hW hl => ?_)
  have hx := C.1
  have hb := C.2.1
  unfold f_X7_isIdea at h
  refine lv_aload_n hx hb dX7_isIdea_0 rfl (lv_at hl 0 rfl) ?_
  obtain ⟨g1, h⟩ := xgd h
  refine xg_v C hW fg_7_17 KX_38 rfl (v := 8601) rfl (x := σ.1 8601 0) rfl dX7_isIdea_1 ?_
  refine xg_r C hW fg_7_60 (KX_sl (sgb_o g1)) rfl dX7_isIdea_4 ?_
  refine lv_iload_n hx hb dX7_isIdea_7 rfl (lv_at hl 1 rfl) ?_
  obtain ⟨g2, h⟩ := xgd h
  refine xa_i C hW (KX_sl_4 (sgb_o g1)) g2 (x := σ.1 (8 * ((σ.1 8601 0).toNatClampNeg) + 4 - 6) x1.toNatClampNeg) rfl dX7_isIdea_8 ?_
  refine lv_iconst (v := 2) hx hb dX7_isIdea_9 rfl ?_
  refine lv_icmp_ne (tgt := 34) hx hb dX7_isIdea_10 (by decide) (fun c3 => ?_) (fun c3 => ?_)
  · have h := xif c3 h
    refine lv_iconst (v := 0) hx hb dX7_isIdea_34 rfl ?_
    cases h
    exact xr_z C hW (by decide) dX7_isIdea_35
  · have h := xit c3 h
    refine lv_aload_n hx hb dX7_isIdea_13 rfl (lv_at hl 0 rfl) ?_
    obtain ⟨g4, h⟩ := xgd h
    refine xg_v C hW fg_7_17 KX_38 rfl (v := 8601) rfl (x := σ.1 8601 0) rfl dX7_isIdea_14 ?_
    refine xg_r C hW fg_7_62 (KX_sl (sgb_o g4)) rfl dX7_isIdea_17 ?_
    refine lv_iload_n hx hb dX7_isIdea_20 rfl (lv_at hl 1 rfl) ?_
    obtain ⟨g5, h⟩ := xgd h
    refine xa_l C hW (KX_sl_7 (sgb_o g4)) g5 (x := σ.2 (8 * ((σ.1 8601 0).toNatClampNeg) + 7 - 6) x1.toNatClampNeg) rfl dX7_isIdea_21 ?_
    refine lv_aload_n hx hb dX7_isIdea_22 rfl (lv_at hl 0 rfl) ?_
    refine xg_l C hW fg_7_36 KX_38 rfl (v := 8603) rfl (x := σ.2 8603 0) rfl dX7_isIdea_23 ?_
    refine W.lcmp hx hb dX7_isIdea_26 ?_
    refine lv_if_ne (tgt := 34) hx hb dX7_isIdea_27 (by decide) (fun c6 => ?_) (fun c6 => ?_)
    · have h := xif c6 h
      refine lv_iconst (v := 0) hx hb dX7_isIdea_34 rfl ?_
      cases h
      exact xr_z C hW (by decide) dX7_isIdea_35
    · have h := xit c6 h
      refine lv_iconst (v := 1) hx hb dX7_isIdea_30 rfl ?_
      refine lv_goto (tgt := 35) hx hb dX7_isIdea_31 (by decide) ?_
      cases h
      exact xr_z C hW (by decide) dX7_isIdea_35
end
theorem dX7_isOfKind_0 : decode cX7_isOfKind 0 = .ok (.aload_n 0, 1) := by decide +kernel
theorem dX7_isOfKind_1 : decode cX7_isOfKind 1 = .ok (.getfield 17, 3) := by decide +kernel
theorem dX7_isOfKind_4 : decode cX7_isOfKind 4 = .ok (.getfield 60, 3) := by decide +kernel
theorem dX7_isOfKind_7 : decode cX7_isOfKind 7 = .ok (.iload_n 1, 1) := by decide +kernel
theorem dX7_isOfKind_8 : decode cX7_isOfKind 8 = .ok (.iaload, 1) := by decide +kernel
theorem dX7_isOfKind_9 : decode cX7_isOfKind 9 = .ok (.iconst 3, 1) := by decide +kernel
theorem dX7_isOfKind_10 : decode cX7_isOfKind 10 = .ok (.if_icmp .ne 24, 3) := by decide +kernel
theorem dX7_isOfKind_13 : decode cX7_isOfKind 13 = .ok (.aload_n 0, 1) := by decide +kernel
theorem dX7_isOfKind_14 : decode cX7_isOfKind 14 = .ok (.getfield 17, 3) := by decide +kernel
theorem dX7_isOfKind_17 : decode cX7_isOfKind 17 = .ok (.getfield 62, 3) := by decide +kernel
theorem dX7_isOfKind_20 : decode cX7_isOfKind 20 = .ok (.iload_n 1, 1) := by decide +kernel
theorem dX7_isOfKind_21 : decode cX7_isOfKind 21 = .ok (.laload, 1) := by decide +kernel
theorem dX7_isOfKind_22 : decode cX7_isOfKind 22 = .ok (.aload_n 0, 1) := by decide +kernel
theorem dX7_isOfKind_23 : decode cX7_isOfKind 23 = .ok (.getfield 43, 3) := by decide +kernel
theorem dX7_isOfKind_26 : decode cX7_isOfKind 26 = .ok (.lcmp, 1) := by decide +kernel
theorem dX7_isOfKind_27 : decode cX7_isOfKind 27 = .ok (.ifCond .ne 7, 3) := by decide +kernel
theorem dX7_isOfKind_30 : decode cX7_isOfKind 30 = .ok (.iconst 1, 1) := by decide +kernel
theorem dX7_isOfKind_31 : decode cX7_isOfKind 31 = .ok (.goto 4, 3) := by decide +kernel
theorem dX7_isOfKind_34 : decode cX7_isOfKind 34 = .ok (.iconst 0, 1) := by decide +kernel
theorem dX7_isOfKind_35 : decode cX7_isOfKind 35 = .ok (.ireturn, 1) := by decide +kernel
abbrev rm_X7_isOfKind : Room := { frames := 0, cells := 0, slots := 0, locals := 0 }
def f_X7_isOfKind (x1 : Int32) (σ : St) : Option Int32 := grd (sgb (σ.1 8601 0)) (grd (ib x1 40) ((if (σ.1 (8 * ((σ.1 8601 0).toNatClampNeg) + 4 - 6) x1.toNatClampNeg) = 3 then grd (sgb (σ.1 8601 0)) (grd (ib x1 40) ((if (lg_cmp (σ.2 (8 * ((σ.1 8601 0).toNatClampNeg) + 7 - 6) x1.toNatClampNeg) (σ.2 8604 0)) = 0 then some 1 else some 0))) else some 0)))
section
variable {p : Program} {l : Launch} {e : Env} {s : State} {m : MethodId} {args : Array Value} {below : List Frame} {meth : Method} {c : Code} {g : XG}
set_option maxRecDepth 4000 in
theorem m_X7_isOfKind (x1 : Int32) (σ : St) {r : Int32} (h : f_X7_isOfKind x1 σ = some r) : xM l KX g yX7_isOfKind cX7_isOfKind 2 (some .boolean) rm_X7_isOfKind [.ref (g.q 38), .int x1] σ (some (.int r)) σ := by
  refine xmet pn_X7 rfl (Nat.le_of_ble_eq_true rfl) (lv := [(0, .ref (g.q 38)), (1, .int x1)]) rfl (fun p e s m args below meth c ls C hW hl => ?_)
  have hx := C.1
  have hb := C.2.1
  unfold f_X7_isOfKind at h
  refine lv_aload_n hx hb dX7_isOfKind_0 rfl (lv_at hl 0 rfl) ?_
  obtain ⟨g1, h⟩ := xgd h
  refine xg_v C hW fg_7_17 KX_38 rfl (v := 8601) rfl (x := σ.1 8601 0) rfl dX7_isOfKind_1 ?_
  refine xg_r C hW fg_7_60 (KX_sl (sgb_o g1)) rfl dX7_isOfKind_4 ?_
  refine lv_iload_n hx hb dX7_isOfKind_7 rfl (lv_at hl 1 rfl) ?_
  obtain ⟨g2, h⟩ := xgd h
  refine xa_i C hW (KX_sl_4 (sgb_o g1)) g2 (x := σ.1 (8 * ((σ.1 8601 0).toNatClampNeg) + 4 - 6) x1.toNatClampNeg) rfl dX7_isOfKind_8 ?_
  refine lv_iconst (v := 3) hx hb dX7_isOfKind_9 rfl ?_
  refine lv_icmp_ne (tgt := 34) hx hb dX7_isOfKind_10 (by decide) (fun c3 => ?_) (fun c3 => ?_)
  · have h := xif c3 h
    refine lv_iconst (v := 0) hx hb dX7_isOfKind_34 rfl ?_
    cases h
    exact xr_z C hW (by decide) dX7_isOfKind_35
  · have h := xit c3 h
    refine lv_aload_n hx hb dX7_isOfKind_13 rfl (lv_at hl 0 rfl) ?_
    obtain ⟨g4, h⟩ := xgd h
    refine xg_v C hW fg_7_17 KX_38 rfl (v := 8601) rfl (x := σ.1 8601 0) rfl dX7_isOfKind_14 ?_
    refine xg_r C hW fg_7_62 (KX_sl (sgb_o g4)) rfl dX7_isOfKind_17 ?_
    refine lv_iload_n hx hb dX7_isOfKind_20 rfl (lv_at hl 1 rfl) ?_
    obtain ⟨g5, h⟩ := xgd h
    refine xa_l C hW (KX_sl_7 (sgb_o g4)) g5 (x := σ.2 (8 * ((σ.1 8601 0).toNatClampNeg) + 7 - 6) x1.toNatClampNeg) rfl dX7_isOfKind_21 ?_
    refine lv_aload_n hx hb dX7_isOfKind_22 rfl (lv_at hl 0 rfl) ?_
    refine xg_l C hW fg_7_43 KX_38 rfl (v := 8604) rfl (x := σ.2 8604 0) rfl dX7_isOfKind_23 ?_
    refine W.lcmp hx hb dX7_isOfKind_26 ?_
    refine lv_if_ne (tgt := 34) hx hb dX7_isOfKind_27 (by decide) (fun c6 => ?_) (fun c6 => ?_)
    · have h := xif c6 h
      refine lv_iconst (v := 0) hx hb dX7_isOfKind_34 rfl ?_
      cases h
      exact xr_z C hW (by decide) dX7_isOfKind_35
    · have h := xit c6 h
      refine lv_iconst (v := 1) hx hb dX7_isOfKind_30 rfl ?_
      refine lv_goto (tgt := 35) hx hb dX7_isOfKind_31 (by decide) ?_
      cases h
      exact xr_z C hW (by decide) dX7_isOfKind_35
end
theorem dX7_isTail_0 : decode cX7_isTail 0 = .ok (.aload_n 0, 1) := by decide +kernel
theorem dX7_isTail_1 : decode cX7_isTail 1 = .ok (.iload_n 1, 1) := by decide +kernel
theorem dX7_isTail_2 : decode cX7_isTail 2 = .ok (.aload_n 0, 1) := by decide +kernel
theorem dX7_isTail_3 : decode cX7_isTail 3 = .ok (.getfield 55, 3) := by decide +kernel
theorem dX7_isTail_6 : decode cX7_isTail 6 = .ok (.aload_n 0, 1) := by decide +kernel
theorem dX7_isTail_7 : decode cX7_isTail 7 = .ok (.getfield 17, 3) := by decide +kernel
theorem dX7_isTail_10 : decode cX7_isTail 10 = .ok (.getfield 65, 3) := by decide +kernel
theorem dX7_isTail_13 : decode cX7_isTail 13 = .ok (.iload_n 1, 1) := by decide +kernel
theorem dX7_isTail_14 : decode cX7_isTail 14 = .ok (.iaload, 1) := by decide +kernel
theorem dX7_isTail_15 : decode cX7_isTail 15 = .ok (.isub, 1) := by decide +kernel
theorem dX7_isTail_16 : decode cX7_isTail 16 = .ok (.invokevirtual 66, 3) := by decide +kernel
theorem dX7_isTail_19 : decode cX7_isTail 19 = .ok (.ireturn, 1) := by decide +kernel
abbrev rm_X7_isTail : Room := { frames := 1, cells := 0, slots := 0, locals := 23 }
def f_X7_isTail (x1 : Int32) (σ : St) : Option Int32 := grd (sgb (σ.1 8601 0)) (grd (ib x1 40) (bo (f_X7_covers x1 ((σ.1 8606 0) - (σ.1 (8 * ((σ.1 8601 0).toNatClampNeg) + 5 - 6) x1.toNatClampNeg)) σ) (fun r3_ => grd (zbb r3_) (some r3_))))
section
variable {p : Program} {l : Launch} {e : Env} {s : State} {m : MethodId} {args : Array Value} {below : List Frame} {meth : Method} {c : Code} {g : XG}
set_option maxRecDepth 4000 in
theorem m_X7_isTail (x1 : Int32) (σ : St) {r : Int32} (h : f_X7_isTail x1 σ = some r) : xM l KX g yX7_isTail cX7_isTail 2 (some .boolean) rm_X7_isTail [.ref (g.q 38), .int x1] σ (some (.int r)) σ := by
  refine xmet pn_X7 rfl (Nat.le_of_ble_eq_true rfl) (lv := [(0, .ref (g.q 38)), (1, .int x1)]) rfl (fun p e s m args below meth c ls C hW hl => ?_)
  have hx := C.1
  have hb := C.2.1
  unfold f_X7_isTail at h
  refine lv_aload_n hx hb dX7_isTail_0 rfl (lv_at hl 0 rfl) ?_
  refine lv_iload_n hx hb dX7_isTail_1 rfl (lv_at hl 1 rfl) ?_
  refine lv_aload_n hx hb dX7_isTail_2 rfl (lv_at hl 0 rfl) ?_
  refine xg_i C hW fg_7_55 KX_38 rfl (v := 8606) rfl (x := σ.1 8606 0) rfl dX7_isTail_3 ?_
  refine lv_aload_n hx hb dX7_isTail_6 rfl (lv_at hl 0 rfl) ?_
  obtain ⟨g1, h⟩ := xgd h
  refine xg_v C hW fg_7_17 KX_38 rfl (v := 8601) rfl (x := σ.1 8601 0) rfl dX7_isTail_7 ?_
  refine xg_r C hW fg_7_65 (KX_sl (sgb_o g1)) rfl dX7_isTail_10 ?_
  refine lv_iload_n hx hb dX7_isTail_13 rfl (lv_at hl 1 rfl) ?_
  obtain ⟨g2, h⟩ := xgd h
  refine xa_i C hW (KX_sl_5 (sgb_o g1)) g2 (x := σ.1 (8 * ((σ.1 8601 0).toNatClampNeg) + 5 - 6) x1.toNatClampNeg) rfl dX7_isTail_14 ?_
  refine lv_isub hx hb dX7_isTail_15 ?_
  obtain ⟨r3_, e3, h⟩ := xbo h
  refine xc_V (As := [.int x1, .int ((σ.1 8606 0) - (σ.1 (8 * ((σ.1 8601 0).toNatClampNeg) + 5 - 6) x1.toNatClampNeg))]) (rest := []) C hW (m_X7_covers x1 ((σ.1 8606 0) - (σ.1 (8 * ((σ.1 8601 0).toNatClampNeg) + 5 - 6) x1.toNatClampNeg)) _ e3) mf_X7_covers mv_X7_covers ml_X7_66 ⟨rfl, rfl⟩ ⟨Nat.le_of_ble_eq_true rfl, Nat.le_of_ble_eq_true rfl⟩ KX_38 rfl hl.1 rfl rfl (Nat.le_of_ble_eq_true rfl) dX7_isTail_16 (fun H locs hW => W.eq (g2 := F0 m 19 ls [.int r3_]) rfl ?_)
  obtain ⟨g4, h⟩ := xgd h
  cases h
  exact xr_z C hW g4 dX7_isTail_19
end
