theorem dX4_forgetFilled_0 : decode cX4_forgetFilled 0 = .ok (.aload_n 0, 1) := by decide +kernel
theorem dX4_forgetFilled_1 : decode cX4_forgetFilled 1 = .ok (.iconst 0, 1) := by decide +kernel
theorem dX4_forgetFilled_2 : decode cX4_forgetFilled 2 = .ok (.putfield 34, 3) := by decide +kernel
theorem dX4_forgetFilled_5 : decode cX4_forgetFilled 5 = .ok (.aload_n 0, 1) := by decide +kernel
theorem dX4_forgetFilled_6 : decode cX4_forgetFilled 6 = .ok (.iconst 0, 1) := by decide +kernel
theorem dX4_forgetFilled_7 : decode cX4_forgetFilled 7 = .ok (.putfield 38, 3) := by decide +kernel
theorem dX4_forgetFilled_10 : decode cX4_forgetFilled 10 = .ok (.return_, 1) := by decide +kernel
abbrev rm_X4_forgetFilled : Room := { frames := 0, cells := 0, slots := 0, locals := 0 }
def f_X4_forgetFilled (σ : St) : Option St := some ((si (si σ 14405 0 0) 14404 0 0))
section
variable {p : Program} {l : Launch} {e : Env} {s : State} {m : MethodId} {args : Array Value} {below : List Frame} {meth : Method} {c : Code} {g : XG}
set_option maxRecDepth 4000 in
theorem m_X4_forgetFilled (σ : St) {σ' : St} (h : f_X4_forgetFilled σ = some σ') : xM l KX g yX4_forgetFilled cX4_forgetFilled 1 none rm_X4_forgetFilled [.ref (g.q 67)] σ none σ' := by
  refine xmet pn_X4 rfl (Nat.le_of_ble_eq_true rfl) (lv := [(0, .ref (g.q 67))]) rfl (fun p e s m args below meth c ls C hW hl => ?_)
  have hx := C.1
  have hb := C.2.1
  unfold f_X4_forgetFilled at h
  refine lv_aload_n hx hb dX4_forgetFilled_0 rfl (lv_at hl 0 rfl) ?_
  refine lv_iconst (v := 0) hx hb dX4_forgetFilled_1 rfl ?_
  refine xp_i C hW fp_4_34 KX_67 rfl (v := 14405) rfl rfl rfl dX4_forgetFilled_2 (fun H locs hW => ?_)
  refine lv_aload_n hx hb dX4_forgetFilled_5 rfl (lv_at hl 0 rfl) ?_
  refine lv_iconst (v := 0) hx hb dX4_forgetFilled_6 rfl ?_
  refine xp_i C hW fp_4_38 KX_67 rfl (v := 14404) rfl (by decide) (by decide) dX4_forgetFilled_7 (fun H locs hW => ?_)
  cases h
  exact xr_v C hW dX4_forgetFilled_10
end
theorem dX4_put_0 : decode cX4_put 0 = .ok (.aload_n 0, 1) := by decide +kernel
theorem dX4_put_1 : decode cX4_put 1 = .ok (.getfield 42, 3) := by decide +kernel
theorem dX4_put_4 : decode cX4_put 4 = .ok (.bipush 12, 2) := by decide +kernel
theorem dX4_put_6 : decode cX4_put 6 = .ok (.if_icmp .lt 5, 3) := by decide +kernel
theorem dX4_put_9 : decode cX4_put 9 = .ok (.iconst 0, 1) := by decide +kernel
theorem dX4_put_10 : decode cX4_put 10 = .ok (.ireturn, 1) := by decide +kernel
theorem dX4_put_11 : decode cX4_put 11 = .ok (.aload_n 0, 1) := by decide +kernel
theorem dX4_put_12 : decode cX4_put 12 = .ok (.getfield 13, 3) := by decide +kernel
theorem dX4_put_15 : decode cX4_put 15 = .ok (.aload_n 0, 1) := by decide +kernel
theorem dX4_put_16 : decode cX4_put 16 = .ok (.getfield 42, 3) := by decide +kernel
theorem dX4_put_19 : decode cX4_put 19 = .ok (.iload_n 1, 1) := by decide +kernel
theorem dX4_put_20 : decode cX4_put 20 = .ok (.iastore, 1) := by decide +kernel
theorem dX4_put_21 : decode cX4_put 21 = .ok (.aload_n 0, 1) := by decide +kernel
theorem dX4_put_22 : decode cX4_put 22 = .ok (.dup, 1) := by decide +kernel
theorem dX4_put_23 : decode cX4_put 23 = .ok (.getfield 42, 3) := by decide +kernel
theorem dX4_put_26 : decode cX4_put 26 = .ok (.iconst 1, 1) := by decide +kernel
theorem dX4_put_27 : decode cX4_put 27 = .ok (.iadd, 1) := by decide +kernel
theorem dX4_put_28 : decode cX4_put 28 = .ok (.putfield 42, 3) := by decide +kernel
theorem dX4_put_31 : decode cX4_put 31 = .ok (.aload_n 0, 1) := by decide +kernel
theorem dX4_put_32 : decode cX4_put 32 = .ok (.invokevirtual 45, 3) := by decide +kernel
theorem dX4_put_35 : decode cX4_put 35 = .ok (.iconst 1, 1) := by decide +kernel
theorem dX4_put_36 : decode cX4_put 36 = .ok (.ireturn, 1) := by decide +kernel
abbrev rm_X4_put : Room := { frames := 1, cells := 0, slots := 0, locals := 20 }
def f_X4_put (x1 : Int32) (σ : St) : Option (Int32 × St) := (if (σ.1 14402 0) < 12 then grd (ib (σ.1 14402 0) 12) (bo (f_X4_forgetFilled (si (si σ 68 (σ.1 14402 0).toNatClampNeg x1) 14402 0 ((σ.1 14402 0) + 1))) (fun σ3 => some (1, σ3))) else some (0, σ))
section
variable {p : Program} {l : Launch} {e : Env} {s : State} {m : MethodId} {args : Array Value} {below : List Frame} {meth : Method} {c : Code} {g : XG}
set_option maxRecDepth 4000 in
theorem m_X4_put (x1 : Int32) (σ : St) {r : Int32} {σ' : St} (h : f_X4_put x1 σ = some (r, σ')) : xM l KX g yX4_put cX4_put 2 (some .boolean) rm_X4_put [.ref (g.q 67), .int x1] σ (some (.int r)) σ' := by
  refine xmet pn_X4 rfl (Nat.le_of_ble_eq_true rfl) (lv := [(0, .ref (g.q 67)), (1, .int x1)]) rfl (fun p e s m args below meth c ls C hW hl => ?_)
  have hx := C.1
  have hb := C.2.1
  unfold f_X4_put at h
  refine lv_aload_n hx hb dX4_put_0 rfl (lv_at hl 0 rfl) ?_
  refine xg_i C hW fg_4_42 KX_67 rfl (v := 14402) rfl (x := σ.1 14402 0) rfl dX4_put_1 ?_
  refine lv_bipush (v := 12) hx hb dX4_put_4 rfl ?_
  refine lv_icmp_lt (tgt := 11) hx hb dX4_put_6 (by decide) (fun c1 => ?_) (fun c1 => ?_)
  · have h := xit c1 h
    refine lv_aload_n hx hb dX4_put_11 rfl (lv_at hl 0 rfl) ?_
    refine xg_r C hW fg_4_13 KX_67 rfl dX4_put_12 ?_
    refine lv_aload_n hx hb dX4_put_15 rfl (lv_at hl 0 rfl) ?_
    refine xg_i C hW fg_4_42 KX_67 rfl (v := 14402) rfl (x := σ.1 14402 0) rfl dX4_put_16 ?_
    refine lv_iload_n hx hb dX4_put_19 rfl (lv_at hl 1 rfl) ?_
    obtain ⟨g2, h⟩ := xgd h
    refine xs_i C hW KX_68 g2 dX4_put_20 (fun H locs hW => ?_)
    refine lv_aload_n hx hb dX4_put_21 rfl (lv_at hl 0 rfl) ?_
    refine lv_dup hx hb dX4_put_22 rfl ?_
    refine xg_i C hW fg_4_42 KX_67 rfl (v := 14402) rfl (x := σ.1 14402 0) rfl dX4_put_23 ?_
    refine lv_iconst (v := 1) hx hb dX4_put_26 rfl ?_
    refine lv_iadd hx hb dX4_put_27 ?_
    refine xp_i C hW fp_4_42 KX_67 rfl (v := 14402) rfl rfl rfl dX4_put_28 (fun H locs hW => ?_)
    refine lv_aload_n hx hb dX4_put_31 rfl (lv_at hl 0 rfl) ?_
    obtain ⟨σ3, e3, h⟩ := xbo h
    refine xc_V (As := []) (rest := []) C hW (m_X4_forgetFilled _ e3) mf_X4_forgetFilled mv_X4_forgetFilled ml_X4_45 ⟨rfl, rfl⟩ ⟨Nat.le_of_ble_eq_true rfl, Nat.le_of_ble_eq_true rfl⟩ KX_67 rfl hl.1 rfl rfl (Nat.le_of_ble_eq_true rfl) dX4_put_32 (fun H locs hW => W.eq (g2 := F0 m 35 ls []) rfl ?_)
    refine lv_iconst (v := 1) hx hb dX4_put_35 rfl ?_
    cases h
    exact xr_z C hW (by decide) dX4_put_36
  · have h := xif c1 h
    refine lv_iconst (v := 0) hx hb dX4_put_9 rfl ?_
    cases h
    exact xr_z C hW (by decide) dX4_put_10
end
theorem dX4_paintWith_0 : decode cX4_paintWith 0 = .ok (.aload_n 0, 1) := by decide +kernel
theorem dX4_paintWith_1 : decode cX4_paintWith 1 = .ok (.getfield 30, 3) := by decide +kernel
theorem dX4_paintWith_4 : decode cX4_paintWith 4 = .ok (.aload_n 0, 1) := by decide +kernel
theorem dX4_paintWith_5 : decode cX4_paintWith 5 = .ok (.getfield 13, 3) := by decide +kernel
theorem dX4_paintWith_8 : decode cX4_paintWith 8 = .ok (.iload_n 1, 1) := by decide +kernel
theorem dX4_paintWith_9 : decode cX4_paintWith 9 = .ok (.iaload, 1) := by decide +kernel
theorem dX4_paintWith_10 : decode cX4_paintWith 10 = .ok (.iload_n 3, 1) := by decide +kernel
theorem dX4_paintWith_11 : decode cX4_paintWith 11 = .ok (.invokevirtual 64, 3) := by decide +kernel
theorem dX4_paintWith_14 : decode cX4_paintWith 14 = .ok (.istore 4, 2) := by decide +kernel
theorem dX4_paintWith_16 : decode cX4_paintWith 16 = .ok (.aload_n 0, 1) := by decide +kernel
theorem dX4_paintWith_17 : decode cX4_paintWith 17 = .ok (.getfield 17, 3) := by decide +kernel
theorem dX4_paintWith_20 : decode cX4_paintWith 20 = .ok (.iload_n 1, 1) := by decide +kernel
theorem dX4_paintWith_21 : decode cX4_paintWith 21 = .ok (.iconst 1, 1) := by decide +kernel
theorem dX4_paintWith_22 : decode cX4_paintWith 22 = .ok (.iadd, 1) := by decide +kernel
theorem dX4_paintWith_23 : decode cX4_paintWith 23 = .ok (.sipush 145, 3) := by decide +kernel
theorem dX4_paintWith_26 : decode cX4_paintWith 26 = .ok (.imul, 1) := by decide +kernel
theorem dX4_paintWith_27 : decode cX4_paintWith 27 = .ok (.iload_n 2, 1) := by decide +kernel
theorem dX4_paintWith_28 : decode cX4_paintWith 28 = .ok (.iadd, 1) := by decide +kernel
theorem dX4_paintWith_29 : decode cX4_paintWith 29 = .ok (.iload_n 3, 1) := by decide +kernel
theorem dX4_paintWith_30 : decode cX4_paintWith 30 = .ok (.isub, 1) := by decide +kernel
theorem dX4_paintWith_31 : decode cX4_paintWith 31 = .ok (.iaload, 1) := by decide +kernel
theorem dX4_paintWith_32 : decode cX4_paintWith 32 = .ok (.istore 5, 2) := by decide +kernel
theorem dX4_paintWith_34 : decode cX4_paintWith 34 = .ok (.iload 4, 2) := by decide +kernel
theorem dX4_paintWith_36 : decode cX4_paintWith 36 = .ok (.iconst (-1), 1) := by decide +kernel
theorem dX4_paintWith_37 : decode cX4_paintWith 37 = .ok (.if_icmp .eq 10, 3) := by decide +kernel
theorem dX4_paintWith_40 : decode cX4_paintWith 40 = .ok (.iload 5, 2) := by decide +kernel
theorem dX4_paintWith_42 : decode cX4_paintWith 42 = .ok (.ldc 48, 2) := by decide +kernel
theorem dX4_paintWith_44 : decode cX4_paintWith 44 = .ok (.if_icmp .ne 8, 3) := by decide +kernel
theorem dX4_paintWith_47 : decode cX4_paintWith 47 = .ok (.ldc 48, 2) := by decide +kernel
theorem dX4_paintWith_49 : decode cX4_paintWith 49 = .ok (.goto 8, 3) := by decide +kernel
theorem dX4_paintWith_52 : decode cX4_paintWith 52 = .ok (.iload 4, 2) := by decide +kernel
theorem dX4_paintWith_54 : decode cX4_paintWith 54 = .ok (.iload 5, 2) := by decide +kernel
theorem dX4_paintWith_56 : decode cX4_paintWith 56 = .ok (.iadd, 1) := by decide +kernel
theorem dX4_paintWith_57 : decode cX4_paintWith 57 = .ok (.ireturn, 1) := by decide +kernel
abbrev rm_X4_paintWith : Room := { frames := 1, cells := 0, slots := 0, locals := 23 }
def f_X4_paintWith (x1 : Int32) (x2 : Int32) (x3 : Int32) (σ : St) : Option Int32 := grd (ib x1 12) (bo (f_X2_slotPaint (σ.1 68 x1.toNatClampNeg) x3 σ) (fun r2_ => grd (ib ((((x1 + 1) * 145) + x2) - x3) 1885) ((if r2_ = ((-1)) then some 2147483647 else (if (σ.1 69 ((((x1 + 1) * 145) + x2) - x3).toNatClampNeg) = 2147483647 then some 2147483647 else some (r2_ + (σ.1 69 ((((x1 + 1) * 145) + x2) - x3).toNatClampNeg)))))))
section
variable {p : Program} {l : Launch} {e : Env} {s : State} {m : MethodId} {args : Array Value} {below : List Frame} {meth : Method} {c : Code} {g : XG}
set_option maxRecDepth 4000 in
theorem m_X4_paintWith (x1 : Int32) (x2 : Int32) (x3 : Int32) (σ : St) {r : Int32} (h : f_X4_paintWith x1 x2 x3 σ = some r) : xM l KX g yX4_paintWith cX4_paintWith 6 (some .int) rm_X4_paintWith [.ref (g.q 67), .int x1, .int x2, .int x3] σ (some (.int r)) σ := by
  refine xmet pn_X4 rfl (Nat.le_of_ble_eq_true rfl) (lv := [(0, .ref (g.q 67)), (1, .int x1), (2, .int x2), (3, .int x3)]) rfl (fun p e s m args below meth c ls C hW hl => ?_)
  have hx := C.1
  have hb := C.2.1
  unfold f_X4_paintWith at h
  refine lv_aload_n hx hb dX4_paintWith_0 rfl (lv_at hl 0 rfl) ?_
  refine xg_r C hW fg_4_30 KX_67 rfl dX4_paintWith_1 ?_
  refine lv_aload_n hx hb dX4_paintWith_4 rfl (lv_at hl 0 rfl) ?_
  refine xg_r C hW fg_4_13 KX_67 rfl dX4_paintWith_5 ?_
  refine lv_iload_n hx hb dX4_paintWith_8 rfl (lv_at hl 1 rfl) ?_
  obtain ⟨g1, h⟩ := xgd h
  refine xa_i C hW KX_68 g1 (x := σ.1 68 x1.toNatClampNeg) rfl dX4_paintWith_9 ?_
  refine lv_iload_n hx hb dX4_paintWith_10 rfl (lv_at hl 3 rfl) ?_
  obtain ⟨r2_, e2, h⟩ := xbo h
  refine xc_V (As := [.int (σ.1 68 x1.toNatClampNeg), .int x3]) (rest := []) C hW (m_X2_slotPaint (σ.1 68 x1.toNatClampNeg) x3 _ e2) mf_X2_slotPaint mv_X2_slotPaint ml_X4_64 ⟨rfl, rfl⟩ ⟨Nat.le_of_ble_eq_true rfl, Nat.le_of_ble_eq_true rfl⟩ KX_46 rfl hl.1 rfl rfl (Nat.le_of_ble_eq_true rfl) dX4_paintWith_11 (fun H locs hW => W.eq (g2 := F0 m 14 ls [.int r2_]) rfl ?_)
  refine lv_istore (lv' := [(4, .int r2_), (0, .ref (g.q 67)), (1, .int x1), (2, .int x2), (3, .int x3)]) hx hb dX4_paintWith_14 hl (Nat.le_of_ble_eq_true rfl) rfl (fun ls hl => ?_)
  refine lv_aload_n hx hb dX4_paintWith_16 rfl (lv_at hl 1 rfl) ?_
  refine xg_r C hW fg_4_17 KX_67 rfl dX4_paintWith_17 ?_
  refine lv_iload_n hx hb dX4_paintWith_20 rfl (lv_at hl 2 rfl) ?_
  refine lv_iconst (v := 1) hx hb dX4_paintWith_21 rfl ?_
  refine lv_iadd hx hb dX4_paintWith_22 ?_
  refine lv_sipush (v := 145) hx hb dX4_paintWith_23 rfl ?_
  refine lv_imul hx hb dX4_paintWith_26 ?_
  refine lv_iload_n hx hb dX4_paintWith_27 rfl (lv_at hl 3 rfl) ?_
  refine lv_iadd hx hb dX4_paintWith_28 ?_
  refine lv_iload_n hx hb dX4_paintWith_29 rfl (lv_at hl 4 rfl) ?_
  refine lv_isub hx hb dX4_paintWith_30 ?_
  obtain ⟨g3, h⟩ := xgd h
  refine xa_i C hW KX_69 g3 (x := σ.1 69 ((((x1 + 1) * 145) + x2) - x3).toNatClampNeg) rfl dX4_paintWith_31 ?_
  refine lv_istore (lv' := [(5, .int (σ.1 69 ((((x1 + 1) * 145) + x2) - x3).toNatClampNeg)), (4, .int r2_), (0, .ref (g.q 67)), (1, .int x1), (2, .int x2), (3, .int x3)]) hx hb dX4_paintWith_32 hl (Nat.le_of_ble_eq_true rfl) rfl (fun ls hl => ?_)
  refine lv_iload hx hb dX4_paintWith_34 (lv_at hl 1 rfl) ?_
  refine lv_iconst (v := (-1)) hx hb dX4_paintWith_36 rfl ?_
  refine lv_icmp_eq (tgt := 47) hx hb dX4_paintWith_37 (by decide) (fun c4 => ?_) (fun c4 => ?_)
  · have h := xit c4 h
    refine lv_ldc (v := 2147483647) hx hb C.ow (C.hts _ kc_X4_48) dX4_paintWith_47 ?_
    refine lv_goto (tgt := 57) hx hb dX4_paintWith_49 (by decide) ?_
    cases h
    exact xr_i C hW dX4_paintWith_57
  · have h := xif c4 h
    refine lv_iload hx hb dX4_paintWith_40 (lv_at hl 0 rfl) ?_
    refine lv_ldc (v := 2147483647) hx hb C.ow (C.hts _ kc_X4_48) dX4_paintWith_42 ?_
    refine lv_icmp_ne (tgt := 52) hx hb dX4_paintWith_44 (by decide) (fun c5 => ?_) (fun c5 => ?_)
    · have h := xif c5 h
      refine lv_iload hx hb dX4_paintWith_52 (lv_at hl 1 rfl) ?_
      refine lv_iload hx hb dX4_paintWith_54 (lv_at hl 0 rfl) ?_
      refine lv_iadd hx hb dX4_paintWith_56 ?_
      cases h
      exact xr_i C hW dX4_paintWith_57
    · have h := xit c5 h
      refine lv_ldc (v := 2147483647) hx hb C.ow (C.hts _ kc_X4_48) dX4_paintWith_47 ?_
      refine lv_goto (tgt := 57) hx hb dX4_paintWith_49 (by decide) ?_
      cases h
      exact xr_i C hW dX4_paintWith_57
end
theorem dX4_leastFrom_0 : decode cX4_leastFrom 0 = .ok (.ldc 48, 2) := by decide +kernel
theorem dX4_leastFrom_2 : decode cX4_leastFrom 2 = .ok (.istore_n 3, 1) := by decide +kernel
theorem dX4_leastFrom_3 : decode cX4_leastFrom 3 = .ok (.iconst 1, 1) := by decide +kernel
theorem dX4_leastFrom_4 : decode cX4_leastFrom 4 = .ok (.istore 4, 2) := by decide +kernel
theorem dX4_leastFrom_6 : decode cX4_leastFrom 6 = .ok (.iload 4, 2) := by decide +kernel
theorem dX4_leastFrom_8 : decode cX4_leastFrom 8 = .ok (.bipush 12, 2) := by decide +kernel
theorem dX4_leastFrom_10 : decode cX4_leastFrom 10 = .ok (.if_icmp .gt 28, 3) := by decide +kernel
theorem dX4_leastFrom_13 : decode cX4_leastFrom 13 = .ok (.iload 4, 2) := by decide +kernel
theorem dX4_leastFrom_15 : decode cX4_leastFrom 15 = .ok (.iload_n 2, 1) := by decide +kernel
theorem dX4_leastFrom_16 : decode cX4_leastFrom 16 = .ok (.if_icmp .gt 22, 3) := by decide +kernel
theorem dX4_leastFrom_19 : decode cX4_leastFrom 19 = .ok (.iload_n 3, 1) := by decide +kernel
theorem dX4_leastFrom_20 : decode cX4_leastFrom 20 = .ok (.aload_n 0, 1) := by decide +kernel
theorem dX4_leastFrom_21 : decode cX4_leastFrom 21 = .ok (.iload_n 1, 1) := by decide +kernel
theorem dX4_leastFrom_22 : decode cX4_leastFrom 22 = .ok (.iload_n 2, 1) := by decide +kernel
theorem dX4_leastFrom_23 : decode cX4_leastFrom 23 = .ok (.iload 4, 2) := by decide +kernel
theorem dX4_leastFrom_25 : decode cX4_leastFrom 25 = .ok (.invokevirtual 55, 3) := by decide +kernel
theorem dX4_leastFrom_28 : decode cX4_leastFrom 28 = .ok (.invokestatic 59, 3) := by decide +kernel
theorem dX4_leastFrom_31 : decode cX4_leastFrom 31 = .ok (.istore_n 3, 1) := by decide +kernel
theorem dX4_leastFrom_32 : decode cX4_leastFrom 32 = .ok (.iinc 4 1, 3) := by decide +kernel
theorem dX4_leastFrom_35 : decode cX4_leastFrom 35 = .ok (.goto (-29), 3) := by decide +kernel
theorem dX4_leastFrom_38 : decode cX4_leastFrom 38 = .ok (.iload_n 3, 1) := by decide +kernel
theorem dX4_leastFrom_39 : decode cX4_leastFrom 39 = .ok (.ireturn, 1) := by decide +kernel
abbrev rm_X4_leastFrom : Room := { frames := 2, cells := 0, slots := 0, locals := 60 }
def f_X4_leastFrom_6 (N : Nat) : Nat → Int32 → Int32 → Int32 → Int32 → St → Option Int32
  | 0, _, _, _, _, _ => none
  | n + 1, x1, x2, x3, x4, σ => (if 12 < x4 then some x3 else (if x2 < x4 then some x3 else bo (f_X4_paintWith x1 x2 x4 σ) (fun r3_ => f_X4_leastFrom_6 N n x1 x2 (imin x3 r3_) (x4 + 1) σ)))
def f_X4_leastFrom (N : Nat) (x1 : Int32) (x2 : Int32) (σ : St) : Option Int32 := f_X4_leastFrom_6 N N x1 x2 2147483647 1 σ
section
variable {p : Program} {l : Launch} {e : Env} {s : State} {m : MethodId} {args : Array Value} {below : List Frame} {meth : Method} {c : Code} {g : XG}
set_option maxRecDepth 4000 in
theorem w_X4_leastFrom_6 (N : Nat) (σ : St) {r : Int32} (C : xC KX g RX4 cX4_leastFrom 5 (some .int) p s m args meth c) : ∀ (n : Nat), ∀ (x1 : Int32) (x2 : Int32) (x3 : Int32) (x4 : Int32) (H : Heap) (locs : List Loc) (ls : Array Slot), xW KX g s σ H locs → lv_has ls 5 [(0, .ref (g.q 67)), (1, .int x1), (2, .int x2), (3, .int x3), (4, .int x4)] → f_X4_leastFrom_6 N n x1 x2 x3 x4 σ = some r → W p l e rm_X4_leastFrom s m args below meth c H locs 0 0 (MQ below (xPost KX g (some (.int r)) σ) args s 0 0 (xA KX g.q)) (F0 m 6 ls []) := by
  have hx := C.1
  have hb := C.2.1
  intro n
  induction n with
  | zero => intro x1 x2 x3 x4 H locs ls hW hl h; rw [f_X4_leastFrom_6] at h; cases h
  | succ n ih =>
    intro x1 x2 x3 x4 H locs ls hW hl h
    rw [f_X4_leastFrom_6] at h
    refine lv_iload hx hb dX4_leastFrom_6 (lv_at hl 4 rfl) ?_
    refine lv_bipush (v := 12) hx hb dX4_leastFrom_8 rfl ?_
    refine lv_icmp_gt (tgt := 38) hx hb dX4_leastFrom_10 (by decide) (fun c1 => ?_) (fun c1 => ?_)
    · have h := xit c1 h
      refine lv_iload_n hx hb dX4_leastFrom_38 rfl (lv_at hl 3 rfl) ?_
      cases h
      exact xr_i C hW dX4_leastFrom_39
    · have h := xif c1 h
      refine lv_iload hx hb dX4_leastFrom_13 (lv_at hl 4 rfl) ?_
      refine lv_iload_n hx hb dX4_leastFrom_15 rfl (lv_at hl 2 rfl) ?_
      refine lv_icmp_gt (tgt := 38) hx hb dX4_leastFrom_16 (by decide) (fun c2 => ?_) (fun c2 => ?_)
      · have h := xit c2 h
        refine lv_iload_n hx hb dX4_leastFrom_38 rfl (lv_at hl 3 rfl) ?_
        cases h
        exact xr_i C hW dX4_leastFrom_39
      · have h := xif c2 h
        refine lv_iload_n hx hb dX4_leastFrom_19 rfl (lv_at hl 3 rfl) ?_
        refine lv_aload_n hx hb dX4_leastFrom_20 rfl (lv_at hl 0 rfl) ?_
        refine lv_iload_n hx hb dX4_leastFrom_21 rfl (lv_at hl 1 rfl) ?_
        refine lv_iload_n hx hb dX4_leastFrom_22 rfl (lv_at hl 2 rfl) ?_
        refine lv_iload hx hb dX4_leastFrom_23 (lv_at hl 4 rfl) ?_
        obtain ⟨r3_, e3, h⟩ := xbo h
        refine xc_V (As := [.int x1, .int x2, .int x4]) (rest := [.int x3]) C hW (m_X4_paintWith x1 x2 x4 _ e3) mf_X4_paintWith mv_X4_paintWith ml_X4_55 ⟨rfl, rfl⟩ ⟨Nat.le_of_ble_eq_true rfl, Nat.le_of_ble_eq_true rfl⟩ KX_67 rfl hl.1 rfl rfl (Nat.le_of_ble_eq_true rfl) dX4_leastFrom_25 (fun H locs hW => W.eq (g2 := F0 m 28 ls [.int r3_, .int x3]) rfl ?_)
        refine xmm_min C hW ml_X4_59 (Nat.le_of_ble_eq_true rfl) (Nat.le_of_ble_eq_true rfl) hl.1 (Nat.le_of_ble_eq_true rfl) dX4_leastFrom_28 ?_
        refine lv_istore_n (lv' := [(3, .int (imin x3 r3_)), (0, .ref (g.q 67)), (1, .int x1), (2, .int x2), (4, .int x4)]) hx hb dX4_leastFrom_31 rfl hl (Nat.le_of_ble_eq_true rfl) rfl (fun ls hl => ?_)
        refine lv_iinc (v := x4 + 1) (lv' := [(4, .int (x4 + 1)), (3, .int (imin x3 r3_)), (0, .ref (g.q 67)), (1, .int x1), (2, .int x2)]) hx hb dX4_leastFrom_32 hl (k := 4) rfl rfl (Nat.le_of_ble_eq_true rfl) rfl (fun ls hl => ?_)
        refine lv_goto (tgt := 6) hx hb dX4_leastFrom_35 (by decide) ?_
        exact ih x1 x2 (imin x3 r3_) (x4 + 1) _ _ _ hW (lv_sub hl [2, 3, 4, 1, 0] rfl) h
set_option maxRecDepth 4000 in
theorem m_X4_leastFrom (N : Nat) (x1 : Int32) (x2 : Int32) (σ : St) {r : Int32} (h : f_X4_leastFrom N x1 x2 σ = some r) : xM l KX g yX4_leastFrom cX4_leastFrom 5 (some .int) rm_X4_leastFrom [.ref (g.q 67), .int x1, .int x2] σ (some (.int r)) σ := by
  refine xmet pn_X4 rfl (Nat.le_of_ble_eq_true rfl) (lv := [(0, .ref (g.q 67)), (1, .int x1), (2, .int x2)]) rfl (fun p e s m args below meth c ls C hW hl => ?_)
  have hx := C.1
  have hb := C.2.1
  unfold f_X4_leastFrom at h
  refine lv_ldc (v := 2147483647) hx hb C.ow (C.hts _ kc_X4_48) dX4_leastFrom_0 ?_
  refine lv_istore_n (lv' := [(3, .int 2147483647), (0, .ref (g.q 67)), (1, .int x1), (2, .int x2)]) hx hb dX4_leastFrom_2 rfl hl (Nat.le_of_ble_eq_true rfl) rfl (fun ls hl => ?_)
  refine lv_iconst (v := 1) hx hb dX4_leastFrom_3 rfl ?_
  refine lv_istore (lv' := [(4, .int 1), (3, .int 2147483647), (0, .ref (g.q 67)), (1, .int x1), (2, .int x2)]) hx hb dX4_leastFrom_4 hl (Nat.le_of_ble_eq_true rfl) rfl (fun ls hl => ?_)
  exact w_X4_leastFrom_6 N σ C N x1 x2 2147483647 1 _ _ _ hW (lv_sub hl [2, 3, 4, 1, 0] rfl) h
end
theorem dX4_plan_0 : decode cX4_plan 0 = .ok (.aload_n 0, 1) := by decide +kernel
theorem dX4_plan_1 : decode cX4_plan 1 = .ok (.getfield 38, 3) := by decide +kernel
theorem dX4_plan_4 : decode cX4_plan 4 = .ok (.ifCond .eq 4, 3) := by decide +kernel
theorem dX4_plan_7 : decode cX4_plan 7 = .ok (.return_, 1) := by decide +kernel
theorem dX4_plan_8 : decode cX4_plan 8 = .ok (.iconst 0, 1) := by decide +kernel
theorem dX4_plan_9 : decode cX4_plan 9 = .ok (.istore_n 1, 1) := by decide +kernel
theorem dX4_plan_10 : decode cX4_plan 10 = .ok (.iload_n 1, 1) := by decide +kernel
theorem dX4_plan_11 : decode cX4_plan 11 = .ok (.sipush 145, 3) := by decide +kernel
theorem dX4_plan_14 : decode cX4_plan 14 = .ok (.if_icmp .ge 34, 3) := by decide +kernel
theorem dX4_plan_17 : decode cX4_plan 17 = .ok (.aload_n 0, 1) := by decide +kernel
theorem dX4_plan_18 : decode cX4_plan 18 = .ok (.getfield 17, 3) := by decide +kernel
theorem dX4_plan_21 : decode cX4_plan 21 = .ok (.aload_n 0, 1) := by decide +kernel
theorem dX4_plan_22 : decode cX4_plan 22 = .ok (.getfield 42, 3) := by decide +kernel
theorem dX4_plan_25 : decode cX4_plan 25 = .ok (.sipush 145, 3) := by decide +kernel
theorem dX4_plan_28 : decode cX4_plan 28 = .ok (.imul, 1) := by decide +kernel
theorem dX4_plan_29 : decode cX4_plan 29 = .ok (.iload_n 1, 1) := by decide +kernel
theorem dX4_plan_30 : decode cX4_plan 30 = .ok (.iadd, 1) := by decide +kernel
theorem dX4_plan_31 : decode cX4_plan 31 = .ok (.iload_n 1, 1) := by decide +kernel
theorem dX4_plan_32 : decode cX4_plan 32 = .ok (.ifCond .ne 7, 3) := by decide +kernel
theorem dX4_plan_35 : decode cX4_plan 35 = .ok (.iconst 0, 1) := by decide +kernel
theorem dX4_plan_36 : decode cX4_plan 36 = .ok (.goto 5, 3) := by decide +kernel
theorem dX4_plan_39 : decode cX4_plan 39 = .ok (.ldc 48, 2) := by decide +kernel
theorem dX4_plan_41 : decode cX4_plan 41 = .ok (.iastore, 1) := by decide +kernel
theorem dX4_plan_42 : decode cX4_plan 42 = .ok (.iinc 1 1, 3) := by decide +kernel
theorem dX4_plan_45 : decode cX4_plan 45 = .ok (.goto (-35), 3) := by decide +kernel
theorem dX4_plan_48 : decode cX4_plan 48 = .ok (.aload_n 0, 1) := by decide +kernel
theorem dX4_plan_49 : decode cX4_plan 49 = .ok (.getfield 42, 3) := by decide +kernel
theorem dX4_plan_52 : decode cX4_plan 52 = .ok (.iconst 1, 1) := by decide +kernel
theorem dX4_plan_53 : decode cX4_plan 53 = .ok (.isub, 1) := by decide +kernel
theorem dX4_plan_54 : decode cX4_plan 54 = .ok (.istore_n 1, 1) := by decide +kernel
theorem dX4_plan_55 : decode cX4_plan 55 = .ok (.iload_n 1, 1) := by decide +kernel
theorem dX4_plan_56 : decode cX4_plan 56 = .ok (.ifCond .lt 42, 3) := by decide +kernel
theorem dX4_plan_59 : decode cX4_plan 59 = .ok (.iconst 0, 1) := by decide +kernel
theorem dX4_plan_60 : decode cX4_plan 60 = .ok (.istore_n 2, 1) := by decide +kernel
theorem dX4_plan_61 : decode cX4_plan 61 = .ok (.iload_n 2, 1) := by decide +kernel
theorem dX4_plan_62 : decode cX4_plan 62 = .ok (.sipush 145, 3) := by decide +kernel
theorem dX4_plan_65 : decode cX4_plan 65 = .ok (.if_icmp .ge 27, 3) := by decide +kernel
theorem dX4_plan_68 : decode cX4_plan 68 = .ok (.aload_n 0, 1) := by decide +kernel
theorem dX4_plan_69 : decode cX4_plan 69 = .ok (.getfield 17, 3) := by decide +kernel
theorem dX4_plan_72 : decode cX4_plan 72 = .ok (.iload_n 1, 1) := by decide +kernel
theorem dX4_plan_73 : decode cX4_plan 73 = .ok (.sipush 145, 3) := by decide +kernel
theorem dX4_plan_76 : decode cX4_plan 76 = .ok (.imul, 1) := by decide +kernel
theorem dX4_plan_77 : decode cX4_plan 77 = .ok (.iload_n 2, 1) := by decide +kernel
theorem dX4_plan_78 : decode cX4_plan 78 = .ok (.iadd, 1) := by decide +kernel
theorem dX4_plan_79 : decode cX4_plan 79 = .ok (.aload_n 0, 1) := by decide +kernel
theorem dX4_plan_80 : decode cX4_plan 80 = .ok (.iload_n 1, 1) := by decide +kernel
theorem dX4_plan_81 : decode cX4_plan 81 = .ok (.iload_n 2, 1) := by decide +kernel
theorem dX4_plan_82 : decode cX4_plan 82 = .ok (.invokevirtual 49, 3) := by decide +kernel
theorem dX4_plan_85 : decode cX4_plan 85 = .ok (.iastore, 1) := by decide +kernel
theorem dX4_plan_86 : decode cX4_plan 86 = .ok (.iinc 2 1, 3) := by decide +kernel
theorem dX4_plan_89 : decode cX4_plan 89 = .ok (.goto (-28), 3) := by decide +kernel
theorem dX4_plan_92 : decode cX4_plan 92 = .ok (.iinc 1 (-1), 3) := by decide +kernel
theorem dX4_plan_95 : decode cX4_plan 95 = .ok (.goto (-40), 3) := by decide +kernel
theorem dX4_plan_98 : decode cX4_plan 98 = .ok (.aload_n 0, 1) := by decide +kernel
theorem dX4_plan_99 : decode cX4_plan 99 = .ok (.iconst 1, 1) := by decide +kernel
theorem dX4_plan_100 : decode cX4_plan 100 = .ok (.putfield 38, 3) := by decide +kernel
theorem dX4_plan_103 : decode cX4_plan 103 = .ok (.return_, 1) := by decide +kernel
abbrev rm_X4_plan : Room := { frames := 3, cells := 0, slots := 0, locals := 84 }
def f_X4_plan_41 (N : Nat) (k10 : Int32 → St → Option St) (x1 : Int32) (t1 : Int32) (t2 : Int32) (σ : St) : Option St := grd (ib t1 1885) (k10 (x1 + 1) (si σ 69 t1.toNatClampNeg t2))
def f_X4_plan_61 (N : Nat) (k55 : Int32 → St → Option St) : Nat → Int32 → Int32 → St → Option St
  | 0, _, _, _ => none
  | n + 1, x1, x2, σ => (if 145 ≤ x2 then k55 (x1 + (-1)) σ else bo (f_X4_leastFrom N x1 x2 σ) (fun r7_ => grd (ib ((x1 * 145) + x2) 1885) (f_X4_plan_61 N k55 n x1 (x2 + 1) (si σ 69 ((x1 * 145) + x2).toNatClampNeg r7_))))
def f_X4_plan_55 (N : Nat) : Nat → Int32 → St → Option St
  | 0, _, _ => none
  | n + 1, x1, σ => (if x1 < 0 then some ((si σ 14404 0 1)) else f_X4_plan_61 N (f_X4_plan_55 N n) N x1 0 σ)
def f_X4_plan_10 (N : Nat) : Nat → Int32 → St → Option St
  | 0, _, _ => none
  | n + 1, x1, σ => (if 145 ≤ x1 then f_X4_plan_55 N N ((σ.1 14402 0) - 1) σ else (if x1 = 0 then f_X4_plan_41 N (f_X4_plan_10 N n) x1 (((σ.1 14402 0) * 145) + x1) 0 σ else f_X4_plan_41 N (f_X4_plan_10 N n) x1 (((σ.1 14402 0) * 145) + x1) 2147483647 σ))
def f_X4_plan (N : Nat) (σ : St) : Option St := (if (σ.1 14404 0) = 0 then f_X4_plan_10 N N 0 σ else some σ)
section
variable {p : Program} {l : Launch} {e : Env} {s : State} {m : MethodId} {args : Array Value} {below : List Frame} {meth : Method} {c : Code} {g : XG}
set_option maxRecDepth 4000 in
theorem w_X4_plan_41 (N : Nat) (k10 : Int32 → St → Option St) {σ' : St} (C : xC KX g RX4 cX4_plan 3 none p s m args meth c) (hk10 : ∀ (x1 : Int32) (σ : St) (H : Heap) (locs : List Loc) (ls : Array Slot), xW KX g s σ H locs → lv_has ls 3 [(0, .ref (g.q 67)), (1, .int x1)] → k10 x1 σ = some σ' → W p l e rm_X4_plan s m args below meth c H locs 0 0 (MQ below (xPost KX g none σ') args s 0 0 (xA KX g.q)) (F0 m 10 ls [])) : ∀ (x1 : Int32) (t1 : Int32) (t2 : Int32) (σ : St) (H : Heap) (locs : List Loc) (ls : Array Slot), xW KX g s σ H locs → lv_has ls 3 [(0, .ref (g.q 67)), (1, .int x1)] → f_X4_plan_41 N k10 x1 t1 t2 σ = some σ' → W p l e rm_X4_plan s m args below meth c H locs 0 0 (MQ below (xPost KX g none σ') args s 0 0 (xA KX g.q)) (F0 m 41 ls [.int t2, .int t1, .ref (g.q 69)]) := by
  have hx := C.1
  have hb := C.2.1
  intro x1 t1 t2 σ H locs ls hW hl h
  unfold f_X4_plan_41 at h
  obtain ⟨g4, h⟩ := xgd h
  refine xs_i C hW KX_69 g4 dX4_plan_41 (fun H locs hW => ?_)
  refine lv_iinc (v := x1 + 1) (lv' := [(1, .int (x1 + 1)), (0, .ref (g.q 67))]) hx hb dX4_plan_42 hl (k := 1) rfl rfl (Nat.le_of_ble_eq_true rfl) rfl (fun ls hl => ?_)
  refine lv_goto (tgt := 10) hx hb dX4_plan_45 (by decide) ?_
  exact hk10 (x1 + 1) _ _ _ _ hW (lv_sub hl [1, 0] rfl) h
set_option maxRecDepth 4000 in
theorem w_X4_plan_61 (N : Nat) (k55 : Int32 → St → Option St) {σ' : St} (C : xC KX g RX4 cX4_plan 3 none p s m args meth c) (hk55 : ∀ (x1 : Int32) (σ : St) (H : Heap) (locs : List Loc) (ls : Array Slot), xW KX g s σ H locs → lv_has ls 3 [(0, .ref (g.q 67)), (1, .int x1)] → k55 x1 σ = some σ' → W p l e rm_X4_plan s m args below meth c H locs 0 0 (MQ below (xPost KX g none σ') args s 0 0 (xA KX g.q)) (F0 m 55 ls [])) : ∀ (n : Nat), ∀ (x1 : Int32) (x2 : Int32) (σ : St) (H : Heap) (locs : List Loc) (ls : Array Slot), xW KX g s σ H locs → lv_has ls 3 [(0, .ref (g.q 67)), (1, .int x1), (2, .int x2)] → f_X4_plan_61 N k55 n x1 x2 σ = some σ' → W p l e rm_X4_plan s m args below meth c H locs 0 0 (MQ below (xPost KX g none σ') args s 0 0 (xA KX g.q)) (F0 m 61 ls []) := by
  have hx := C.1
  have hb := C.2.1
  intro n
  induction n with
  | zero => intro x1 x2 σ H locs ls hW hl h; rw [f_X4_plan_61] at h; cases h
  | succ n ih =>
    intro x1 x2 σ H locs ls hW hl h
    rw [f_X4_plan_61] at h
    refine lv_iload_n hx hb dX4_plan_61 rfl (lv_at hl 2 rfl) ?_
    refine lv_sipush (v := 145) hx hb dX4_plan_62 rfl ?_
    refine lv_icmp_ge (tgt := 92) hx hb dX4_plan_65 (by decide) (fun c6 => ?_) (fun c6 => ?_)
    · have h := xit c6 h
      refine lv_iinc (v := x1 + (-1)) (lv' := [(1, .int (x1 + (-1))), (0, .ref (g.q 67)), (2, .int x2)]) hx hb dX4_plan_92 hl (k := 1) rfl rfl (Nat.le_of_ble_eq_true rfl) rfl (fun ls hl => ?_)
      refine lv_goto (tgt := 55) hx hb dX4_plan_95 (by decide) ?_
      exact hk55 (x1 + (-1)) _ _ _ _ hW (lv_sub hl [1, 0] rfl) h
    · have h := xif c6 h
      refine lv_aload_n hx hb dX4_plan_68 rfl (lv_at hl 0 rfl) ?_
      refine xg_r C hW fg_4_17 KX_67 rfl dX4_plan_69 ?_
      refine lv_iload_n hx hb dX4_plan_72 rfl (lv_at hl 1 rfl) ?_
      refine lv_sipush (v := 145) hx hb dX4_plan_73 rfl ?_
      refine lv_imul hx hb dX4_plan_76 ?_
      refine lv_iload_n hx hb dX4_plan_77 rfl (lv_at hl 2 rfl) ?_
      refine lv_iadd hx hb dX4_plan_78 ?_
      refine lv_aload_n hx hb dX4_plan_79 rfl (lv_at hl 0 rfl) ?_
      refine lv_iload_n hx hb dX4_plan_80 rfl (lv_at hl 1 rfl) ?_
      refine lv_iload_n hx hb dX4_plan_81 rfl (lv_at hl 2 rfl) ?_
      obtain ⟨r7_, e7, h⟩ := xbo h
      refine xc_V (As := [.int x1, .int x2]) (rest := [.int ((x1 * 145) + x2), .ref (g.q 69)]) C hW (m_X4_leastFrom N x1 x2 _ e7) mf_X4_leastFrom mv_X4_leastFrom ml_X4_49 ⟨rfl, rfl⟩ ⟨Nat.le_of_ble_eq_true rfl, Nat.le_of_ble_eq_true rfl⟩ KX_67 rfl hl.1 rfl rfl (Nat.le_of_ble_eq_true rfl) dX4_plan_82 (fun H locs hW => W.eq (g2 := F0 m 85 ls [.int r7_, .int ((x1 * 145) + x2), .ref (g.q 69)]) rfl ?_)
      obtain ⟨g8, h⟩ := xgd h
      refine xs_i C hW KX_69 g8 dX4_plan_85 (fun H locs hW => ?_)
      refine lv_iinc (v := x2 + 1) (lv' := [(2, .int (x2 + 1)), (0, .ref (g.q 67)), (1, .int x1)]) hx hb dX4_plan_86 hl (k := 2) rfl rfl (Nat.le_of_ble_eq_true rfl) rfl (fun ls hl => ?_)
      refine lv_goto (tgt := 61) hx hb dX4_plan_89 (by decide) ?_
      exact ih x1 (x2 + 1) _ _ _ _ hW (lv_sub hl [1, 2, 0] rfl) h
set_option maxRecDepth 4000 in
theorem w_X4_plan_55 (N : Nat) {σ' : St} (C : xC KX g RX4 cX4_plan 3 none p s m args meth c) : ∀ (n : Nat), ∀ (x1 : Int32) (σ : St) (H : Heap) (locs : List Loc) (ls : Array Slot), xW KX g s σ H locs → lv_has ls 3 [(0, .ref (g.q 67)), (1, .int x1)] → f_X4_plan_55 N n x1 σ = some σ' → W p l e rm_X4_plan s m args below meth c H locs 0 0 (MQ below (xPost KX g none σ') args s 0 0 (xA KX g.q)) (F0 m 55 ls []) := by
  have hx := C.1
  have hb := C.2.1
  intro n
  induction n with
  | zero => intro x1 σ H locs ls hW hl h; rw [f_X4_plan_55] at h; cases h
  | succ n ih =>
    intro x1 σ H locs ls hW hl h
    rw [f_X4_plan_55] at h
    refine lv_iload_n hx hb dX4_plan_55 rfl (lv_at hl 1 rfl) ?_
    refine lv_if_lt (tgt := 98) hx hb dX4_plan_56 (by decide) (fun c5 => ?_) (fun c5 => ?_)
    · have h := xit c5 h
      refine lv_aload_n hx hb dX4_plan_98 rfl (lv_at hl 0 rfl) ?_
      refine lv_iconst (v := 1) hx hb dX4_plan_99 rfl ?_
      refine xp_i C hW fp_4_38 KX_67 rfl (v := 14404) rfl (by decide) (by decide) dX4_plan_100 (fun H locs hW => ?_)
      cases h
      exact xr_v C hW dX4_plan_103
    · have h := xif c5 h
      refine lv_iconst (v := 0) hx hb dX4_plan_59 rfl ?_
      refine lv_istore_n (lv' := [(2, .int 0), (0, .ref (g.q 67)), (1, .int x1)]) hx hb dX4_plan_60 rfl hl (Nat.le_of_ble_eq_true rfl) rfl (fun ls hl => ?_)
      exact w_X4_plan_61 N (f_X4_plan_55 N n) C ih N x1 0 _ _ _ _ hW (lv_sub hl [1, 2, 0] rfl) h
set_option maxRecDepth 4000 in
theorem w_X4_plan_10 (N : Nat) {σ' : St} (C : xC KX g RX4 cX4_plan 3 none p s m args meth c) : ∀ (n : Nat), ∀ (x1 : Int32) (σ : St) (H : Heap) (locs : List Loc) (ls : Array Slot), xW KX g s σ H locs → lv_has ls 3 [(0, .ref (g.q 67)), (1, .int x1)] → f_X4_plan_10 N n x1 σ = some σ' → W p l e rm_X4_plan s m args below meth c H locs 0 0 (MQ below (xPost KX g none σ') args s 0 0 (xA KX g.q)) (F0 m 10 ls []) := by
  have hx := C.1
  have hb := C.2.1
  intro n
  induction n with
  | zero => intro x1 σ H locs ls hW hl h; rw [f_X4_plan_10] at h; cases h
  | succ n ih =>
    intro x1 σ H locs ls hW hl h
    rw [f_X4_plan_10] at h
    refine lv_iload_n hx hb dX4_plan_10 rfl (lv_at hl 1 rfl) ?_
    refine lv_sipush (v := 145) hx hb dX4_plan_11 rfl ?_
    refine lv_icmp_ge (tgt := 48) hx hb dX4_plan_14 (by decide) (fun c2 => ?_) (fun c2 => ?_)
    · have h := xit c2 h
      refine lv_aload_n hx hb dX4_plan_48 rfl (lv_at hl 0 rfl) ?_
      refine xg_i C hW fg_4_42 KX_67 rfl (v := 14402) rfl (x := σ.1 14402 0) rfl dX4_plan_49 ?_
      refine lv_iconst (v := 1) hx hb dX4_plan_52 rfl ?_
      refine lv_isub hx hb dX4_plan_53 ?_
      refine lv_istore_n (lv' := [(1, .int ((σ.1 14402 0) - 1)), (0, .ref (g.q 67))]) hx hb dX4_plan_54 rfl hl (Nat.le_of_ble_eq_true rfl) rfl (fun ls hl => ?_)
      exact w_X4_plan_55 N C N ((σ.1 14402 0) - 1) _ _ _ _ hW (lv_sub hl [1, 0] rfl) h
    · have h := xif c2 h
      refine lv_aload_n hx hb dX4_plan_17 rfl (lv_at hl 0 rfl) ?_
      refine xg_r C hW fg_4_17 KX_67 rfl dX4_plan_18 ?_
      refine lv_aload_n hx hb dX4_plan_21 rfl (lv_at hl 0 rfl) ?_
      refine xg_i C hW fg_4_42 KX_67 rfl (v := 14402) rfl (x := σ.1 14402 0) rfl dX4_plan_22 ?_
      refine lv_sipush (v := 145) hx hb dX4_plan_25 rfl ?_
      refine lv_imul hx hb dX4_plan_28 ?_
      refine lv_iload_n hx hb dX4_plan_29 rfl (lv_at hl 1 rfl) ?_
      refine lv_iadd hx hb dX4_plan_30 ?_
      refine lv_iload_n hx hb dX4_plan_31 rfl (lv_at hl 1 rfl) ?_
      refine lv_if_ne (tgt := 39) hx hb dX4_plan_32 (by decide) (fun c3 => ?_) (fun c3 => ?_)
      · have h := xif c3 h
        refine lv_ldc (v := 2147483647) hx hb C.ow (C.hts _ kc_X4_48) dX4_plan_39 ?_
        exact w_X4_plan_41 N (f_X4_plan_10 N n) C ih x1 (((σ.1 14402 0) * 145) + x1) 2147483647 _ _ _ _ hW (lv_sub hl [0, 1] rfl) h
      · have h := xit c3 h
        refine lv_iconst (v := 0) hx hb dX4_plan_35 rfl ?_
        refine lv_goto (tgt := 41) hx hb dX4_plan_36 (by decide) ?_
        exact w_X4_plan_41 N (f_X4_plan_10 N n) C ih x1 (((σ.1 14402 0) * 145) + x1) 0 _ _ _ _ hW (lv_sub hl [0, 1] rfl) h
set_option maxRecDepth 4000 in
theorem m_X4_plan (N : Nat) (σ : St) {σ' : St} (h : f_X4_plan N σ = some σ') : xM l KX g yX4_plan cX4_plan 3 none rm_X4_plan [.ref (g.q 67)] σ none σ' := by
  refine xmet pn_X4 rfl (Nat.le_of_ble_eq_true rfl) (lv := [(0, .ref (g.q 67))]) rfl (fun p e s m args below meth c ls C hW hl => ?_)
  have hx := C.1
  have hb := C.2.1
  unfold f_X4_plan at h
  refine lv_aload_n hx hb dX4_plan_0 rfl (lv_at hl 0 rfl) ?_
  refine xg_i C hW fg_4_38 KX_67 rfl (v := 14404) rfl (x := σ.1 14404 0) rfl dX4_plan_1 ?_
  refine lv_if_eq (tgt := 8) hx hb dX4_plan_4 (by decide) (fun c1 => ?_) (fun c1 => ?_)
  · have h := xit c1 h
    refine lv_iconst (v := 0) hx hb dX4_plan_8 rfl ?_
    refine lv_istore_n (lv' := [(1, .int 0), (0, .ref (g.q 67))]) hx hb dX4_plan_9 rfl hl (Nat.le_of_ble_eq_true rfl) rfl (fun ls hl => ?_)
    exact w_X4_plan_10 N C N 0 _ _ _ _ hW (lv_sub hl [1, 0] rfl) h
  · have h := xif c1 h
    cases h
    exact xr_v C hW dX4_plan_7
end
theorem dX4_countFills_0 : decode cX4_countFills 0 = .ok (.aload_n 0, 1) := by decide +kernel
theorem dX4_countFills_1 : decode cX4_countFills 1 = .ok (.invokevirtual 67, 3) := by decide +kernel
theorem dX4_countFills_4 : decode cX4_countFills 4 = .ok (.iconst 0, 1) := by decide +kernel
theorem dX4_countFills_5 : decode cX4_countFills 5 = .ok (.istore_n 1, 1) := by decide +kernel
theorem dX4_countFills_6 : decode cX4_countFills 6 = .ok (.iconst 1, 1) := by decide +kernel
theorem dX4_countFills_7 : decode cX4_countFills 7 = .ok (.istore_n 2, 1) := by decide +kernel
theorem dX4_countFills_8 : decode cX4_countFills 8 = .ok (.iload_n 2, 1) := by decide +kernel
theorem dX4_countFills_9 : decode cX4_countFills 9 = .ok (.sipush 145, 3) := by decide +kernel
theorem dX4_countFills_12 : decode cX4_countFills 12 = .ok (.if_icmp .ge 28, 3) := by decide +kernel
theorem dX4_countFills_15 : decode cX4_countFills 15 = .ok (.iload_n 1, 1) := by decide +kernel
theorem dX4_countFills_16 : decode cX4_countFills 16 = .ok (.aload_n 0, 1) := by decide +kernel
theorem dX4_countFills_17 : decode cX4_countFills 17 = .ok (.getfield 17, 3) := by decide +kernel
theorem dX4_countFills_20 : decode cX4_countFills 20 = .ok (.iload_n 2, 1) := by decide +kernel
theorem dX4_countFills_21 : decode cX4_countFills 21 = .ok (.iaload, 1) := by decide +kernel
theorem dX4_countFills_22 : decode cX4_countFills 22 = .ok (.ldc 48, 2) := by decide +kernel
theorem dX4_countFills_24 : decode cX4_countFills 24 = .ok (.if_icmp .ne 7, 3) := by decide +kernel
theorem dX4_countFills_27 : decode cX4_countFills 27 = .ok (.iconst 0, 1) := by decide +kernel
theorem dX4_countFills_28 : decode cX4_countFills 28 = .ok (.goto 4, 3) := by decide +kernel
theorem dX4_countFills_31 : decode cX4_countFills 31 = .ok (.iconst 1, 1) := by decide +kernel
theorem dX4_countFills_32 : decode cX4_countFills 32 = .ok (.iadd, 1) := by decide +kernel
theorem dX4_countFills_33 : decode cX4_countFills 33 = .ok (.istore_n 1, 1) := by decide +kernel
theorem dX4_countFills_34 : decode cX4_countFills 34 = .ok (.iinc 2 1, 3) := by decide +kernel
theorem dX4_countFills_37 : decode cX4_countFills 37 = .ok (.goto (-29), 3) := by decide +kernel
theorem dX4_countFills_40 : decode cX4_countFills 40 = .ok (.iload_n 1, 1) := by decide +kernel
theorem dX4_countFills_41 : decode cX4_countFills 41 = .ok (.ireturn, 1) := by decide +kernel
abbrev rm_X4_countFills : Room := { frames := 4, cells := 0, slots := 0, locals := 106 }
def f_X4_countFills_8 (N : Nat) : Nat → Int32 → Int32 → St → Option (Int32 × St)
  | 0, _, _, _ => none
  | n + 1, x1, x2, σ => (if 145 ≤ x2 then some (x1, σ) else grd (ib x2 1885) ((if (σ.1 69 x2.toNatClampNeg) = 2147483647 then f_X4_countFills_8 N n (x1 + 0) (x2 + 1) σ else f_X4_countFills_8 N n (x1 + 1) (x2 + 1) σ)))
def f_X4_countFills (N : Nat) (σ : St) : Option (Int32 × St) := bo (f_X4_plan N σ) (fun σ1 => f_X4_countFills_8 N N 0 1 σ1)
section
variable {p : Program} {l : Launch} {e : Env} {s : State} {m : MethodId} {args : Array Value} {below : List Frame} {meth : Method} {c : Code} {g : XG}
set_option maxRecDepth 4000 in
theorem w_X4_countFills_8 (N : Nat) {r : Int32} {σ' : St} (C : xC KX g RX4 cX4_countFills 3 (some .int) p s m args meth c) : ∀ (n : Nat), ∀ (x1 : Int32) (x2 : Int32) (σ : St) (H : Heap) (locs : List Loc) (ls : Array Slot), xW KX g s σ H locs → lv_has ls 3 [(0, .ref (g.q 67)), (1, .int x1), (2, .int x2)] → f_X4_countFills_8 N n x1 x2 σ = some (r, σ') → W p l e rm_X4_countFills s m args below meth c H locs 0 0 (MQ below (xPost KX g (some (.int r)) σ') args s 0 0 (xA KX g.q)) (F0 m 8 ls []) := by
  have hx := C.1
  have hb := C.2.1
  intro n
  induction n with
  | zero => intro x1 x2 σ H locs ls hW hl h; rw [f_X4_countFills_8] at h; cases h
  | succ n ih =>
    intro x1 x2 σ H locs ls hW hl h
    rw [f_X4_countFills_8] at h
    refine lv_iload_n hx hb dX4_countFills_8 rfl (lv_at hl 2 rfl) ?_
    refine lv_sipush (v := 145) hx hb dX4_countFills_9 rfl ?_
    refine lv_icmp_ge (tgt := 40) hx hb dX4_countFills_12 (by decide) (fun c2 => ?_) (fun c2 => ?_)
    · have h := xit c2 h
      refine lv_iload_n hx hb dX4_countFills_40 rfl (lv_at hl 1 rfl) ?_
      cases h
      exact xr_i C hW dX4_countFills_41
    · have h := xif c2 h
      refine lv_iload_n hx hb dX4_countFills_15 rfl (lv_at hl 1 rfl) ?_
      refine lv_aload_n hx hb dX4_countFills_16 rfl (lv_at hl 0 rfl) ?_
      refine xg_r C hW fg_4_17 KX_67 rfl dX4_countFills_17 ?_
      refine lv_iload_n hx hb dX4_countFills_20 rfl (lv_at hl 2 rfl) ?_
      obtain ⟨g3, h⟩ := xgd h
      refine xa_i C hW KX_69 g3 (x := σ.1 69 x2.toNatClampNeg) rfl dX4_countFills_21 ?_
      refine lv_ldc (v := 2147483647) hx hb C.ow (C.hts _ kc_X4_48) dX4_countFills_22 ?_
      refine lv_icmp_ne (tgt := 31) hx hb dX4_countFills_24 (by decide) (fun c4 => ?_) (fun c4 => ?_)
      · have h := xif c4 h
        refine lv_iconst (v := 1) hx hb dX4_countFills_31 rfl ?_
        refine lv_iadd hx hb dX4_countFills_32 ?_
        refine lv_istore_n (lv' := [(1, .int (x1 + 1)), (0, .ref (g.q 67)), (2, .int x2)]) hx hb dX4_countFills_33 rfl hl (Nat.le_of_ble_eq_true rfl) rfl (fun ls hl => ?_)
        refine lv_iinc (v := x2 + 1) (lv' := [(2, .int (x2 + 1)), (1, .int (x1 + 1)), (0, .ref (g.q 67))]) hx hb dX4_countFills_34 hl (k := 2) rfl rfl (Nat.le_of_ble_eq_true rfl) rfl (fun ls hl => ?_)
        refine lv_goto (tgt := 8) hx hb dX4_countFills_37 (by decide) ?_
        exact ih (x1 + 1) (x2 + 1) _ _ _ _ hW (lv_sub hl [2, 1, 0] rfl) h
      · have h := xit c4 h
        refine lv_iconst (v := 0) hx hb dX4_countFills_27 rfl ?_
        refine lv_goto (tgt := 32) hx hb dX4_countFills_28 (by decide) ?_
        refine lv_iadd hx hb dX4_countFills_32 ?_
        refine lv_istore_n (lv' := [(1, .int (x1 + 0)), (0, .ref (g.q 67)), (2, .int x2)]) hx hb dX4_countFills_33 rfl hl (Nat.le_of_ble_eq_true rfl) rfl (fun ls hl => ?_)
        refine lv_iinc (v := x2 + 1) (lv' := [(2, .int (x2 + 1)), (1, .int (x1 + 0)), (0, .ref (g.q 67))]) hx hb dX4_countFills_34 hl (k := 2) rfl rfl (Nat.le_of_ble_eq_true rfl) rfl (fun ls hl => ?_)
        refine lv_goto (tgt := 8) hx hb dX4_countFills_37 (by decide) ?_
        exact ih (x1 + 0) (x2 + 1) _ _ _ _ hW (lv_sub hl [2, 1, 0] rfl) h
set_option maxRecDepth 4000 in
theorem m_X4_countFills (N : Nat) (σ : St) {r : Int32} {σ' : St} (h : f_X4_countFills N σ = some (r, σ')) : xM l KX g yX4_countFills cX4_countFills 3 (some .int) rm_X4_countFills [.ref (g.q 67)] σ (some (.int r)) σ' := by
  refine xmet pn_X4 rfl (Nat.le_of_ble_eq_true rfl) (lv := [(0, .ref (g.q 67))]) rfl (fun p e s m args below meth c ls C hW hl => ?_)
  have hx := C.1
  have hb := C.2.1
  unfold f_X4_countFills at h
  refine lv_aload_n hx hb dX4_countFills_0 rfl (lv_at hl 0 rfl) ?_
  obtain ⟨σ1, e1, h⟩ := xbo h
  refine xc_V (As := []) (rest := []) C hW (m_X4_plan N _ e1) mf_X4_plan mv_X4_plan ml_X4_67 ⟨rfl, rfl⟩ ⟨Nat.le_of_ble_eq_true rfl, Nat.le_of_ble_eq_true rfl⟩ KX_67 rfl hl.1 rfl rfl (Nat.le_of_ble_eq_true rfl) dX4_countFills_1 (fun H locs hW => W.eq (g2 := F0 m 4 ls []) rfl ?_)
  refine lv_iconst (v := 0) hx hb dX4_countFills_4 rfl ?_
  refine lv_istore_n (lv' := [(1, .int 0), (0, .ref (g.q 67))]) hx hb dX4_countFills_5 rfl hl (Nat.le_of_ble_eq_true rfl) rfl (fun ls hl => ?_)
  refine lv_iconst (v := 1) hx hb dX4_countFills_6 rfl ?_
  refine lv_istore_n (lv' := [(2, .int 1), (1, .int 0), (0, .ref (g.q 67))]) hx hb dX4_countFills_7 rfl hl (Nat.le_of_ble_eq_true rfl) rfl (fun ls hl => ?_)
  exact w_X4_countFills_8 N C N 0 1 _ _ _ _ hW (lv_sub hl [2, 1, 0] rfl) h
end
theorem dX4_fillWith_0 : decode cX4_fillWith 0 = .ok (.aload_n 0, 1) := by decide +kernel
theorem dX4_fillWith_1 : decode cX4_fillWith 1 = .ok (.invokevirtual 67, 3) := by decide +kernel
theorem dX4_fillWith_4 : decode cX4_fillWith 4 = .ok (.aload_n 0, 1) := by decide +kernel
theorem dX4_fillWith_5 : decode cX4_fillWith 5 = .ok (.getfield 17, 3) := by decide +kernel
theorem dX4_fillWith_8 : decode cX4_fillWith 8 = .ok (.iload_n 1, 1) := by decide +kernel
theorem dX4_fillWith_9 : decode cX4_fillWith 9 = .ok (.iaload, 1) := by decide +kernel
theorem dX4_fillWith_10 : decode cX4_fillWith 10 = .ok (.ldc 48, 2) := by decide +kernel
theorem dX4_fillWith_12 : decode cX4_fillWith 12 = .ok (.if_icmp .ne 5, 3) := by decide +kernel
theorem dX4_fillWith_15 : decode cX4_fillWith 15 = .ok (.iconst (-1), 1) := by decide +kernel
theorem dX4_fillWith_16 : decode cX4_fillWith 16 = .ok (.ireturn, 1) := by decide +kernel
theorem dX4_fillWith_17 : decode cX4_fillWith 17 = .ok (.iload_n 1, 1) := by decide +kernel
theorem dX4_fillWith_18 : decode cX4_fillWith 18 = .ok (.istore_n 2, 1) := by decide +kernel
theorem dX4_fillWith_19 : decode cX4_fillWith 19 = .ok (.iconst 0, 1) := by decide +kernel
theorem dX4_fillWith_20 : decode cX4_fillWith 20 = .ok (.istore_n 3, 1) := by decide +kernel
theorem dX4_fillWith_21 : decode cX4_fillWith 21 = .ok (.iload_n 3, 1) := by decide +kernel
theorem dX4_fillWith_22 : decode cX4_fillWith 22 = .ok (.aload_n 0, 1) := by decide +kernel
theorem dX4_fillWith_23 : decode cX4_fillWith 23 = .ok (.getfield 42, 3) := by decide +kernel
theorem dX4_fillWith_26 : decode cX4_fillWith 26 = .ok (.if_icmp .ge 109, 3) := by decide +kernel
theorem dX4_fillWith_29 : decode cX4_fillWith 29 = .ok (.iconst 1, 1) := by decide +kernel
theorem dX4_fillWith_30 : decode cX4_fillWith 30 = .ok (.istore 4, 2) := by decide +kernel
theorem dX4_fillWith_32 : decode cX4_fillWith 32 = .ok (.iload 4, 2) := by decide +kernel
theorem dX4_fillWith_34 : decode cX4_fillWith 34 = .ok (.bipush 12, 2) := by decide +kernel
theorem dX4_fillWith_36 : decode cX4_fillWith 36 = .ok (.if_icmp .ge 38, 3) := by decide +kernel
theorem dX4_fillWith_39 : decode cX4_fillWith 39 = .ok (.iload 4, 2) := by decide +kernel
theorem dX4_fillWith_41 : decode cX4_fillWith 41 = .ok (.iload_n 2, 1) := by decide +kernel
theorem dX4_fillWith_42 : decode cX4_fillWith 42 = .ok (.if_icmp .ge 32, 3) := by decide +kernel
theorem dX4_fillWith_45 : decode cX4_fillWith 45 = .ok (.aload_n 0, 1) := by decide +kernel
theorem dX4_fillWith_46 : decode cX4_fillWith 46 = .ok (.iload_n 3, 1) := by decide +kernel
theorem dX4_fillWith_47 : decode cX4_fillWith 47 = .ok (.iload_n 2, 1) := by decide +kernel
theorem dX4_fillWith_48 : decode cX4_fillWith 48 = .ok (.iload 4, 2) := by decide +kernel
theorem dX4_fillWith_50 : decode cX4_fillWith 50 = .ok (.invokevirtual 55, 3) := by decide +kernel
theorem dX4_fillWith_53 : decode cX4_fillWith 53 = .ok (.aload_n 0, 1) := by decide +kernel
theorem dX4_fillWith_54 : decode cX4_fillWith 54 = .ok (.getfield 17, 3) := by decide +kernel
theorem dX4_fillWith_57 : decode cX4_fillWith 57 = .ok (.iload_n 3, 1) := by decide +kernel
theorem dX4_fillWith_58 : decode cX4_fillWith 58 = .ok (.sipush 145, 3) := by decide +kernel
theorem dX4_fillWith_61 : decode cX4_fillWith 61 = .ok (.imul, 1) := by decide +kernel
theorem dX4_fillWith_62 : decode cX4_fillWith 62 = .ok (.iload_n 2, 1) := by decide +kernel
theorem dX4_fillWith_63 : decode cX4_fillWith 63 = .ok (.iadd, 1) := by decide +kernel
theorem dX4_fillWith_64 : decode cX4_fillWith 64 = .ok (.iaload, 1) := by decide +kernel
theorem dX4_fillWith_65 : decode cX4_fillWith 65 = .ok (.if_icmp .eq 9, 3) := by decide +kernel
theorem dX4_fillWith_68 : decode cX4_fillWith 68 = .ok (.iinc 4 1, 3) := by decide +kernel
theorem dX4_fillWith_71 : decode cX4_fillWith 71 = .ok (.goto (-39), 3) := by decide +kernel
theorem dX4_fillWith_74 : decode cX4_fillWith 74 = .ok (.aload_n 0, 1) := by decide +kernel
theorem dX4_fillWith_75 : decode cX4_fillWith 75 = .ok (.getfield 20, 3) := by decide +kernel
theorem dX4_fillWith_78 : decode cX4_fillWith 78 = .ok (.iload_n 3, 1) := by decide +kernel
theorem dX4_fillWith_79 : decode cX4_fillWith 79 = .ok (.iload 4, 2) := by decide +kernel
theorem dX4_fillWith_81 : decode cX4_fillWith 81 = .ok (.iastore, 1) := by decide +kernel
theorem dX4_fillWith_82 : decode cX4_fillWith 82 = .ok (.aload_n 0, 1) := by decide +kernel
theorem dX4_fillWith_83 : decode cX4_fillWith 83 = .ok (.getfield 23, 3) := by decide +kernel
theorem dX4_fillWith_86 : decode cX4_fillWith 86 = .ok (.iload_n 3, 1) := by decide +kernel
theorem dX4_fillWith_87 : decode cX4_fillWith 87 = .ok (.aload_n 0, 1) := by decide +kernel
theorem dX4_fillWith_88 : decode cX4_fillWith 88 = .ok (.getfield 30, 3) := by decide +kernel
theorem dX4_fillWith_91 : decode cX4_fillWith 91 = .ok (.aload_n 0, 1) := by decide +kernel
theorem dX4_fillWith_92 : decode cX4_fillWith 92 = .ok (.getfield 13, 3) := by decide +kernel
theorem dX4_fillWith_95 : decode cX4_fillWith 95 = .ok (.iload_n 3, 1) := by decide +kernel
theorem dX4_fillWith_96 : decode cX4_fillWith 96 = .ok (.iaload, 1) := by decide +kernel
theorem dX4_fillWith_97 : decode cX4_fillWith 97 = .ok (.iload 4, 2) := by decide +kernel
theorem dX4_fillWith_99 : decode cX4_fillWith 99 = .ok (.invokevirtual 70, 3) := by decide +kernel
theorem dX4_fillWith_102 : decode cX4_fillWith 102 = .ok (.iastore, 1) := by decide +kernel
theorem dX4_fillWith_103 : decode cX4_fillWith 103 = .ok (.aload_n 0, 1) := by decide +kernel
theorem dX4_fillWith_104 : decode cX4_fillWith 104 = .ok (.getfield 26, 3) := by decide +kernel
theorem dX4_fillWith_107 : decode cX4_fillWith 107 = .ok (.iload_n 3, 1) := by decide +kernel
theorem dX4_fillWith_108 : decode cX4_fillWith 108 = .ok (.aload_n 0, 1) := by decide +kernel
theorem dX4_fillWith_109 : decode cX4_fillWith 109 = .ok (.getfield 30, 3) := by decide +kernel
theorem dX4_fillWith_112 : decode cX4_fillWith 112 = .ok (.aload_n 0, 1) := by decide +kernel
theorem dX4_fillWith_113 : decode cX4_fillWith 113 = .ok (.getfield 13, 3) := by decide +kernel
theorem dX4_fillWith_116 : decode cX4_fillWith 116 = .ok (.iload_n 3, 1) := by decide +kernel
theorem dX4_fillWith_117 : decode cX4_fillWith 117 = .ok (.iaload, 1) := by decide +kernel
theorem dX4_fillWith_118 : decode cX4_fillWith 118 = .ok (.iload 4, 2) := by decide +kernel
theorem dX4_fillWith_120 : decode cX4_fillWith 120 = .ok (.invokevirtual 73, 3) := by decide +kernel
theorem dX4_fillWith_123 : decode cX4_fillWith 123 = .ok (.lastore, 1) := by decide +kernel
theorem dX4_fillWith_124 : decode cX4_fillWith 124 = .ok (.iload_n 2, 1) := by decide +kernel
theorem dX4_fillWith_125 : decode cX4_fillWith 125 = .ok (.iload 4, 2) := by decide +kernel
theorem dX4_fillWith_127 : decode cX4_fillWith 127 = .ok (.isub, 1) := by decide +kernel
theorem dX4_fillWith_128 : decode cX4_fillWith 128 = .ok (.istore_n 2, 1) := by decide +kernel
theorem dX4_fillWith_129 : decode cX4_fillWith 129 = .ok (.iinc 3 1, 3) := by decide +kernel
theorem dX4_fillWith_132 : decode cX4_fillWith 132 = .ok (.goto (-111), 3) := by decide +kernel
theorem dX4_fillWith_135 : decode cX4_fillWith 135 = .ok (.aload_n 0, 1) := by decide +kernel
theorem dX4_fillWith_136 : decode cX4_fillWith 136 = .ok (.aload_n 0, 1) := by decide +kernel
theorem dX4_fillWith_137 : decode cX4_fillWith 137 = .ok (.getfield 42, 3) := by decide +kernel
theorem dX4_fillWith_140 : decode cX4_fillWith 140 = .ok (.putfield 34, 3) := by decide +kernel
theorem dX4_fillWith_143 : decode cX4_fillWith 143 = .ok (.aload_n 0, 1) := by decide +kernel
theorem dX4_fillWith_144 : decode cX4_fillWith 144 = .ok (.getfield 17, 3) := by decide +kernel
theorem dX4_fillWith_147 : decode cX4_fillWith 147 = .ok (.iload_n 1, 1) := by decide +kernel
theorem dX4_fillWith_148 : decode cX4_fillWith 148 = .ok (.iaload, 1) := by decide +kernel
theorem dX4_fillWith_149 : decode cX4_fillWith 149 = .ok (.ireturn, 1) := by decide +kernel
abbrev rm_X4_fillWith : Room := { frames := 4, cells := 0, slots := 0, locals := 106 }
def f_X4_fillWith_74 (N : Nat) (k21 : Int32 → Int32 → Int32 → St → Option (Int32 × St)) (x1 : Int32) (x2 : Int32) (x3 : Int32) (x4 : Int32) (σ : St) : Option (Int32 × St) := grd (ib x3 12) (grd (ib x3 12) (bo (f_X2_slotLength (σ.1 68 x3.toNatClampNeg) x4 (si σ 70 x3.toNatClampNeg x4)) (fun r13_ => grd (ib x3 12) (grd (ib x3 12) (bo (f_X2_slotRow (σ.1 68 x3.toNatClampNeg) x4 (si (si σ 70 x3.toNatClampNeg x4) 71 x3.toNatClampNeg r13_)) (fun r16_ => grd (ib x3 12) (k21 x1 (x2 - x4) (x3 + 1) (sl (si (si σ 70 x3.toNatClampNeg x4) 71 x3.toNatClampNeg r13_) 72 x3.toNatClampNeg r16_))))))))
def f_X4_fillWith_32 (N : Nat) (k21 : Int32 → Int32 → Int32 → St → Option (Int32 × St)) : Nat → Int32 → Int32 → Int32 → Int32 → St → Option (Int32 × St)
  | 0, _, _, _, _, _ => none
  | n + 1, x1, x2, x3, x4, σ => (if 12 ≤ x4 then f_X4_fillWith_74 N k21 x1 x2 x3 x4 σ else (if x2 ≤ x4 then f_X4_fillWith_74 N k21 x1 x2 x3 x4 σ else bo (f_X4_paintWith x3 x2 x4 σ) (fun r8_ => grd (ib ((x3 * 145) + x2) 1885) ((if r8_ = (σ.1 69 ((x3 * 145) + x2).toNatClampNeg) then f_X4_fillWith_74 N k21 x1 x2 x3 x4 σ else f_X4_fillWith_32 N k21 n x1 x2 x3 (x4 + 1) σ)))))
def f_X4_fillWith_21 (N : Nat) : Nat → Int32 → Int32 → Int32 → St → Option (Int32 × St)
  | 0, _, _, _, _ => none
  | n + 1, x1, x2, x3, σ => (if (σ.1 14402 0) ≤ x3 then grd (ib x1 1885) (some (σ.1 69 x1.toNatClampNeg, (si σ 14405 0 (σ.1 14402 0)))) else f_X4_fillWith_32 N (f_X4_fillWith_21 N n) N x1 x2 x3 1 σ)
def f_X4_fillWith (N : Nat) (x1 : Int32) (σ : St) : Option (Int32 × St) := bo (f_X4_plan N σ) (fun σ1 => grd (ib x1 1885) ((if (σ1.1 69 x1.toNatClampNeg) = 2147483647 then some ((-1), σ1) else f_X4_fillWith_21 N N x1 x1 0 σ1)))
section
variable {p : Program} {l : Launch} {e : Env} {s : State} {m : MethodId} {args : Array Value} {below : List Frame} {meth : Method} {c : Code} {g : XG}
set_option maxRecDepth 4000 in
theorem w_X4_fillWith_74 (N : Nat) (k21 : Int32 → Int32 → Int32 → St → Option (Int32 × St)) {r : Int32} {σ' : St} (C : xC KX g RX4 cX4_fillWith 5 (some .int) p s m args meth c) (hk21 : ∀ (x1 : Int32) (x2 : Int32) (x3 : Int32) (σ : St) (H : Heap) (locs : List Loc) (ls : Array Slot), xW KX g s σ H locs → lv_has ls 5 [(0, .ref (g.q 67)), (1, .int x1), (2, .int x2), (3, .int x3)] → k21 x1 x2 x3 σ = some (r, σ') → W p l e rm_X4_fillWith s m args below meth c H locs 0 0 (MQ below (xPost KX g (some (.int r)) σ') args s 0 0 (xA KX g.q)) (F0 m 21 ls [])) : ∀ (x1 : Int32) (x2 : Int32) (x3 : Int32) (x4 : Int32) (σ : St) (H : Heap) (locs : List Loc) (ls : Array Slot), xW KX g s σ H locs → lv_has ls 5 [(0, .ref (g.q 67)), (1, .int x1), (2, .int x2), (3, .int x3), (4, .int x4)] → f_X4_fillWith_74 N k21 x1 x2 x3 x4 σ = some (r, σ') → W p l e rm_X4_fillWith s m args below meth c H locs 0 0 (MQ below (xPost KX g (some (.int r)) σ') args s 0 0 (xA KX g.q)) (F0 m 74 ls []) := by
  have hx := C.1
  have hb := C.2.1
  intro x1 x2 x3 x4 σ H locs ls hW hl h
  unfold f_X4_fillWith_74 at h
  refine lv_aload_n hx hb dX4_fillWith_74 rfl (lv_at hl 0 rfl) ?_
  refine xg_r C hW fg_4_20 KX_67 rfl dX4_fillWith_75 ?_
  refine lv_iload_n hx hb dX4_fillWith_78 rfl (lv_at hl 3 rfl) ?_
  refine lv_iload hx hb dX4_fillWith_79 (lv_at hl 4 rfl) ?_
  obtain ⟨g11, h⟩ := xgd h
  refine xs_i C hW KX_70 g11 dX4_fillWith_81 (fun H locs hW => ?_)
  refine lv_aload_n hx hb dX4_fillWith_82 rfl (lv_at hl 0 rfl) ?_
  refine xg_r C hW fg_4_23 KX_67 rfl dX4_fillWith_83 ?_
  refine lv_iload_n hx hb dX4_fillWith_86 rfl (lv_at hl 3 rfl) ?_
  refine lv_aload_n hx hb dX4_fillWith_87 rfl (lv_at hl 0 rfl) ?_
  refine xg_r C hW fg_4_30 KX_67 rfl dX4_fillWith_88 ?_
  refine lv_aload_n hx hb dX4_fillWith_91 rfl (lv_at hl 0 rfl) ?_
  refine xg_r C hW fg_4_13 KX_67 rfl dX4_fillWith_92 ?_
  refine lv_iload_n hx hb dX4_fillWith_95 rfl (lv_at hl 3 rfl) ?_
  obtain ⟨g12, h⟩ := xgd h
  refine xa_i C hW KX_68 g12 (x := σ.1 68 x3.toNatClampNeg) rfl dX4_fillWith_96 ?_
  refine lv_iload hx hb dX4_fillWith_97 (lv_at hl 4 rfl) ?_
  obtain ⟨r13_, e13, h⟩ := xbo h
  refine xc_V (As := [.int (σ.1 68 x3.toNatClampNeg), .int x4]) (rest := [.int x3, .ref (g.q 71)]) C hW (m_X2_slotLength (σ.1 68 x3.toNatClampNeg) x4 _ e13) mf_X2_slotLength mv_X2_slotLength ml_X4_70 ⟨rfl, rfl⟩ ⟨Nat.le_of_ble_eq_true rfl, Nat.le_of_ble_eq_true rfl⟩ KX_46 rfl hl.1 rfl rfl (Nat.le_of_ble_eq_true rfl) dX4_fillWith_99 (fun H locs hW => W.eq (g2 := F0 m 102 ls [.int r13_, .int x3, .ref (g.q 71)]) rfl ?_)
  obtain ⟨g14, h⟩ := xgd h
  refine xs_i C hW KX_71 g14 dX4_fillWith_102 (fun H locs hW => ?_)
  refine lv_aload_n hx hb dX4_fillWith_103 rfl (lv_at hl 0 rfl) ?_
  refine xg_r C hW fg_4_26 KX_67 rfl dX4_fillWith_104 ?_
  refine lv_iload_n hx hb dX4_fillWith_107 rfl (lv_at hl 3 rfl) ?_
  refine lv_aload_n hx hb dX4_fillWith_108 rfl (lv_at hl 0 rfl) ?_
  refine xg_r C hW fg_4_30 KX_67 rfl dX4_fillWith_109 ?_
  refine lv_aload_n hx hb dX4_fillWith_112 rfl (lv_at hl 0 rfl) ?_
  refine xg_r C hW fg_4_13 KX_67 rfl dX4_fillWith_113 ?_
  refine lv_iload_n hx hb dX4_fillWith_116 rfl (lv_at hl 3 rfl) ?_
  obtain ⟨g15, h⟩ := xgd h
  refine xa_i C hW KX_68 g15 (x := σ.1 68 x3.toNatClampNeg) rfl dX4_fillWith_117 ?_
  refine lv_iload hx hb dX4_fillWith_118 (lv_at hl 4 rfl) ?_
  obtain ⟨r16_, e16, h⟩ := xbo h
  refine xc_V (As := [.int (σ.1 68 x3.toNatClampNeg), .int x4]) (rest := [.int x3, .ref (g.q 72)]) C hW (m_X2_slotRow (σ.1 68 x3.toNatClampNeg) x4 _ e16) mf_X2_slotRow mv_X2_slotRow ml_X4_73 ⟨rfl, rfl⟩ ⟨Nat.le_of_ble_eq_true rfl, Nat.le_of_ble_eq_true rfl⟩ KX_46 rfl hl.1 rfl rfl (Nat.le_of_ble_eq_true rfl) dX4_fillWith_120 (fun H locs hW => W.eq (g2 := F0 m 123 ls [.long r16_, .int x3, .ref (g.q 72)]) rfl ?_)
  obtain ⟨g17, h⟩ := xgd h
  refine xs_l C hW KX_72 g17 dX4_fillWith_123 (fun H locs hW => ?_)
  refine lv_iload_n hx hb dX4_fillWith_124 rfl (lv_at hl 2 rfl) ?_
  refine lv_iload hx hb dX4_fillWith_125 (lv_at hl 4 rfl) ?_
  refine lv_isub hx hb dX4_fillWith_127 ?_
  refine lv_istore_n (lv' := [(2, .int (x2 - x4)), (0, .ref (g.q 67)), (1, .int x1), (3, .int x3), (4, .int x4)]) hx hb dX4_fillWith_128 rfl hl (Nat.le_of_ble_eq_true rfl) rfl (fun ls hl => ?_)
  refine lv_iinc (v := x3 + 1) (lv' := [(3, .int (x3 + 1)), (2, .int (x2 - x4)), (0, .ref (g.q 67)), (1, .int x1), (4, .int x4)]) hx hb dX4_fillWith_129 hl (k := 3) rfl rfl (Nat.le_of_ble_eq_true rfl) rfl (fun ls hl => ?_)
  refine lv_goto (tgt := 21) hx hb dX4_fillWith_132 (by decide) ?_
  exact hk21 x1 (x2 - x4) (x3 + 1) _ _ _ _ hW (lv_sub hl [2, 3, 1, 0] rfl) h
set_option maxRecDepth 4000 in
theorem w_X4_fillWith_32 (N : Nat) (k21 : Int32 → Int32 → Int32 → St → Option (Int32 × St)) {r : Int32} {σ' : St} (C : xC KX g RX4 cX4_fillWith 5 (some .int) p s m args meth c) (hk21 : ∀ (x1 : Int32) (x2 : Int32) (x3 : Int32) (σ : St) (H : Heap) (locs : List Loc) (ls : Array Slot), xW KX g s σ H locs → lv_has ls 5 [(0, .ref (g.q 67)), (1, .int x1), (2, .int x2), (3, .int x3)] → k21 x1 x2 x3 σ = some (r, σ') → W p l e rm_X4_fillWith s m args below meth c H locs 0 0 (MQ below (xPost KX g (some (.int r)) σ') args s 0 0 (xA KX g.q)) (F0 m 21 ls [])) : ∀ (n : Nat), ∀ (x1 : Int32) (x2 : Int32) (x3 : Int32) (x4 : Int32) (σ : St) (H : Heap) (locs : List Loc) (ls : Array Slot), xW KX g s σ H locs → lv_has ls 5 [(0, .ref (g.q 67)), (1, .int x1), (2, .int x2), (3, .int x3), (4, .int x4)] → f_X4_fillWith_32 N k21 n x1 x2 x3 x4 σ = some (r, σ') → W p l e rm_X4_fillWith s m args below meth c H locs 0 0 (MQ below (xPost KX g (some (.int r)) σ') args s 0 0 (xA KX g.q)) (F0 m 32 ls []) := by
  have hx := C.1
  have hb := C.2.1
  intro n
  induction n with
  | zero => intro x1 x2 x3 x4 σ H locs ls hW hl h; rw [f_X4_fillWith_32] at h; cases h
  | succ n ih =>
    intro x1 x2 x3 x4 σ H locs ls hW hl h
    rw [f_X4_fillWith_32] at h
    refine lv_iload hx hb dX4_fillWith_32 (lv_at hl 4 rfl) ?_
    refine lv_bipush (v := 12) hx hb dX4_fillWith_34 rfl ?_
    refine lv_icmp_ge (tgt := 74) hx hb dX4_fillWith_36 (by decide) (fun c6 => ?_) (fun c6 => ?_)
    · have h := xit c6 h
      exact w_X4_fillWith_74 N k21 C hk21 x1 x2 x3 x4 _ _ _ _ hW (lv_sub hl [0, 1, 2, 3, 4] rfl) h
    · have h := xif c6 h
      refine lv_iload hx hb dX4_fillWith_39 (lv_at hl 4 rfl) ?_
      refine lv_iload_n hx hb dX4_fillWith_41 rfl (lv_at hl 2 rfl) ?_
      refine lv_icmp_ge (tgt := 74) hx hb dX4_fillWith_42 (by decide) (fun c7 => ?_) (fun c7 => ?_)
      · have h := xit c7 h
        exact w_X4_fillWith_74 N k21 C hk21 x1 x2 x3 x4 _ _ _ _ hW (lv_sub hl [0, 1, 2, 3, 4] rfl) h
      · have h := xif c7 h
        refine lv_aload_n hx hb dX4_fillWith_45 rfl (lv_at hl 0 rfl) ?_
        refine lv_iload_n hx hb dX4_fillWith_46 rfl (lv_at hl 3 rfl) ?_
        refine lv_iload_n hx hb dX4_fillWith_47 rfl (lv_at hl 2 rfl) ?_
        refine lv_iload hx hb dX4_fillWith_48 (lv_at hl 4 rfl) ?_
        obtain ⟨r8_, e8, h⟩ := xbo h
        refine xc_V (As := [.int x3, .int x2, .int x4]) (rest := []) C hW (m_X4_paintWith x3 x2 x4 _ e8) mf_X4_paintWith mv_X4_paintWith ml_X4_55 ⟨rfl, rfl⟩ ⟨Nat.le_of_ble_eq_true rfl, Nat.le_of_ble_eq_true rfl⟩ KX_67 rfl hl.1 rfl rfl (Nat.le_of_ble_eq_true rfl) dX4_fillWith_50 (fun H locs hW => W.eq (g2 := F0 m 53 ls [.int r8_]) rfl ?_)
        refine lv_aload_n hx hb dX4_fillWith_53 rfl (lv_at hl 0 rfl) ?_
        refine xg_r C hW fg_4_17 KX_67 rfl dX4_fillWith_54 ?_
        refine lv_iload_n hx hb dX4_fillWith_57 rfl (lv_at hl 3 rfl) ?_
        refine lv_sipush (v := 145) hx hb dX4_fillWith_58 rfl ?_
        refine lv_imul hx hb dX4_fillWith_61 ?_
        refine lv_iload_n hx hb dX4_fillWith_62 rfl (lv_at hl 2 rfl) ?_
        refine lv_iadd hx hb dX4_fillWith_63 ?_
        obtain ⟨g9, h⟩ := xgd h
        refine xa_i C hW KX_69 g9 (x := σ.1 69 ((x3 * 145) + x2).toNatClampNeg) rfl dX4_fillWith_64 ?_
        refine lv_icmp_eq (tgt := 74) hx hb dX4_fillWith_65 (by decide) (fun c10 => ?_) (fun c10 => ?_)
        · have h := xit c10 h
          exact w_X4_fillWith_74 N k21 C hk21 x1 x2 x3 x4 _ _ _ _ hW (lv_sub hl [0, 1, 2, 3, 4] rfl) h
        · have h := xif c10 h
          refine lv_iinc (v := x4 + 1) (lv' := [(4, .int (x4 + 1)), (0, .ref (g.q 67)), (1, .int x1), (2, .int x2), (3, .int x3)]) hx hb dX4_fillWith_68 hl (k := 4) rfl rfl (Nat.le_of_ble_eq_true rfl) rfl (fun ls hl => ?_)
          refine lv_goto (tgt := 32) hx hb dX4_fillWith_71 (by decide) ?_
          exact ih x1 x2 x3 (x4 + 1) _ _ _ _ hW (lv_sub hl [1, 2, 3, 4, 0] rfl) h
set_option maxRecDepth 4000 in
theorem w_X4_fillWith_21 (N : Nat) {r : Int32} {σ' : St} (C : xC KX g RX4 cX4_fillWith 5 (some .int) p s m args meth c) : ∀ (n : Nat), ∀ (x1 : Int32) (x2 : Int32) (x3 : Int32) (σ : St) (H : Heap) (locs : List Loc) (ls : Array Slot), xW KX g s σ H locs → lv_has ls 5 [(0, .ref (g.q 67)), (1, .int x1), (2, .int x2), (3, .int x3)] → f_X4_fillWith_21 N n x1 x2 x3 σ = some (r, σ') → W p l e rm_X4_fillWith s m args below meth c H locs 0 0 (MQ below (xPost KX g (some (.int r)) σ') args s 0 0 (xA KX g.q)) (F0 m 21 ls []) := by
  have hx := C.1
  have hb := C.2.1
  intro n
  induction n with
  | zero => intro x1 x2 x3 σ H locs ls hW hl h; rw [f_X4_fillWith_21] at h; cases h
  | succ n ih =>
    intro x1 x2 x3 σ H locs ls hW hl h
    rw [f_X4_fillWith_21] at h
    refine lv_iload_n hx hb dX4_fillWith_21 rfl (lv_at hl 3 rfl) ?_
    refine lv_aload_n hx hb dX4_fillWith_22 rfl (lv_at hl 0 rfl) ?_
    refine xg_i C hW fg_4_42 KX_67 rfl (v := 14402) rfl (x := σ.1 14402 0) rfl dX4_fillWith_23 ?_
    refine lv_icmp_ge (tgt := 135) hx hb dX4_fillWith_26 (by decide) (fun c4 => ?_) (fun c4 => ?_)
    · have h := xit c4 h
      refine lv_aload_n hx hb dX4_fillWith_135 rfl (lv_at hl 0 rfl) ?_
      refine lv_aload_n hx hb dX4_fillWith_136 rfl (lv_at hl 0 rfl) ?_
      refine xg_i C hW fg_4_42 KX_67 rfl (v := 14402) rfl (x := σ.1 14402 0) rfl dX4_fillWith_137 ?_
      refine xp_i C hW fp_4_34 KX_67 rfl (v := 14405) rfl rfl rfl dX4_fillWith_140 (fun H locs hW => ?_)
      refine lv_aload_n hx hb dX4_fillWith_143 rfl (lv_at hl 0 rfl) ?_
      refine xg_r C hW fg_4_17 KX_67 rfl dX4_fillWith_144 ?_
      refine lv_iload_n hx hb dX4_fillWith_147 rfl (lv_at hl 1 rfl) ?_
      obtain ⟨g5, h⟩ := xgd h
      refine xa_i C hW KX_69 g5 (x := σ.1 69 x1.toNatClampNeg) rfl dX4_fillWith_148 ?_
      cases h
      exact xr_i C hW dX4_fillWith_149
    · have h := xif c4 h
      refine lv_iconst (v := 1) hx hb dX4_fillWith_29 rfl ?_
      refine lv_istore (lv' := [(4, .int 1), (0, .ref (g.q 67)), (1, .int x1), (2, .int x2), (3, .int x3)]) hx hb dX4_fillWith_30 hl (Nat.le_of_ble_eq_true rfl) rfl (fun ls hl => ?_)
      exact w_X4_fillWith_32 N (f_X4_fillWith_21 N n) C ih N x1 x2 x3 1 _ _ _ _ hW (lv_sub hl [1, 2, 3, 4, 0] rfl) h
set_option maxRecDepth 4000 in
theorem m_X4_fillWith (N : Nat) (x1 : Int32) (σ : St) {r : Int32} {σ' : St} (h : f_X4_fillWith N x1 σ = some (r, σ')) : xM l KX g yX4_fillWith cX4_fillWith 5 (some .int) rm_X4_fillWith [.ref (g.q 67), .int x1] σ (some (.int r)) σ' := by
  refine xmet pn_X4 rfl (Nat.le_of_ble_eq_true rfl) (lv := [(0, .ref (g.q 67)), (1, .int x1)]) rfl (fun p e s m args below meth c ls C hW hl => ?_)
  have hx := C.1
  have hb := C.2.1
  unfold f_X4_fillWith at h
  refine lv_aload_n hx hb dX4_fillWith_0 rfl (lv_at hl 0 rfl) ?_
  obtain ⟨σ1, e1, h⟩ := xbo h
  refine xc_V (As := []) (rest := []) C hW (m_X4_plan N _ e1) mf_X4_plan mv_X4_plan ml_X4_67 ⟨rfl, rfl⟩ ⟨Nat.le_of_ble_eq_true rfl, Nat.le_of_ble_eq_true rfl⟩ KX_67 rfl hl.1 rfl rfl (Nat.le_of_ble_eq_true rfl) dX4_fillWith_1 (fun H locs hW => W.eq (g2 := F0 m 4 ls []) rfl ?_)
  refine lv_aload_n hx hb dX4_fillWith_4 rfl (lv_at hl 0 rfl) ?_
  refine xg_r C hW fg_4_17 KX_67 rfl dX4_fillWith_5 ?_
  refine lv_iload_n hx hb dX4_fillWith_8 rfl (lv_at hl 1 rfl) ?_
  obtain ⟨g2, h⟩ := xgd h
  refine xa_i C hW KX_69 g2 (x := σ1.1 69 x1.toNatClampNeg) rfl dX4_fillWith_9 ?_
  refine lv_ldc (v := 2147483647) hx hb C.ow (C.hts _ kc_X4_48) dX4_fillWith_10 ?_
  refine lv_icmp_ne (tgt := 17) hx hb dX4_fillWith_12 (by decide) (fun c3 => ?_) (fun c3 => ?_)
  · have h := xif c3 h
    refine lv_iload_n hx hb dX4_fillWith_17 rfl (lv_at hl 1 rfl) ?_
    refine lv_istore_n (lv' := [(2, .int x1), (0, .ref (g.q 67)), (1, .int x1)]) hx hb dX4_fillWith_18 rfl hl (Nat.le_of_ble_eq_true rfl) rfl (fun ls hl => ?_)
    refine lv_iconst (v := 0) hx hb dX4_fillWith_19 rfl ?_
    refine lv_istore_n (lv' := [(3, .int 0), (2, .int x1), (0, .ref (g.q 67)), (1, .int x1)]) hx hb dX4_fillWith_20 rfl hl (Nat.le_of_ble_eq_true rfl) rfl (fun ls hl => ?_)
    exact w_X4_fillWith_21 N C N x1 x1 0 _ _ _ _ hW (lv_sub hl [2, 3, 1, 0] rfl) h
  · have h := xit c3 h
    refine lv_iconst (v := (-1)) hx hb dX4_fillWith_15 rfl ?_
    cases h
    exact xr_i C hW dX4_fillWith_16
end
theorem dX5_forget_0 : decode cX5_forget 0 = .ok (.aload_n 0, 1) := by decide +kernel
theorem dX5_forget_1 : decode cX5_forget 1 = .ok (.iconst 0, 1) := by decide +kernel
theorem dX5_forget_2 : decode cX5_forget 2 = .ok (.putfield 54, 3) := by decide +kernel
theorem dX5_forget_5 : decode cX5_forget 5 = .ok (.aload_n 0, 1) := by decide +kernel
theorem dX5_forget_6 : decode cX5_forget 6 = .ok (.iconst 0, 1) := by decide +kernel
theorem dX5_forget_7 : decode cX5_forget 7 = .ok (.putfield 58, 3) := by decide +kernel
theorem dX5_forget_10 : decode cX5_forget 10 = .ok (.return_, 1) := by decide +kernel
abbrev rm_X5_forget : Room := { frames := 0, cells := 0, slots := 0, locals := 0 }
def f_X5_forget (σ : St) : Option St := some ((si (si σ 12404 0 0) 12411 0 0))
section
variable {p : Program} {l : Launch} {e : Env} {s : State} {m : MethodId} {args : Array Value} {below : List Frame} {meth : Method} {c : Code} {g : XG}
set_option maxRecDepth 4000 in
theorem m_X5_forget (σ : St) {σ' : St} (h : f_X5_forget σ = some σ') : xM l KX g yX5_forget cX5_forget 1 none rm_X5_forget [.ref (g.q 57)] σ none σ' := by
  refine xmet pn_X5 rfl (Nat.le_of_ble_eq_true rfl) (lv := [(0, .ref (g.q 57))]) rfl (fun p e s m args below meth c ls C hW hl => ?_)
  have hx := C.1
  have hb := C.2.1
  unfold f_X5_forget at h
  refine lv_aload_n hx hb dX5_forget_0 rfl (lv_at hl 0 rfl) ?_
  refine lv_iconst (v := 0) hx hb dX5_forget_1 rfl ?_
  refine xp_i C hW fp_5_54 KX_57 rfl (v := 12404) rfl rfl rfl dX5_forget_2 (fun H locs hW => ?_)
  refine lv_aload_n hx hb dX5_forget_5 rfl (lv_at hl 0 rfl) ?_
  refine lv_iconst (v := 0) hx hb dX5_forget_6 rfl ?_
  refine xp_i C hW fp_5_58 KX_57 rfl (v := 12411) rfl rfl rfl dX5_forget_7 (fun H locs hW => ?_)
  cases h
  exact xr_v C hW dX5_forget_10
end
theorem dX5_keepDraft_0 : decode cX5_keepDraft 0 = .ok (.aload_n 0, 1) := by decide +kernel
theorem dX5_keepDraft_1 : decode cX5_keepDraft 1 = .ok (.getfield 15, 3) := by decide +kernel
theorem dX5_keepDraft_4 : decode cX5_keepDraft 4 = .ok (.iconst 0, 1) := by decide +kernel
theorem dX5_keepDraft_5 : decode cX5_keepDraft 5 = .ok (.aload_n 0, 1) := by decide +kernel
theorem dX5_keepDraft_6 : decode cX5_keepDraft 6 = .ok (.getfield 11, 3) := by decide +kernel
theorem dX5_keepDraft_9 : decode cX5_keepDraft 9 = .ok (.iconst 0, 1) := by decide +kernel
theorem dX5_keepDraft_10 : decode cX5_keepDraft 10 = .ok (.iload_n 1, 1) := by decide +kernel
theorem dX5_keepDraft_11 : decode cX5_keepDraft 11 = .ok (.invokestatic 83, 3) := by decide +kernel
theorem dX5_keepDraft_14 : decode cX5_keepDraft 14 = .ok (.aload_n 0, 1) := by decide +kernel
theorem dX5_keepDraft_15 : decode cX5_keepDraft 15 = .ok (.iload_n 1, 1) := by decide +kernel
theorem dX5_keepDraft_16 : decode cX5_keepDraft 16 = .ok (.putfield 54, 3) := by decide +kernel
theorem dX5_keepDraft_19 : decode cX5_keepDraft 19 = .ok (.aload_n 0, 1) := by decide +kernel
theorem dX5_keepDraft_20 : decode cX5_keepDraft 20 = .ok (.iconst 0, 1) := by decide +kernel
theorem dX5_keepDraft_21 : decode cX5_keepDraft 21 = .ok (.putfield 58, 3) := by decide +kernel
theorem dX5_keepDraft_24 : decode cX5_keepDraft 24 = .ok (.iload_n 1, 1) := by decide +kernel
theorem dX5_keepDraft_25 : decode cX5_keepDraft 25 = .ok (.ireturn, 1) := by decide +kernel
abbrev rm_X5_keepDraft : Room := { frames := 1, cells := 0, slots := 0, locals := 60 }
def f_X5_keepDraft (x1 : Int32) (σ : St) : Option (Int32 × St) := grd (cpb 0 0 x1 24 24) (some (x1, (si (si (sr σ 58 (va_cpy (σ.1 59) (σ.1 58) 0 0 x1.toNatClampNeg)) 12404 0 x1) 12411 0 0)))
section
variable {p : Program} {l : Launch} {e : Env} {s : State} {m : MethodId} {args : Array Value} {below : List Frame} {meth : Method} {c : Code} {g : XG}
set_option maxRecDepth 4000 in
theorem m_X5_keepDraft (x1 : Int32) (σ : St) {r : Int32} {σ' : St} (h : f_X5_keepDraft x1 σ = some (r, σ')) : xM l KX g yX5_keepDraft cX5_keepDraft 2 (some .int) rm_X5_keepDraft [.ref (g.q 57), .int x1] σ (some (.int r)) σ' := by
  refine xmet pn_X5 rfl (Nat.le_of_ble_eq_true rfl) (lv := [(0, .ref (g.q 57)), (1, .int x1)]) rfl (fun p e s m args below meth c ls C hW hl => ?_)
  have hx := C.1
  have hb := C.2.1
  unfold f_X5_keepDraft at h
  refine lv_aload_n hx hb dX5_keepDraft_0 rfl (lv_at hl 0 rfl) ?_
  refine xg_r C hW fg_5_15 KX_57 rfl dX5_keepDraft_1 ?_
  refine lv_iconst (v := 0) hx hb dX5_keepDraft_4 rfl ?_
  refine lv_aload_n hx hb dX5_keepDraft_5 rfl (lv_at hl 0 rfl) ?_
  refine xg_r C hW fg_5_11 KX_57 rfl dX5_keepDraft_6 ?_
  refine lv_iconst (v := 0) hx hb dX5_keepDraft_9 rfl ?_
  refine lv_iload_n hx hb dX5_keepDraft_10 rfl (lv_at hl 1 rfl) ?_
  obtain ⟨g1, h⟩ := xgd h
  refine xcp_i C hW KX_59 KX_58 g1 ml_X5_83 (Nat.le_of_ble_eq_true rfl) (Nat.le_of_ble_eq_true rfl) hl.1 (Nat.le_of_ble_eq_true rfl) dX5_keepDraft_11 (fun H locs hW => ?_)
  refine lv_aload_n hx hb dX5_keepDraft_14 rfl (lv_at hl 0 rfl) ?_
  refine lv_iload_n hx hb dX5_keepDraft_15 rfl (lv_at hl 1 rfl) ?_
  refine xp_i C hW fp_5_54 KX_57 rfl (v := 12404) rfl rfl rfl dX5_keepDraft_16 (fun H locs hW => ?_)
  refine lv_aload_n hx hb dX5_keepDraft_19 rfl (lv_at hl 0 rfl) ?_
  refine lv_iconst (v := 0) hx hb dX5_keepDraft_20 rfl ?_
  refine xp_i C hW fp_5_58 KX_57 rfl (v := 12411) rfl rfl rfl dX5_keepDraft_21 (fun H locs hW => ?_)
  refine lv_iload_n hx hb dX5_keepDraft_24 rfl (lv_at hl 1 rfl) ?_
  cases h
  exact xr_i C hW dX5_keepDraft_25
end
theorem dX5_take_0 : decode cX5_take 0 = .ok (.iconst 0, 1) := by decide +kernel
theorem dX5_take_1 : decode cX5_take 1 = .ok (.istore_n 2, 1) := by decide +kernel
theorem dX5_take_2 : decode cX5_take 2 = .ok (.iload_n 2, 1) := by decide +kernel
theorem dX5_take_3 : decode cX5_take 3 = .ok (.bipush 24, 2) := by decide +kernel
theorem dX5_take_5 : decode cX5_take 5 = .ok (.if_icmp .gt 77, 3) := by decide +kernel
theorem dX5_take_8 : decode cX5_take 8 = .ok (.aload_n 1, 1) := by decide +kernel
theorem dX5_take_9 : decode cX5_take 9 = .ok (.invokevirtual 61, 3) := by decide +kernel
theorem dX5_take_12 : decode cX5_take 12 = .ok (.aload_n 1, 1) := by decide +kernel
theorem dX5_take_13 : decode cX5_take 13 = .ok (.getfield 66, 3) := by decide +kernel
theorem dX5_take_16 : decode cX5_take 16 = .ok (.ifCond .ne 17, 3) := by decide +kernel
theorem dX5_take_19 : decode cX5_take 19 = .ok (.iload_n 2, 1) := by decide +kernel
theorem dX5_take_20 : decode cX5_take 20 = .ok (.ifCond .ne 7, 3) := by decide +kernel
theorem dX5_take_23 : decode cX5_take 23 = .ok (.iconst (-1), 1) := by decide +kernel
theorem dX5_take_24 : decode cX5_take 24 = .ok (.goto 8, 3) := by decide +kernel
theorem dX5_take_27 : decode cX5_take 27 = .ok (.aload_n 0, 1) := by decide +kernel
theorem dX5_take_28 : decode cX5_take 28 = .ok (.iload_n 2, 1) := by decide +kernel
theorem dX5_take_29 : decode cX5_take 29 = .ok (.invokevirtual 69, 3) := by decide +kernel
theorem dX5_take_32 : decode cX5_take 32 = .ok (.ireturn, 1) := by decide +kernel
theorem dX5_take_33 : decode cX5_take 33 = .ok (.aload_n 1, 1) := by decide +kernel
theorem dX5_take_34 : decode cX5_take 34 = .ok (.getfield 66, 3) := by decide +kernel
theorem dX5_take_37 : decode cX5_take 37 = .ok (.iconst 1, 1) := by decide +kernel
theorem dX5_take_38 : decode cX5_take 38 = .ok (.if_icmp .ne 17, 3) := by decide +kernel
theorem dX5_take_41 : decode cX5_take 41 = .ok (.aload_n 0, 1) := by decide +kernel
theorem dX5_take_42 : decode cX5_take 42 = .ok (.getfield 42, 3) := by decide +kernel
theorem dX5_take_45 : decode cX5_take 45 = .ok (.aload_n 1, 1) := by decide +kernel
theorem dX5_take_46 : decode cX5_take 46 = .ok (.getfield 73, 3) := by decide +kernel
theorem dX5_take_49 : decode cX5_take 49 = .ok (.invokevirtual 77, 3) := by decide +kernel
theorem dX5_take_52 : decode cX5_take 52 = .ok (.goto 4, 3) := by decide +kernel
theorem dX5_take_55 : decode cX5_take 55 = .ok (.iconst (-1), 1) := by decide +kernel
theorem dX5_take_56 : decode cX5_take 56 = .ok (.istore_n 3, 1) := by decide +kernel
theorem dX5_take_57 : decode cX5_take 57 = .ok (.iload_n 3, 1) := by decide +kernel
theorem dX5_take_58 : decode cX5_take 58 = .ok (.ifCond .lt 9, 3) := by decide +kernel
theorem dX5_take_61 : decode cX5_take 61 = .ok (.iload_n 2, 1) := by decide +kernel
theorem dX5_take_62 : decode cX5_take 62 = .ok (.bipush 24, 2) := by decide +kernel
theorem dX5_take_64 : decode cX5_take 64 = .ok (.if_icmp .lt 5, 3) := by decide +kernel
theorem dX5_take_67 : decode cX5_take 67 = .ok (.iconst (-1), 1) := by decide +kernel
theorem dX5_take_68 : decode cX5_take 68 = .ok (.ireturn, 1) := by decide +kernel
theorem dX5_take_69 : decode cX5_take 69 = .ok (.aload_n 0, 1) := by decide +kernel
theorem dX5_take_70 : decode cX5_take 70 = .ok (.getfield 15, 3) := by decide +kernel
theorem dX5_take_73 : decode cX5_take 73 = .ok (.iload_n 2, 1) := by decide +kernel
theorem dX5_take_74 : decode cX5_take 74 = .ok (.iload_n 3, 1) := by decide +kernel
theorem dX5_take_75 : decode cX5_take 75 = .ok (.iastore, 1) := by decide +kernel
theorem dX5_take_76 : decode cX5_take 76 = .ok (.iinc 2 1, 3) := by decide +kernel
theorem dX5_take_79 : decode cX5_take 79 = .ok (.goto (-77), 3) := by decide +kernel
theorem dX5_take_82 : decode cX5_take 82 = .ok (.iconst (-1), 1) := by decide +kernel
theorem dX5_take_83 : decode cX5_take 83 = .ok (.ireturn, 1) := by decide +kernel
abbrev rm_X5_take : Room := { frames := 3, cells := 0, slots := 0, locals := 81 }
def f_X5_take_56 (N : Nat) (k2 : Int32 → St → Option (Int32 × St)) (x2 : Int32) (t0 : Int32) (σ : St) : Option (Int32 × St) := (if t0 < 0 then some ((-1), σ) else (if x2 < 24 then grd (ib x2 24) (k2 (x2 + 1) (si σ 59 x2.toNatClampNeg t0)) else some ((-1), σ)))
def f_X5_take_2 (N : Nat) : Nat → Int32 → St → Option (Int32 × St)
  | 0, _, _ => none
  | n + 1, x2, σ => (if 24 < x2 then some ((-1), σ) else bo (f_X8_next N σ) (fun σ2 => (if (σ2.1 4803 0) = 0 then (if x2 = 0 then some ((-1), σ2) else bd (f_X5_keepDraft x2 σ2) (fun r7_ σ7 => some (r7_, σ7))) else (if (σ2.1 4803 0) = 1 then bo (f_X6_find 1 N (σ2.2 4806 0) σ2) (fun r5_ => f_X5_take_56 N (f_X5_take_2 N n) x2 r5_ σ2) else f_X5_take_56 N (f_X5_take_2 N n) x2 ((-1)) σ2))))
def f_X5_take (N : Nat) (σ : St) : Option (Int32 × St) := f_X5_take_2 N N 0 σ
section
variable {p : Program} {l : Launch} {e : Env} {s : State} {m : MethodId} {args : Array Value} {below : List Frame} {meth : Method} {c : Code} {g : XG}
set_option maxRecDepth 4000 in
theorem w_X5_take_56 (N : Nat) (k2 : Int32 → St → Option (Int32 × St)) {r : Int32} {σ' : St} (C : xC KX g RX5 cX5_take 4 (some .int) p s m args meth c) (hk2 : ∀ (x2 : Int32) (σ : St) (H : Heap) (locs : List Loc) (ls : Array Slot), xW KX g s σ H locs → lv_has ls 4 [(0, .ref (g.q 57)), (1, .ref (g.q 19)), (2, .int x2)] → k2 x2 σ = some (r, σ') → W p l e rm_X5_take s m args below meth c H locs 0 0 (MQ below (xPost KX g (some (.int r)) σ') args s 0 0 (xA KX g.q)) (F0 m 2 ls [])) : ∀ (x2 : Int32) (t0 : Int32) (σ : St) (H : Heap) (locs : List Loc) (ls : Array Slot), xW KX g s σ H locs → lv_has ls 4 [(0, .ref (g.q 57)), (1, .ref (g.q 19)), (2, .int x2)] → f_X5_take_56 N k2 x2 t0 σ = some (r, σ') → W p l e rm_X5_take s m args below meth c H locs 0 0 (MQ below (xPost KX g (some (.int r)) σ') args s 0 0 (xA KX g.q)) (F0 m 56 ls [.int t0]) := by
  have hx := C.1
  have hb := C.2.1
  intro x2 t0 σ H locs ls hW hl h
  unfold f_X5_take_56 at h
  refine lv_istore_n (lv' := [(3, .int t0), (0, .ref (g.q 57)), (1, .ref (g.q 19)), (2, .int x2)]) hx hb dX5_take_56 rfl hl (Nat.le_of_ble_eq_true rfl) rfl (fun ls hl => ?_)
  refine lv_iload_n hx hb dX5_take_57 rfl (lv_at hl 0 rfl) ?_
  refine lv_if_lt (tgt := 67) hx hb dX5_take_58 (by decide) (fun c8 => ?_) (fun c8 => ?_)
  · have h := xit c8 h
    refine lv_iconst (v := (-1)) hx hb dX5_take_67 rfl ?_
    cases h
    exact xr_i C hW dX5_take_68
  · have h := xif c8 h
    refine lv_iload_n hx hb dX5_take_61 rfl (lv_at hl 3 rfl) ?_
    refine lv_bipush (v := 24) hx hb dX5_take_62 rfl ?_
    refine lv_icmp_lt (tgt := 69) hx hb dX5_take_64 (by decide) (fun c9 => ?_) (fun c9 => ?_)
    · have h := xit c9 h
      refine lv_aload_n hx hb dX5_take_69 rfl (lv_at hl 1 rfl) ?_
      refine xg_r C hW fg_5_15 KX_57 rfl dX5_take_70 ?_
      refine lv_iload_n hx hb dX5_take_73 rfl (lv_at hl 3 rfl) ?_
      refine lv_iload_n hx hb dX5_take_74 rfl (lv_at hl 0 rfl) ?_
      obtain ⟨g10, h⟩ := xgd h
      refine xs_i C hW KX_59 g10 dX5_take_75 (fun H locs hW => ?_)
      refine lv_iinc (v := x2 + 1) (lv' := [(2, .int (x2 + 1)), (3, .int t0), (0, .ref (g.q 57)), (1, .ref (g.q 19))]) hx hb dX5_take_76 hl (k := 3) rfl rfl (Nat.le_of_ble_eq_true rfl) rfl (fun ls hl => ?_)
      refine lv_goto (tgt := 2) hx hb dX5_take_79 (by decide) ?_
      exact hk2 (x2 + 1) _ _ _ _ hW (lv_sub hl [2, 3, 0] rfl) h
    · have h := xif c9 h
      refine lv_iconst (v := (-1)) hx hb dX5_take_67 rfl ?_
      cases h
      exact xr_i C hW dX5_take_68
set_option maxRecDepth 4000 in
theorem w_X5_take_2 (N : Nat) {r : Int32} {σ' : St} (C : xC KX g RX5 cX5_take 4 (some .int) p s m args meth c) : ∀ (n : Nat), ∀ (x2 : Int32) (σ : St) (H : Heap) (locs : List Loc) (ls : Array Slot), xW KX g s σ H locs → lv_has ls 4 [(0, .ref (g.q 57)), (1, .ref (g.q 19)), (2, .int x2)] → f_X5_take_2 N n x2 σ = some (r, σ') → W p l e rm_X5_take s m args below meth c H locs 0 0 (MQ below (xPost KX g (some (.int r)) σ') args s 0 0 (xA KX g.q)) (F0 m 2 ls []) := by
  have hx := C.1
  have hb := C.2.1
  intro n
  induction n with
  | zero => intro x2 σ H locs ls hW hl h; rw [f_X5_take_2] at h; cases h
  | succ n ih =>
    intro x2 σ H locs ls hW hl h
    rw [f_X5_take_2] at h
    refine lv_iload_n hx hb dX5_take_2 rfl (lv_at hl 2 rfl) ?_
    refine lv_bipush (v := 24) hx hb dX5_take_3 rfl ?_
    refine lv_icmp_gt (tgt := 82) hx hb dX5_take_5 (by decide) (fun c1 => ?_) (fun c1 => ?_)
    · have h := xit c1 h
      refine lv_iconst (v := (-1)) hx hb dX5_take_82 rfl ?_
      cases h
      exact xr_i C hW dX5_take_83
    · have h := xif c1 h
      refine lv_aload_n hx hb dX5_take_8 rfl (lv_at hl 1 rfl) ?_
      obtain ⟨σ2, e2, h⟩ := xbo h
      refine xc_V (As := []) (rest := []) C hW (m_X8_next N _ e2) mf_X8_next mv_X8_next ml_X5_61 ⟨rfl, rfl⟩ ⟨Nat.le_of_ble_eq_true rfl, Nat.le_of_ble_eq_true rfl⟩ KX_19 rfl hl.1 rfl rfl (Nat.le_of_ble_eq_true rfl) dX5_take_9 (fun H locs hW => W.eq (g2 := F0 m 12 ls []) rfl ?_)
      refine lv_aload_n hx hb dX5_take_12 rfl (lv_at hl 1 rfl) ?_
      refine xg_i C hW fg_5_66 KX_19 rfl (v := 4803) rfl (x := σ2.1 4803 0) rfl dX5_take_13 ?_
      refine lv_if_ne (tgt := 33) hx hb dX5_take_16 (by decide) (fun c3 => ?_) (fun c3 => ?_)
      · have h := xif c3 h
        refine lv_aload_n hx hb dX5_take_33 rfl (lv_at hl 1 rfl) ?_
        refine xg_i C hW fg_5_66 KX_19 rfl (v := 4803) rfl (x := σ2.1 4803 0) rfl dX5_take_34 ?_
        refine lv_iconst (v := 1) hx hb dX5_take_37 rfl ?_
        refine lv_icmp_ne (tgt := 55) hx hb dX5_take_38 (by decide) (fun c4 => ?_) (fun c4 => ?_)
        · have h := xif c4 h
          refine lv_iconst (v := (-1)) hx hb dX5_take_55 rfl ?_
          exact w_X5_take_56 N (f_X5_take_2 N n) C ih x2 ((-1)) _ _ _ _ hW (lv_sub hl [0, 1, 2] rfl) h
        · have h := xit c4 h
          refine lv_aload_n hx hb dX5_take_41 rfl (lv_at hl 0 rfl) ?_
          refine xg_r C hW fg_5_42 KX_57 rfl dX5_take_42 ?_
          refine lv_aload_n hx hb dX5_take_45 rfl (lv_at hl 1 rfl) ?_
          refine xg_l C hW fg_5_73 KX_19 rfl (v := 4806) rfl (x := σ2.2 4806 0) rfl dX5_take_46 ?_
          obtain ⟨r5_, e5, h⟩ := xbo h
          refine xc_V (As := [.long (σ2.2 4806 0)]) (rest := []) C hW (m_X6_find 1 (Or.inl rfl) N (σ2.2 4806 0) _ e5) mf_X6_find mv_X6_find ml_X5_77 ⟨rfl, rfl⟩ ⟨Nat.le_of_ble_eq_true rfl, Nat.le_of_ble_eq_true rfl⟩ (KX_sl (Or.inl rfl)) rfl hl.1 rfl rfl (Nat.le_of_ble_eq_true rfl) dX5_take_49 (fun H locs hW => W.eq (g2 := F0 m 52 ls [.int r5_]) rfl ?_)
          refine lv_goto (tgt := 56) hx hb dX5_take_52 (by decide) ?_
          exact w_X5_take_56 N (f_X5_take_2 N n) C ih x2 r5_ _ _ _ _ hW (lv_sub hl [0, 1, 2] rfl) h
      · have h := xit c3 h
        refine lv_iload_n hx hb dX5_take_19 rfl (lv_at hl 2 rfl) ?_
        refine lv_if_ne (tgt := 27) hx hb dX5_take_20 (by decide) (fun c6 => ?_) (fun c6 => ?_)
        · have h := xif c6 h
          refine lv_aload_n hx hb dX5_take_27 rfl (lv_at hl 0 rfl) ?_
          refine lv_iload_n hx hb dX5_take_28 rfl (lv_at hl 2 rfl) ?_
          obtain ⟨r7_, σ7, e7, h⟩ := xbd h
          refine xc_V (As := [.int x2]) (rest := []) C hW (m_X5_keepDraft x2 _ e7) mf_X5_keepDraft mv_X5_keepDraft ml_X5_69 ⟨rfl, rfl⟩ ⟨Nat.le_of_ble_eq_true rfl, Nat.le_of_ble_eq_true rfl⟩ KX_57 rfl hl.1 rfl rfl (Nat.le_of_ble_eq_true rfl) dX5_take_29 (fun H locs hW => W.eq (g2 := F0 m 32 ls [.int r7_]) rfl ?_)
          cases h
          exact xr_i C hW dX5_take_32
        · have h := xit c6 h
          refine lv_iconst (v := (-1)) hx hb dX5_take_23 rfl ?_
          refine lv_goto (tgt := 32) hx hb dX5_take_24 (by decide) ?_
          cases h
          exact xr_i C hW dX5_take_32
set_option maxRecDepth 4000 in
theorem m_X5_take (N : Nat) (σ : St) {r : Int32} {σ' : St} (h : f_X5_take N σ = some (r, σ')) : xM l KX g yX5_take cX5_take 4 (some .int) rm_X5_take [.ref (g.q 57), .ref (g.q 19)] σ (some (.int r)) σ' := by
  refine xmet pn_X5 rfl (Nat.le_of_ble_eq_true rfl) (lv := [(0, .ref (g.q 57)), (1, .ref (g.q 19))]) rfl (fun p e s m args below meth c ls C hW hl => ?_)
  have hx := C.1
  have hb := C.2.1
  unfold f_X5_take at h
  refine lv_iconst (v := 0) hx hb dX5_take_0 rfl ?_
  refine lv_istore_n (lv' := [(2, .int 0), (0, .ref (g.q 57)), (1, .ref (g.q 19))]) hx hb dX5_take_1 rfl hl (Nat.le_of_ble_eq_true rfl) rfl (fun ls hl => ?_)
  exact w_X5_take_2 N C N 0 _ _ _ _ hW (lv_sub hl [1, 2, 0] rfl) h
end
