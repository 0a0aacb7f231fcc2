theorem dX2_bestSignAt_0 : decode cX2_bestSignAt 0 = .ok (.aload_n 0, 1) := by decide +kernel
theorem dX2_bestSignAt_1 : decode cX2_bestSignAt 1 = .ok (.iload_n 1, 1) := by decide +kernel
theorem dX2_bestSignAt_2 : decode cX2_bestSignAt 2 = .ok (.invokevirtual 85, 3) := by decide +kernel
theorem dX2_bestSignAt_5 : decode cX2_bestSignAt 5 = .ok (.aload_n 0, 1) := by decide +kernel
theorem dX2_bestSignAt_6 : decode cX2_bestSignAt 6 = .ok (.getfield 22, 3) := by decide +kernel
theorem dX2_bestSignAt_9 : decode cX2_bestSignAt 9 = .ok (.iload_n 1, 1) := by decide +kernel
theorem dX2_bestSignAt_10 : decode cX2_bestSignAt 10 = .ok (.iaload, 1) := by decide +kernel
theorem dX2_bestSignAt_11 : decode cX2_bestSignAt 11 = .ok (.ldc 89, 2) := by decide +kernel
theorem dX2_bestSignAt_13 : decode cX2_bestSignAt 13 = .ok (.if_icmp .ne 7, 3) := by decide +kernel
theorem dX2_bestSignAt_16 : decode cX2_bestSignAt 16 = .ok (.iconst (-1), 1) := by decide +kernel
theorem dX2_bestSignAt_17 : decode cX2_bestSignAt 17 = .ok (.goto 22, 3) := by decide +kernel
theorem dX2_bestSignAt_20 : decode cX2_bestSignAt 20 = .ok (.aload_n 0, 1) := by decide +kernel
theorem dX2_bestSignAt_21 : decode cX2_bestSignAt 21 = .ok (.getfield 25, 3) := by decide +kernel
theorem dX2_bestSignAt_24 : decode cX2_bestSignAt 24 = .ok (.iload_n 1, 1) := by decide +kernel
theorem dX2_bestSignAt_25 : decode cX2_bestSignAt 25 = .ok (.laload, 1) := by decide +kernel
theorem dX2_bestSignAt_26 : decode cX2_bestSignAt 26 = .ok (.aload_n 0, 1) := by decide +kernel
theorem dX2_bestSignAt_27 : decode cX2_bestSignAt 27 = .ok (.getfield 22, 3) := by decide +kernel
theorem dX2_bestSignAt_30 : decode cX2_bestSignAt 30 = .ok (.iload_n 1, 1) := by decide +kernel
theorem dX2_bestSignAt_31 : decode cX2_bestSignAt 31 = .ok (.iaload, 1) := by decide +kernel
theorem dX2_bestSignAt_32 : decode cX2_bestSignAt 32 = .ok (.bipush 16, 2) := by decide +kernel
theorem dX2_bestSignAt_34 : decode cX2_bestSignAt 34 = .ok (.irem, 1) := by decide +kernel
theorem dX2_bestSignAt_35 : decode cX2_bestSignAt 35 = .ok (.iload_n 2, 1) := by decide +kernel
theorem dX2_bestSignAt_36 : decode cX2_bestSignAt 36 = .ok (.invokestatic 90, 3) := by decide +kernel
theorem dX2_bestSignAt_39 : decode cX2_bestSignAt 39 = .ok (.ireturn, 1) := by decide +kernel
abbrev rm_X2_bestSignAt : Room := { frames := 5, cells := 0, slots := 0, locals := 110 }
def f_X2_bestSignAt (N : Nat) (x1 : Int32) (x2 : Int32) (σ : St) : Option (Int32 × St) := bo (f_X2_findBest N x1 σ) (fun σ1 => grd (ib x1 40) ((if (σ1.1 49 x1.toNatClampNeg) = 2147483647 then some ((-1), σ1) else grd (ib x1 40) (grd (ib x1 40) (some (f_X11_signOf (σ1.2 50 x1.toNatClampNeg) ((σ1.1 49 x1.toNatClampNeg) - (σ1.1 49 x1.toNatClampNeg) / 16 * 16) x2 σ1, σ1))))))
section
variable {p : Program} {l : Launch} {e : Env} {s : State} {m : MethodId} {args : Array Value} {below : List Frame} {meth : Method} {c : Code} {g : XG}
set_option maxRecDepth 4000 in
theorem m_X2_bestSignAt (N : Nat) (x1 : Int32) (x2 : Int32) (σ : St) {r : Int32} {σ' : St} (h : f_X2_bestSignAt N x1 x2 σ = some (r, σ')) : xM l KX g yX2_bestSignAt cX2_bestSignAt 3 (some .int) rm_X2_bestSignAt [.ref (g.q 46), .int x1, .int x2] σ (some (.int r)) σ' := by
  refine xmet pn_X2 rfl (Nat.le_of_ble_eq_true rfl) (lv := [(0, .ref (g.q 46)), (1, .int x1), (2, .int x2)]) rfl (fun p e s m args below meth c ls C hW hl => ?_)
  have hx := C.1
  have hb := C.2.1
  unfold f_X2_bestSignAt at h
  refine lv_aload_n hx hb dX2_bestSignAt_0 rfl (lv_at hl 0 rfl) ?_
  refine lv_iload_n hx hb dX2_bestSignAt_1 rfl (lv_at hl 1 rfl) ?_
  obtain ⟨σ1, e1, h⟩ := xbo h
  refine xc_V (As := [.int x1]) (rest := []) C hW (m_X2_findBest N x1 _ e1) mf_X2_findBest mv_X2_findBest ml_X2_85 ⟨rfl, rfl⟩ ⟨Nat.le_of_ble_eq_true rfl, Nat.le_of_ble_eq_true rfl⟩ KX_46 rfl hl.1 rfl rfl (Nat.le_of_ble_eq_true rfl) dX2_bestSignAt_2 (fun H locs hW => W.eq (g2 := F0 m 5 ls []) rfl ?_)
  refine lv_aload_n hx hb dX2_bestSignAt_5 rfl (lv_at hl 0 rfl) ?_
  refine xg_r C hW fg_2_22 KX_46 rfl dX2_bestSignAt_6 ?_
  refine lv_iload_n hx hb dX2_bestSignAt_9 rfl (lv_at hl 1 rfl) ?_
  obtain ⟨g2, h⟩ := xgd h
  refine xa_i C hW KX_49 g2 (x := σ1.1 49 x1.toNatClampNeg) rfl dX2_bestSignAt_10 ?_
  refine lv_ldc (v := 2147483647) hx hb C.ow (C.hts _ kc_X2_89) dX2_bestSignAt_11 ?_
  refine lv_icmp_ne (tgt := 20) hx hb dX2_bestSignAt_13 (by decide) (fun c3 => ?_) (fun c3 => ?_)
  · have h := xif c3 h
    refine lv_aload_n hx hb dX2_bestSignAt_20 rfl (lv_at hl 0 rfl) ?_
    refine xg_r C hW fg_2_25 KX_46 rfl dX2_bestSignAt_21 ?_
    refine lv_iload_n hx hb dX2_bestSignAt_24 rfl (lv_at hl 1 rfl) ?_
    obtain ⟨g4, h⟩ := xgd h
    refine xa_l C hW KX_50 g4 (x := σ1.2 50 x1.toNatClampNeg) rfl dX2_bestSignAt_25 ?_
    refine lv_aload_n hx hb dX2_bestSignAt_26 rfl (lv_at hl 0 rfl) ?_
    refine xg_r C hW fg_2_22 KX_46 rfl dX2_bestSignAt_27 ?_
    refine lv_iload_n hx hb dX2_bestSignAt_30 rfl (lv_at hl 1 rfl) ?_
    obtain ⟨g5, h⟩ := xgd h
    refine xa_i C hW KX_49 g5 (x := σ1.1 49 x1.toNatClampNeg) rfl dX2_bestSignAt_31 ?_
    refine lv_bipush (v := 16) hx hb dX2_bestSignAt_32 rfl ?_
    refine lv_irem hx hb dX2_bestSignAt_34 (by decide) ?_
    refine lv_iload_n hx hb dX2_bestSignAt_35 rfl (lv_at hl 2 rfl) ?_
    refine xc_SN (As := [.long (σ1.2 50 x1.toNatClampNeg), .int ((σ1.1 49 x1.toNatClampNeg) - (σ1.1 49 x1.toNatClampNeg) / 16 * 16), .int x2]) (rest := []) C hW (m_X11_signOf (σ1.2 50 x1.toNatClampNeg) ((σ1.1 49 x1.toNatClampNeg) - (σ1.1 49 x1.toNatClampNeg) / 16 * 16) x2 _ rfl) mf_X11_signOf mt_X11_signOf xn_X2_90 ⟨rfl, rfl⟩ ⟨Nat.le_of_ble_eq_true rfl, Nat.le_of_ble_eq_true rfl⟩ hl.1 rfl rfl (Nat.le_of_ble_eq_true rfl) dX2_bestSignAt_36 (fun H locs hW => W.eq (g2 := F0 m 39 ls [.int (f_X11_signOf (σ1.2 50 x1.toNatClampNeg) ((σ1.1 49 x1.toNatClampNeg) - (σ1.1 49 x1.toNatClampNeg) / 16 * 16) x2 σ1)]) rfl ?_)
    cases h
    exact xr_i C hW dX2_bestSignAt_39
  · have h := xit c3 h
    refine lv_iconst (v := (-1)) hx hb dX2_bestSignAt_16 rfl ?_
    refine lv_goto (tgt := 39) hx hb dX2_bestSignAt_17 (by decide) ?_
    cases h
    exact xr_i C hW dX2_bestSignAt_39
end
theorem dX2_slotPaint_0 : decode cX2_slotPaint 0 = .ok (.aload_n 0, 1) := by decide +kernel
theorem dX2_slotPaint_1 : decode cX2_slotPaint 1 = .ok (.getfield 29, 3) := by decide +kernel
theorem dX2_slotPaint_4 : decode cX2_slotPaint 4 = .ok (.iload_n 1, 1) := by decide +kernel
theorem dX2_slotPaint_5 : decode cX2_slotPaint 5 = .ok (.bipush 13, 2) := by decide +kernel
theorem dX2_slotPaint_7 : decode cX2_slotPaint 7 = .ok (.imul, 1) := by decide +kernel
theorem dX2_slotPaint_8 : decode cX2_slotPaint 8 = .ok (.iload_n 2, 1) := by decide +kernel
theorem dX2_slotPaint_9 : decode cX2_slotPaint 9 = .ok (.iadd, 1) := by decide +kernel
theorem dX2_slotPaint_10 : decode cX2_slotPaint 10 = .ok (.iaload, 1) := by decide +kernel
theorem dX2_slotPaint_11 : decode cX2_slotPaint 11 = .ok (.istore_n 3, 1) := by decide +kernel
theorem dX2_slotPaint_12 : decode cX2_slotPaint 12 = .ok (.iload_n 3, 1) := by decide +kernel
theorem dX2_slotPaint_13 : decode cX2_slotPaint 13 = .ok (.ldc 89, 2) := by decide +kernel
theorem dX2_slotPaint_15 : decode cX2_slotPaint 15 = .ok (.if_icmp .ne 7, 3) := by decide +kernel
theorem dX2_slotPaint_18 : decode cX2_slotPaint 18 = .ok (.iconst (-1), 1) := by decide +kernel
theorem dX2_slotPaint_19 : decode cX2_slotPaint 19 = .ok (.goto 7, 3) := by decide +kernel
theorem dX2_slotPaint_22 : decode cX2_slotPaint 22 = .ok (.iload_n 3, 1) := by decide +kernel
theorem dX2_slotPaint_23 : decode cX2_slotPaint 23 = .ok (.bipush 16, 2) := by decide +kernel
theorem dX2_slotPaint_25 : decode cX2_slotPaint 25 = .ok (.idiv, 1) := by decide +kernel
theorem dX2_slotPaint_26 : decode cX2_slotPaint 26 = .ok (.ireturn, 1) := by decide +kernel
abbrev rm_X2_slotPaint : Room := { frames := 0, cells := 0, slots := 0, locals := 0 }
def f_X2_slotPaint (x1 : Int32) (x2 : Int32) (σ : St) : Option Int32 := grd (ib ((x1 * 13) + x2) 520) ((if (σ.1 51 ((x1 * 13) + x2).toNatClampNeg) = 2147483647 then some ((-1)) else some ((σ.1 51 ((x1 * 13) + x2).toNatClampNeg) / 16)))
section
variable {p : Program} {l : Launch} {e : Env} {s : State} {m : MethodId} {args : Array Value} {below : List Frame} {meth : Method} {c : Code} {g : XG}
set_option maxRecDepth 4000 in
theorem m_X2_slotPaint (x1 : Int32) (x2 : Int32) (σ : St) {r : Int32} (h : f_X2_slotPaint x1 x2 σ = some r) : xM l KX g yX2_slotPaint cX2_slotPaint 4 (some .int) rm_X2_slotPaint [.ref (g.q 46), .int x1, .int x2] σ (some (.int r)) σ := by
  refine xmet pn_X2 rfl (Nat.le_of_ble_eq_true rfl) (lv := [(0, .ref (g.q 46)), (1, .int x1), (2, .int x2)]) rfl (fun p e s m args below meth c ls C hW hl => ?_)
  have hx := C.1
  have hb := C.2.1
  unfold f_X2_slotPaint at h
  refine lv_aload_n hx hb dX2_slotPaint_0 rfl (lv_at hl 0 rfl) ?_
  refine xg_r C hW fg_2_29 KX_46 rfl dX2_slotPaint_1 ?_
  refine lv_iload_n hx hb dX2_slotPaint_4 rfl (lv_at hl 1 rfl) ?_
  refine lv_bipush (v := 13) hx hb dX2_slotPaint_5 rfl ?_
  refine lv_imul hx hb dX2_slotPaint_7 ?_
  refine lv_iload_n hx hb dX2_slotPaint_8 rfl (lv_at hl 2 rfl) ?_
  refine lv_iadd hx hb dX2_slotPaint_9 ?_
  obtain ⟨g1, h⟩ := xgd h
  refine xa_i C hW KX_51 g1 (x := σ.1 51 ((x1 * 13) + x2).toNatClampNeg) rfl dX2_slotPaint_10 ?_
  refine lv_istore_n (lv' := [(3, .int (σ.1 51 ((x1 * 13) + x2).toNatClampNeg)), (0, .ref (g.q 46)), (1, .int x1), (2, .int x2)]) hx hb dX2_slotPaint_11 rfl hl (Nat.le_of_ble_eq_true rfl) rfl (fun ls hl => ?_)
  refine lv_iload_n hx hb dX2_slotPaint_12 rfl (lv_at hl 0 rfl) ?_
  refine lv_ldc (v := 2147483647) hx hb C.ow (C.hts _ kc_X2_89) dX2_slotPaint_13 ?_
  refine lv_icmp_ne (tgt := 22) hx hb dX2_slotPaint_15 (by decide) (fun c2 => ?_) (fun c2 => ?_)
  · have h := xif c2 h
    refine lv_iload_n hx hb dX2_slotPaint_22 rfl (lv_at hl 0 rfl) ?_
    refine lv_bipush (v := 16) hx hb dX2_slotPaint_23 rfl ?_
    refine lv_idiv hx hb dX2_slotPaint_25 (by decide) ?_
    cases h
    exact xr_i C hW dX2_slotPaint_26
  · have h := xit c2 h
    refine lv_iconst (v := (-1)) hx hb dX2_slotPaint_18 rfl ?_
    refine lv_goto (tgt := 26) hx hb dX2_slotPaint_19 (by decide) ?_
    cases h
    exact xr_i C hW dX2_slotPaint_26
end
theorem dX2_slotLength_0 : decode cX2_slotLength 0 = .ok (.aload_n 0, 1) := by decide +kernel
theorem dX2_slotLength_1 : decode cX2_slotLength 1 = .ok (.getfield 29, 3) := by decide +kernel
theorem dX2_slotLength_4 : decode cX2_slotLength 4 = .ok (.iload_n 1, 1) := by decide +kernel
theorem dX2_slotLength_5 : decode cX2_slotLength 5 = .ok (.bipush 13, 2) := by decide +kernel
theorem dX2_slotLength_7 : decode cX2_slotLength 7 = .ok (.imul, 1) := by decide +kernel
theorem dX2_slotLength_8 : decode cX2_slotLength 8 = .ok (.iload_n 2, 1) := by decide +kernel
theorem dX2_slotLength_9 : decode cX2_slotLength 9 = .ok (.iadd, 1) := by decide +kernel
theorem dX2_slotLength_10 : decode cX2_slotLength 10 = .ok (.iaload, 1) := by decide +kernel
theorem dX2_slotLength_11 : decode cX2_slotLength 11 = .ok (.bipush 16, 2) := by decide +kernel
theorem dX2_slotLength_13 : decode cX2_slotLength 13 = .ok (.irem, 1) := by decide +kernel
theorem dX2_slotLength_14 : decode cX2_slotLength 14 = .ok (.ireturn, 1) := by decide +kernel
abbrev rm_X2_slotLength : Room := { frames := 0, cells := 0, slots := 0, locals := 0 }
def f_X2_slotLength (x1 : Int32) (x2 : Int32) (σ : St) : Option Int32 := grd (ib ((x1 * 13) + x2) 520) (some ((σ.1 51 ((x1 * 13) + x2).toNatClampNeg) - (σ.1 51 ((x1 * 13) + x2).toNatClampNeg) / 16 * 16))
section
variable {p : Program} {l : Launch} {e : Env} {s : State} {m : MethodId} {args : Array Value} {below : List Frame} {meth : Method} {c : Code} {g : XG}
set_option maxRecDepth 4000 in
theorem m_X2_slotLength (x1 : Int32) (x2 : Int32) (σ : St) {r : Int32} (h : f_X2_slotLength x1 x2 σ = some r) : xM l KX g yX2_slotLength cX2_slotLength 3 (some .int) rm_X2_slotLength [.ref (g.q 46), .int x1, .int x2] σ (some (.int r)) σ := by
  refine xmet pn_X2 rfl (Nat.le_of_ble_eq_true rfl) (lv := [(0, .ref (g.q 46)), (1, .int x1), (2, .int x2)]) rfl (fun p e s m args below meth c ls C hW hl => ?_)
  have hx := C.1
  have hb := C.2.1
  unfold f_X2_slotLength at h
  refine lv_aload_n hx hb dX2_slotLength_0 rfl (lv_at hl 0 rfl) ?_
  refine xg_r C hW fg_2_29 KX_46 rfl dX2_slotLength_1 ?_
  refine lv_iload_n hx hb dX2_slotLength_4 rfl (lv_at hl 1 rfl) ?_
  refine lv_bipush (v := 13) hx hb dX2_slotLength_5 rfl ?_
  refine lv_imul hx hb dX2_slotLength_7 ?_
  refine lv_iload_n hx hb dX2_slotLength_8 rfl (lv_at hl 2 rfl) ?_
  refine lv_iadd hx hb dX2_slotLength_9 ?_
  obtain ⟨g1, h⟩ := xgd h
  refine xa_i C hW KX_51 g1 (x := σ.1 51 ((x1 * 13) + x2).toNatClampNeg) rfl dX2_slotLength_10 ?_
  refine lv_bipush (v := 16) hx hb dX2_slotLength_11 rfl ?_
  refine lv_irem hx hb dX2_slotLength_13 (by decide) ?_
  cases h
  exact xr_i C hW dX2_slotLength_14
end
theorem dX2_slotRow_0 : decode cX2_slotRow 0 = .ok (.aload_n 0, 1) := by decide +kernel
theorem dX2_slotRow_1 : decode cX2_slotRow 1 = .ok (.getfield 32, 3) := by decide +kernel
theorem dX2_slotRow_4 : decode cX2_slotRow 4 = .ok (.iload_n 1, 1) := by decide +kernel
theorem dX2_slotRow_5 : decode cX2_slotRow 5 = .ok (.bipush 13, 2) := by decide +kernel
theorem dX2_slotRow_7 : decode cX2_slotRow 7 = .ok (.imul, 1) := by decide +kernel
theorem dX2_slotRow_8 : decode cX2_slotRow 8 = .ok (.iload_n 2, 1) := by decide +kernel
theorem dX2_slotRow_9 : decode cX2_slotRow 9 = .ok (.iadd, 1) := by decide +kernel
theorem dX2_slotRow_10 : decode cX2_slotRow 10 = .ok (.laload, 1) := by decide +kernel
theorem dX2_slotRow_11 : decode cX2_slotRow 11 = .ok (.lreturn, 1) := by decide +kernel
abbrev rm_X2_slotRow : Room := { frames := 0, cells := 0, slots := 0, locals := 0 }
def f_X2_slotRow (x1 : Int32) (x2 : Int32) (σ : St) : Option Int64 := grd (ib ((x1 * 13) + x2) 520) (some (σ.2 52 ((x1 * 13) + x2).toNatClampNeg))
section
variable {p : Program} {l : Launch} {e : Env} {s : State} {m : MethodId} {args : Array Value} {below : List Frame} {meth : Method} {c : Code} {g : XG}
set_option maxRecDepth 4000 in
theorem m_X2_slotRow (x1 : Int32) (x2 : Int32) (σ : St) {r : Int64} (h : f_X2_slotRow x1 x2 σ = some r) : xM l KX g yX2_slotRow cX2_slotRow 3 (some .long) rm_X2_slotRow [.ref (g.q 46), .int x1, .int x2] σ (some (.long r)) σ := by
  refine xmet pn_X2 rfl (Nat.le_of_ble_eq_true rfl) (lv := [(0, .ref (g.q 46)), (1, .int x1), (2, .int x2)]) rfl (fun p e s m args below meth c ls C hW hl => ?_)
  have hx := C.1
  have hb := C.2.1
  unfold f_X2_slotRow at h
  refine lv_aload_n hx hb dX2_slotRow_0 rfl (lv_at hl 0 rfl) ?_
  refine xg_r C hW fg_2_32 KX_46 rfl dX2_slotRow_1 ?_
  refine lv_iload_n hx hb dX2_slotRow_4 rfl (lv_at hl 1 rfl) ?_
  refine lv_bipush (v := 13) hx hb dX2_slotRow_5 rfl ?_
  refine lv_imul hx hb dX2_slotRow_7 ?_
  refine lv_iload_n hx hb dX2_slotRow_8 rfl (lv_at hl 2 rfl) ?_
  refine lv_iadd hx hb dX2_slotRow_9 ?_
  obtain ⟨g1, h⟩ := xgd h
  refine xa_l C hW KX_52 g1 (x := σ.2 52 ((x1 * 13) + x2).toNatClampNeg) rfl dX2_slotRow_10 ?_
  cases h
  exact xr_l C hW dX2_slotRow_11
end
theorem dX2_emptySlots_0 : decode cX2_emptySlots 0 = .ok (.aload_n 0, 1) := by decide +kernel
theorem dX2_emptySlots_1 : decode cX2_emptySlots 1 = .ok (.iload_n 1, 1) := by decide +kernel
theorem dX2_emptySlots_2 : decode cX2_emptySlots 2 = .ok (.bipush 13, 2) := by decide +kernel
theorem dX2_emptySlots_4 : decode cX2_emptySlots 4 = .ok (.imul, 1) := by decide +kernel
theorem dX2_emptySlots_5 : decode cX2_emptySlots 5 = .ok (.putfield 143, 3) := by decide +kernel
theorem dX2_emptySlots_8 : decode cX2_emptySlots 8 = .ok (.iconst 0, 1) := by decide +kernel
theorem dX2_emptySlots_9 : decode cX2_emptySlots 9 = .ok (.istore_n 2, 1) := by decide +kernel
theorem dX2_emptySlots_10 : decode cX2_emptySlots 10 = .ok (.iload_n 2, 1) := by decide +kernel
theorem dX2_emptySlots_11 : decode cX2_emptySlots 11 = .ok (.bipush 13, 2) := by decide +kernel
theorem dX2_emptySlots_13 : decode cX2_emptySlots 13 = .ok (.if_icmp .ge 22, 3) := by decide +kernel
theorem dX2_emptySlots_16 : decode cX2_emptySlots 16 = .ok (.aload_n 0, 1) := by decide +kernel
theorem dX2_emptySlots_17 : decode cX2_emptySlots 17 = .ok (.getfield 29, 3) := by decide +kernel
theorem dX2_emptySlots_20 : decode cX2_emptySlots 20 = .ok (.aload_n 0, 1) := by decide +kernel
theorem dX2_emptySlots_21 : decode cX2_emptySlots 21 = .ok (.getfield 143, 3) := by decide +kernel
theorem dX2_emptySlots_24 : decode cX2_emptySlots 24 = .ok (.iload_n 2, 1) := by decide +kernel
theorem dX2_emptySlots_25 : decode cX2_emptySlots 25 = .ok (.iadd, 1) := by decide +kernel
theorem dX2_emptySlots_26 : decode cX2_emptySlots 26 = .ok (.ldc 89, 2) := by decide +kernel
theorem dX2_emptySlots_28 : decode cX2_emptySlots 28 = .ok (.iastore, 1) := by decide +kernel
theorem dX2_emptySlots_29 : decode cX2_emptySlots 29 = .ok (.iinc 2 1, 3) := by decide +kernel
theorem dX2_emptySlots_32 : decode cX2_emptySlots 32 = .ok (.goto (-22), 3) := by decide +kernel
theorem dX2_emptySlots_35 : decode cX2_emptySlots 35 = .ok (.return_, 1) := by decide +kernel
abbrev rm_X2_emptySlots : Room := { frames := 0, cells := 0, slots := 0, locals := 0 }
def f_X2_emptySlots_10 (N : Nat) : Nat → Int32 → St → Option St
  | 0, _, _ => none
  | n + 1, x2, σ => (if 13 ≤ x2 then some σ else grd (ib ((σ.1 10213 0) + x2) 520) (f_X2_emptySlots_10 N n (x2 + 1) (si σ 51 ((σ.1 10213 0) + x2).toNatClampNeg 2147483647)))
def f_X2_emptySlots (N : Nat) (x1 : Int32) (σ : St) : Option St := f_X2_emptySlots_10 N N 0 (si σ 10213 0 (x1 * 13))
section
variable {p : Program} {l : Launch} {e : Env} {s : State} {m : MethodId} {args : Array Value} {below : List Frame} {meth : Method} {c : Code} {g : XG}
set_option maxRecDepth 4000 in
theorem w_X2_emptySlots_10 (N : Nat) {σ' : St} (C : xC KX g RX2 cX2_emptySlots 3 none p s m args meth c) : ∀ (n : Nat), ∀ (x2 : Int32) (σ : St) (H : Heap) (locs : List Loc) (ls : Array Slot), xW KX g s σ H locs → lv_has ls 3 [(0, .ref (g.q 46)), (2, .int x2)] → f_X2_emptySlots_10 N n x2 σ = some σ' → W p l e rm_X2_emptySlots s m args below meth c H locs 0 0 (MQ below (xPost KX g none σ') args s 0 0 (xA KX g.q)) (F0 m 10 ls []) := by
  have hx := C.1
  have hb := C.2.1
  intro n
  induction n with
  | zero => intro x2 σ H locs ls hW hl h; rw [f_X2_emptySlots_10] at h; cases h
  | succ n ih =>
    intro x2 σ H locs ls hW hl h
    rw [f_X2_emptySlots_10] at h
    refine lv_iload_n hx hb dX2_emptySlots_10 rfl (lv_at hl 1 rfl) ?_
    refine lv_bipush (v := 13) hx hb dX2_emptySlots_11 rfl ?_
    refine lv_icmp_ge (tgt := 35) hx hb dX2_emptySlots_13 (by decide) (fun c1 => ?_) (fun c1 => ?_)
    · have h := xit c1 h
      cases h
      exact xr_v C hW dX2_emptySlots_35
    · have h := xif c1 h
      refine lv_aload_n hx hb dX2_emptySlots_16 rfl (lv_at hl 0 rfl) ?_
      refine xg_r C hW fg_2_29 KX_46 rfl dX2_emptySlots_17 ?_
      refine lv_aload_n hx hb dX2_emptySlots_20 rfl (lv_at hl 0 rfl) ?_
      refine xg_i C hW fg_2_143 KX_46 rfl (v := 10213) rfl (x := σ.1 10213 0) rfl dX2_emptySlots_21 ?_
      refine lv_iload_n hx hb dX2_emptySlots_24 rfl (lv_at hl 1 rfl) ?_
      refine lv_iadd hx hb dX2_emptySlots_25 ?_
      refine lv_ldc (v := 2147483647) hx hb C.ow (C.hts _ kc_X2_89) dX2_emptySlots_26 ?_
      obtain ⟨g2, h⟩ := xgd h
      refine xs_i C hW KX_51 g2 dX2_emptySlots_28 (fun H locs hW => ?_)
      refine lv_iinc (v := x2 + 1) (lv' := [(2, .int (x2 + 1)), (0, .ref (g.q 46))]) hx hb dX2_emptySlots_29 hl (k := 1) rfl rfl (Nat.le_of_ble_eq_true rfl) rfl (fun ls hl => ?_)
      refine lv_goto (tgt := 10) hx hb dX2_emptySlots_32 (by decide) ?_
      exact ih (x2 + 1) _ _ _ _ hW (lv_sub hl [1, 0] rfl) h
set_option maxRecDepth 4000 in
theorem m_X2_emptySlots (N : Nat) (x1 : Int32) (σ : St) {σ' : St} (h : f_X2_emptySlots N x1 σ = some σ') : xM l KX g yX2_emptySlots cX2_emptySlots 3 none rm_X2_emptySlots [.ref (g.q 46), .int x1] σ none σ' := by
  refine xmet pn_X2 rfl (Nat.le_of_ble_eq_true rfl) (lv := [(0, .ref (g.q 46)), (1, .int x1)]) rfl (fun p e s m args below meth c ls C hW hl => ?_)
  have hx := C.1
  have hb := C.2.1
  unfold f_X2_emptySlots at h
  refine lv_aload_n hx hb dX2_emptySlots_0 rfl (lv_at hl 0 rfl) ?_
  refine lv_iload_n hx hb dX2_emptySlots_1 rfl (lv_at hl 1 rfl) ?_
  refine lv_bipush (v := 13) hx hb dX2_emptySlots_2 rfl ?_
  refine lv_imul hx hb dX2_emptySlots_4 ?_
  refine xp_i C hW fp_2_143 KX_46 rfl (v := 10213) rfl rfl rfl dX2_emptySlots_5 (fun H locs hW => ?_)
  refine lv_iconst (v := 0) hx hb dX2_emptySlots_8 rfl ?_
  refine lv_istore_n (lv' := [(2, .int 0), (0, .ref (g.q 46)), (1, .int x1)]) hx hb dX2_emptySlots_9 rfl hl (Nat.le_of_ble_eq_true rfl) rfl (fun ls hl => ?_)
  exact w_X2_emptySlots_10 N C N 0 _ _ _ _ hW (lv_sub hl [1, 0] rfl) h
end
theorem dX3_edgeIn_0 : decode cX3_edgeIn 0 = .ok (.getstatic 62, 3) := by decide +kernel
theorem dX3_edgeIn_3 : decode cX3_edgeIn 3 = .ok (.iload_n 1, 1) := by decide +kernel
theorem dX3_edgeIn_4 : decode cX3_edgeIn 4 = .ok (.iaload, 1) := by decide +kernel
theorem dX3_edgeIn_5 : decode cX3_edgeIn 5 = .ok (.iconst 1, 1) := by decide +kernel
theorem dX3_edgeIn_6 : decode cX3_edgeIn 6 = .ok (.if_icmp .ne 13, 3) := by decide +kernel
theorem dX3_edgeIn_9 : decode cX3_edgeIn 9 = .ok (.aload_n 0, 1) := by decide +kernel
theorem dX3_edgeIn_10 : decode cX3_edgeIn 10 = .ok (.getfield 29, 3) := by decide +kernel
theorem dX3_edgeIn_13 : decode cX3_edgeIn 13 = .ok (.getfield 65, 3) := by decide +kernel
theorem dX3_edgeIn_16 : decode cX3_edgeIn 16 = .ok (.goto 10, 3) := by decide +kernel
theorem dX3_edgeIn_19 : decode cX3_edgeIn 19 = .ok (.aload_n 0, 1) := by decide +kernel
theorem dX3_edgeIn_20 : decode cX3_edgeIn 20 = .ok (.getfield 29, 3) := by decide +kernel
theorem dX3_edgeIn_23 : decode cX3_edgeIn 23 = .ok (.getfield 68, 3) := by decide +kernel
theorem dX3_edgeIn_26 : decode cX3_edgeIn 26 = .ok (.astore 4, 2) := by decide +kernel
theorem dX3_edgeIn_28 : decode cX3_edgeIn 28 = .ok (.getstatic 62, 3) := by decide +kernel
theorem dX3_edgeIn_31 : decode cX3_edgeIn 31 = .ok (.iload_n 1, 1) := by decide +kernel
theorem dX3_edgeIn_32 : decode cX3_edgeIn 32 = .ok (.iaload, 1) := by decide +kernel
theorem dX3_edgeIn_33 : decode cX3_edgeIn 33 = .ok (.iconst 1, 1) := by decide +kernel
theorem dX3_edgeIn_34 : decode cX3_edgeIn 34 = .ok (.if_icmp .ne 13, 3) := by decide +kernel
theorem dX3_edgeIn_37 : decode cX3_edgeIn 37 = .ok (.aload_n 0, 1) := by decide +kernel
theorem dX3_edgeIn_38 : decode cX3_edgeIn 38 = .ok (.getfield 29, 3) := by decide +kernel
theorem dX3_edgeIn_41 : decode cX3_edgeIn 41 = .ok (.getfield 68, 3) := by decide +kernel
theorem dX3_edgeIn_44 : decode cX3_edgeIn 44 = .ok (.goto 10, 3) := by decide +kernel
theorem dX3_edgeIn_47 : decode cX3_edgeIn 47 = .ok (.aload_n 0, 1) := by decide +kernel
theorem dX3_edgeIn_48 : decode cX3_edgeIn 48 = .ok (.getfield 29, 3) := by decide +kernel
theorem dX3_edgeIn_51 : decode cX3_edgeIn 51 = .ok (.getfield 65, 3) := by decide +kernel
theorem dX3_edgeIn_54 : decode cX3_edgeIn 54 = .ok (.astore 5, 2) := by decide +kernel
theorem dX3_edgeIn_56 : decode cX3_edgeIn 56 = .ok (.aload_n 0, 1) := by decide +kernel
theorem dX3_edgeIn_57 : decode cX3_edgeIn 57 = .ok (.getfield 29, 3) := by decide +kernel
theorem dX3_edgeIn_60 : decode cX3_edgeIn 60 = .ok (.getfield 71, 3) := by decide +kernel
theorem dX3_edgeIn_63 : decode cX3_edgeIn 63 = .ok (.iconst 0, 1) := by decide +kernel
theorem dX3_edgeIn_64 : decode cX3_edgeIn 64 = .ok (.iaload, 1) := by decide +kernel
theorem dX3_edgeIn_65 : decode cX3_edgeIn 65 = .ok (.istore 6, 2) := by decide +kernel
theorem dX3_edgeIn_67 : decode cX3_edgeIn 67 = .ok (.iload 6, 2) := by decide +kernel
theorem dX3_edgeIn_69 : decode cX3_edgeIn 69 = .ok (.ineg, 1) := by decide +kernel
theorem dX3_edgeIn_70 : decode cX3_edgeIn 70 = .ok (.istore 7, 2) := by decide +kernel
theorem dX3_edgeIn_72 : decode cX3_edgeIn 72 = .ok (.iconst 0, 1) := by decide +kernel
theorem dX3_edgeIn_73 : decode cX3_edgeIn 73 = .ok (.istore 8, 2) := by decide +kernel
theorem dX3_edgeIn_75 : decode cX3_edgeIn 75 = .ok (.iload_n 3, 1) := by decide +kernel
theorem dX3_edgeIn_76 : decode cX3_edgeIn 76 = .ok (.istore 9, 2) := by decide +kernel
theorem dX3_edgeIn_78 : decode cX3_edgeIn 78 = .ok (.iconst 0, 1) := by decide +kernel
theorem dX3_edgeIn_79 : decode cX3_edgeIn 79 = .ok (.istore 10, 2) := by decide +kernel
theorem dX3_edgeIn_81 : decode cX3_edgeIn 81 = .ok (.iload 10, 2) := by decide +kernel
theorem dX3_edgeIn_83 : decode cX3_edgeIn 83 = .ok (.iconst 3, 1) := by decide +kernel
theorem dX3_edgeIn_84 : decode cX3_edgeIn 84 = .ok (.if_icmp .ge 122, 3) := by decide +kernel
theorem dX3_edgeIn_87 : decode cX3_edgeIn 87 = .ok (.getstatic 74, 3) := by decide +kernel
theorem dX3_edgeIn_90 : decode cX3_edgeIn 90 = .ok (.iload_n 1, 1) := by decide +kernel
theorem dX3_edgeIn_91 : decode cX3_edgeIn 91 = .ok (.iconst 3, 1) := by decide +kernel
theorem dX3_edgeIn_92 : decode cX3_edgeIn 92 = .ok (.imul, 1) := by decide +kernel
theorem dX3_edgeIn_93 : decode cX3_edgeIn 93 = .ok (.iload 10, 2) := by decide +kernel
theorem dX3_edgeIn_95 : decode cX3_edgeIn 95 = .ok (.iadd, 1) := by decide +kernel
theorem dX3_edgeIn_96 : decode cX3_edgeIn 96 = .ok (.iaload, 1) := by decide +kernel
theorem dX3_edgeIn_97 : decode cX3_edgeIn 97 = .ok (.istore 11, 2) := by decide +kernel
theorem dX3_edgeIn_99 : decode cX3_edgeIn 99 = .ok (.iload 11, 2) := by decide +kernel
theorem dX3_edgeIn_101 : decode cX3_edgeIn 101 = .ok (.ifCond .eq 105, 3) := by decide +kernel
theorem dX3_edgeIn_104 : decode cX3_edgeIn 104 = .ok (.iload 9, 2) := by decide +kernel
theorem dX3_edgeIn_106 : decode cX3_edgeIn 106 = .ok (.iload 11, 2) := by decide +kernel
theorem dX3_edgeIn_108 : decode cX3_edgeIn 108 = .ok (.iadd, 1) := by decide +kernel
theorem dX3_edgeIn_109 : decode cX3_edgeIn 109 = .ok (.aload_n 2, 1) := by decide +kernel
theorem dX3_edgeIn_110 : decode cX3_edgeIn 110 = .ok (.arraylength, 1) := by decide +kernel
theorem dX3_edgeIn_111 : decode cX3_edgeIn 111 = .ok (.if_icmp .le 6, 3) := by decide +kernel
theorem dX3_edgeIn_114 : decode cX3_edgeIn 114 = .ok (.goto 92, 3) := by decide +kernel
theorem dX3_edgeIn_117 : decode cX3_edgeIn 117 = .ok (.aload 4, 2) := by decide +kernel
theorem dX3_edgeIn_119 : decode cX3_edgeIn 119 = .ok (.aload_n 2, 1) := by decide +kernel
theorem dX3_edgeIn_120 : decode cX3_edgeIn 120 = .ok (.iload 9, 2) := by decide +kernel
theorem dX3_edgeIn_122 : decode cX3_edgeIn 122 = .ok (.iaload, 1) := by decide +kernel
theorem dX3_edgeIn_123 : decode cX3_edgeIn 123 = .ok (.iaload, 1) := by decide +kernel
theorem dX3_edgeIn_124 : decode cX3_edgeIn 124 = .ok (.istore 12, 2) := by decide +kernel
theorem dX3_edgeIn_126 : decode cX3_edgeIn 126 = .ok (.aload 5, 2) := by decide +kernel
theorem dX3_edgeIn_128 : decode cX3_edgeIn 128 = .ok (.aload_n 2, 1) := by decide +kernel
theorem dX3_edgeIn_129 : decode cX3_edgeIn 129 = .ok (.iload 9, 2) := by decide +kernel
theorem dX3_edgeIn_131 : decode cX3_edgeIn 131 = .ok (.iaload, 1) := by decide +kernel
theorem dX3_edgeIn_132 : decode cX3_edgeIn 132 = .ok (.iaload, 1) := by decide +kernel
theorem dX3_edgeIn_133 : decode cX3_edgeIn 133 = .ok (.istore 13, 2) := by decide +kernel
theorem dX3_edgeIn_135 : decode cX3_edgeIn 135 = .ok (.iload 11, 2) := by decide +kernel
theorem dX3_edgeIn_137 : decode cX3_edgeIn 137 = .ok (.iconst 2, 1) := by decide +kernel
theorem dX3_edgeIn_138 : decode cX3_edgeIn 138 = .ok (.if_icmp .ne 36, 3) := by decide +kernel
theorem dX3_edgeIn_141 : decode cX3_edgeIn 141 = .ok (.iload 12, 2) := by decide +kernel
theorem dX3_edgeIn_143 : decode cX3_edgeIn 143 = .ok (.aload 4, 2) := by decide +kernel
theorem dX3_edgeIn_145 : decode cX3_edgeIn 145 = .ok (.aload_n 2, 1) := by decide +kernel
theorem dX3_edgeIn_146 : decode cX3_edgeIn 146 = .ok (.iload 9, 2) := by decide +kernel
theorem dX3_edgeIn_148 : decode cX3_edgeIn 148 = .ok (.iconst 1, 1) := by decide +kernel
theorem dX3_edgeIn_149 : decode cX3_edgeIn 149 = .ok (.iadd, 1) := by decide +kernel
theorem dX3_edgeIn_150 : decode cX3_edgeIn 150 = .ok (.iaload, 1) := by decide +kernel
theorem dX3_edgeIn_151 : decode cX3_edgeIn 151 = .ok (.iaload, 1) := by decide +kernel
theorem dX3_edgeIn_152 : decode cX3_edgeIn 152 = .ok (.invokestatic 77, 3) := by decide +kernel
theorem dX3_edgeIn_155 : decode cX3_edgeIn 155 = .ok (.istore 12, 2) := by decide +kernel
theorem dX3_edgeIn_157 : decode cX3_edgeIn 157 = .ok (.iload 13, 2) := by decide +kernel
theorem dX3_edgeIn_159 : decode cX3_edgeIn 159 = .ok (.iload 6, 2) := by decide +kernel
theorem dX3_edgeIn_161 : decode cX3_edgeIn 161 = .ok (.aload 5, 2) := by decide +kernel
theorem dX3_edgeIn_163 : decode cX3_edgeIn 163 = .ok (.aload_n 2, 1) := by decide +kernel
theorem dX3_edgeIn_164 : decode cX3_edgeIn 164 = .ok (.iload 9, 2) := by decide +kernel
theorem dX3_edgeIn_166 : decode cX3_edgeIn 166 = .ok (.iconst 1, 1) := by decide +kernel
theorem dX3_edgeIn_167 : decode cX3_edgeIn 167 = .ok (.iadd, 1) := by decide +kernel
theorem dX3_edgeIn_168 : decode cX3_edgeIn 168 = .ok (.iaload, 1) := by decide +kernel
theorem dX3_edgeIn_169 : decode cX3_edgeIn 169 = .ok (.iaload, 1) := by decide +kernel
theorem dX3_edgeIn_170 : decode cX3_edgeIn 170 = .ok (.iadd, 1) := by decide +kernel
theorem dX3_edgeIn_171 : decode cX3_edgeIn 171 = .ok (.iadd, 1) := by decide +kernel
theorem dX3_edgeIn_172 : decode cX3_edgeIn 172 = .ok (.istore 13, 2) := by decide +kernel
theorem dX3_edgeIn_174 : decode cX3_edgeIn 174 = .ok (.iload 7, 2) := by decide +kernel
theorem dX3_edgeIn_176 : decode cX3_edgeIn 176 = .ok (.iload 6, 2) := by decide +kernel
theorem dX3_edgeIn_178 : decode cX3_edgeIn 178 = .ok (.iload 12, 2) := by decide +kernel
theorem dX3_edgeIn_180 : decode cX3_edgeIn 180 = .ok (.iadd, 1) := by decide +kernel
theorem dX3_edgeIn_181 : decode cX3_edgeIn 181 = .ok (.iadd, 1) := by decide +kernel
theorem dX3_edgeIn_182 : decode cX3_edgeIn 182 = .ok (.istore 7, 2) := by decide +kernel
theorem dX3_edgeIn_184 : decode cX3_edgeIn 184 = .ok (.iload 8, 2) := by decide +kernel
theorem dX3_edgeIn_186 : decode cX3_edgeIn 186 = .ok (.iload 13, 2) := by decide +kernel
theorem dX3_edgeIn_188 : decode cX3_edgeIn 188 = .ok (.invokestatic 77, 3) := by decide +kernel
theorem dX3_edgeIn_191 : decode cX3_edgeIn 191 = .ok (.istore 8, 2) := by decide +kernel
theorem dX3_edgeIn_193 : decode cX3_edgeIn 193 = .ok (.iload 9, 2) := by decide +kernel
theorem dX3_edgeIn_195 : decode cX3_edgeIn 195 = .ok (.iload 11, 2) := by decide +kernel
theorem dX3_edgeIn_197 : decode cX3_edgeIn 197 = .ok (.iadd, 1) := by decide +kernel
theorem dX3_edgeIn_198 : decode cX3_edgeIn 198 = .ok (.istore 9, 2) := by decide +kernel
theorem dX3_edgeIn_200 : decode cX3_edgeIn 200 = .ok (.iinc 10 1, 3) := by decide +kernel
theorem dX3_edgeIn_203 : decode cX3_edgeIn 203 = .ok (.goto (-122), 3) := by decide +kernel
theorem dX3_edgeIn_206 : decode cX3_edgeIn 206 = .ok (.iload 7, 2) := by decide +kernel
theorem dX3_edgeIn_208 : decode cX3_edgeIn 208 = .ok (.iload 8, 2) := by decide +kernel
theorem dX3_edgeIn_210 : decode cX3_edgeIn 210 = .ok (.invokestatic 77, 3) := by decide +kernel
theorem dX3_edgeIn_213 : decode cX3_edgeIn 213 = .ok (.ireturn, 1) := by decide +kernel
abbrev rm_X3_edgeIn : Room := { frames := 1, cells := 0, slots := 0, locals := 60 }
def f_X3_edgeIn_174 (r2 rn2 : Nat) (N : Nat) (k81 : Int32 → Nat → Nat → Nat → Nat → Int32 → Int32 → Int32 → Int32 → Int32 → St → Option Int32) (x1 : Int32) (x4 : Nat) (xn4 : Nat) (x5 : Nat) (xn5 : Nat) (x6 : Int32) (x7 : Int32) (x8 : Int32) (x9 : Int32) (x10 : Int32) (x11 : Int32) (x12 : Int32) (x13 : Int32) (σ : St) : Option Int32 := k81 x1 x4 xn4 x5 xn5 x6 (x7 + (x6 + x12)) (imax x8 x13) (x9 + x11) (x10 + 1) σ
def f_X3_edgeIn_206 (r2 rn2 : Nat) (N : Nat) (x7 : Int32) (x8 : Int32) (σ : St) : Option Int32 := some (imax x7 x8)
def f_X3_edgeIn_81 (r2 rn2 : Nat) (N : Nat) : Nat → Int32 → Nat → Nat → Nat → Nat → Int32 → Int32 → Int32 → Int32 → Int32 → St → Option Int32
  | 0, _, _, _, _, _, _, _, _, _, _, _ => none
  | n + 1, x1, x4, xn4, x5, xn5, x6, x7, x8, x9, x10, σ => (if 3 ≤ x10 then f_X3_edgeIn_206 r2 rn2 N x7 x8 σ else grd (ib ((x1 * 3) + x10) 33) ((if (st_5.getD ((x1 * 3) + x10).toNatClampNeg 0) = 0 then f_X3_edgeIn_206 r2 rn2 N x7 x8 σ else (if (x9 + (st_5.getD ((x1 * 3) + x10).toNatClampNeg 0)) ≤ (Int32.ofNat rn2) then grd (ib x9 rn2) (grd (ib (σ.1 r2 x9.toNatClampNeg) xn4) (grd (ib x9 rn2) (grd (ib (σ.1 r2 x9.toNatClampNeg) xn5) ((if (st_5.getD ((x1 * 3) + x10).toNatClampNeg 0) = 2 then grd (ib (x9 + 1) rn2) (grd (ib (σ.1 r2 (x9 + 1).toNatClampNeg) xn4) (grd (ib (x9 + 1) rn2) (grd (ib (σ.1 r2 (x9 + 1).toNatClampNeg) xn5) (f_X3_edgeIn_174 r2 rn2 N (f_X3_edgeIn_81 r2 rn2 N n) x1 x4 xn4 x5 xn5 x6 x7 x8 x9 x10 (st_5.getD ((x1 * 3) + x10).toNatClampNeg 0) (imax (σ.1 x4 (σ.1 r2 x9.toNatClampNeg).toNatClampNeg) (σ.1 x4 (σ.1 r2 (x9 + 1).toNatClampNeg).toNatClampNeg)) ((σ.1 x5 (σ.1 r2 x9.toNatClampNeg).toNatClampNeg) + (x6 + (σ.1 x5 (σ.1 r2 (x9 + 1).toNatClampNeg).toNatClampNeg))) σ)))) else f_X3_edgeIn_174 r2 rn2 N (f_X3_edgeIn_81 r2 rn2 N n) x1 x4 xn4 x5 xn5 x6 x7 x8 x9 x10 (st_5.getD ((x1 * 3) + x10).toNatClampNeg 0) (σ.1 x4 (σ.1 r2 x9.toNatClampNeg).toNatClampNeg) (σ.1 x5 (σ.1 r2 x9.toNatClampNeg).toNatClampNeg) σ))))) else f_X3_edgeIn_206 r2 rn2 N x7 x8 σ))))
def f_X3_edgeIn_54 (r2 rn2 : Nat) (N : Nat) (x1 : Int32) (x3 : Int32) (x4 : Nat) (xn4 : Nat) (t0 : Nat) (tn0 : Nat) (σ : St) : Option Int32 := grd (ib 0 4) (f_X3_edgeIn_81 r2 rn2 N N x1 x4 xn4 t0 tn0 (σ.1 10 0) (-(σ.1 10 0)) 0 x3 0 σ)
def f_X3_edgeIn_26 (r2 rn2 : Nat) (N : Nat) (x1 : Int32) (x3 : Int32) (t0 : Nat) (tn0 : Nat) (σ : St) : Option Int32 := grd (ib x1 11) ((if (st_4.getD x1.toNatClampNeg 0) = 1 then f_X3_edgeIn_54 r2 rn2 N x1 x3 t0 tn0 4 40 σ else f_X3_edgeIn_54 r2 rn2 N x1 x3 t0 tn0 5 40 σ))
def f_X3_edgeIn (r2 rn2 : Nat) (N : Nat) (x1 : Int32) (x3 : Int32) (σ : St) : Option Int32 := grd (ib x1 11) ((if (st_4.getD x1.toNatClampNeg 0) = 1 then f_X3_edgeIn_26 r2 rn2 N x1 x3 5 40 σ else f_X3_edgeIn_26 r2 rn2 N x1 x3 4 40 σ))
section
variable {p : Program} {l : Launch} {e : Env} {s : State} {m : MethodId} {args : Array Value} {below : List Frame} {meth : Method} {c : Code} {g : XG}
set_option maxRecDepth 4000 in
theorem w_X3_edgeIn_174 (r2 rn2 : Nat) (hr2 : KX[r2]? = some (.inr (0, rn2))) (N : Nat) (k81 : Int32 → Nat → Nat → Nat → Nat → Int32 → Int32 → Int32 → Int32 → Int32 → St → Option Int32) (σ : St) {r : Int32} (C : xC KX g RX3 cX3_edgeIn 14 (some .int) p s m args meth c) (hk81 : ∀ (x1 : Int32) (x4 : Nat) (xn4 : Nat) (x5 : Nat) (xn5 : Nat) (x6 : Int32) (x7 : Int32) (x8 : Int32) (x9 : Int32) (x10 : Int32) (hx4 : KX[x4]? = some (.inr (0, xn4))) (hx5 : KX[x5]? = some (.inr (0, xn5))) (H : Heap) (locs : List Loc) (ls : Array Slot), xW KX g s σ H locs → lv_has ls 14 [(1, .int x1), (2, .ref (g.q r2)), (4, .ref (g.q x4)), (5, .ref (g.q x5)), (6, .int x6), (7, .int x7), (8, .int x8), (9, .int x9), (10, .int x10)] → k81 x1 x4 xn4 x5 xn5 x6 x7 x8 x9 x10 σ = some r → W p l e rm_X3_edgeIn s m args below meth c H locs 0 0 (MQ below (xPost KX g (some (.int r)) σ) args s 0 0 (xA KX g.q)) (F0 m 81 ls [])) : ∀ (x1 : Int32) (x4 : Nat) (xn4 : Nat) (x5 : Nat) (xn5 : Nat) (x6 : Int32) (x7 : Int32) (x8 : Int32) (x9 : Int32) (x10 : Int32) (x11 : Int32) (x12 : Int32) (x13 : Int32) (hx4 : KX[x4]? = some (.inr (0, xn4))) (hx5 : KX[x5]? = some (.inr (0, xn5))) (H : Heap) (locs : List Loc) (ls : Array Slot), xW KX g s σ H locs → lv_has ls 14 [(1, .int x1), (2, .ref (g.q r2)), (4, .ref (g.q x4)), (5, .ref (g.q x5)), (6, .int x6), (7, .int x7), (8, .int x8), (9, .int x9), (10, .int x10), (11, .int x11), (12, .int x12), (13, .int x13)] → f_X3_edgeIn_174 r2 rn2 N k81 x1 x4 xn4 x5 xn5 x6 x7 x8 x9 x10 x11 x12 x13 σ = some r → W p l e rm_X3_edgeIn s m args below meth c H locs 0 0 (MQ below (xPost KX g (some (.int r)) σ) args s 0 0 (xA KX g.q)) (F0 m 174 ls []) := by
  have hx := C.1
  have hb := C.2.1
  intro x1 x4 xn4 x5 xn5 x6 x7 x8 x9 x10 x11 x12 x13 hx4 hx5 H locs ls hW hl h
  unfold f_X3_edgeIn_174 at h
  refine lv_iload hx hb dX3_edgeIn_174 (lv_at hl 5 rfl) ?_
  refine lv_iload hx hb dX3_edgeIn_176 (lv_at hl 4 rfl) ?_
  refine lv_iload hx hb dX3_edgeIn_178 (lv_at hl 10 rfl) ?_
  refine lv_iadd hx hb dX3_edgeIn_180 ?_
  refine lv_iadd hx hb dX3_edgeIn_181 ?_
  refine lv_istore (lv' := [(7, .int (x7 + (x6 + x12))), (1, .int x1), (2, .ref (g.q r2)), (4, .ref (g.q x4)), (5, .ref (g.q x5)), (6, .int x6), (8, .int x8), (9, .int x9), (10, .int x10), (11, .int x11), (12, .int x12), (13, .int x13)]) hx hb dX3_edgeIn_182 hl (Nat.le_of_ble_eq_true rfl) rfl (fun ls hl => ?_)
  refine lv_iload hx hb dX3_edgeIn_184 (lv_at hl 6 rfl) ?_
  refine lv_iload hx hb dX3_edgeIn_186 (lv_at hl 11 rfl) ?_
  refine xmm_max C hW ml_X3_77 (Nat.le_of_ble_eq_true rfl) (Nat.le_of_ble_eq_true rfl) hl.1 (Nat.le_of_ble_eq_true rfl) dX3_edgeIn_188 ?_
  refine lv_istore (lv' := [(8, .int (imax x8 x13)), (7, .int (x7 + (x6 + x12))), (1, .int x1), (2, .ref (g.q r2)), (4, .ref (g.q x4)), (5, .ref (g.q x5)), (6, .int x6), (9, .int x9), (10, .int x10), (11, .int x11), (12, .int x12), (13, .int x13)]) hx hb dX3_edgeIn_191 hl (Nat.le_of_ble_eq_true rfl) rfl (fun ls hl => ?_)
  refine lv_iload hx hb dX3_edgeIn_193 (lv_at hl 7 rfl) ?_
  refine lv_iload hx hb dX3_edgeIn_195 (lv_at hl 9 rfl) ?_
  refine lv_iadd hx hb dX3_edgeIn_197 ?_
  refine lv_istore (lv' := [(9, .int (x9 + x11)), (8, .int (imax x8 x13)), (7, .int (x7 + (x6 + x12))), (1, .int x1), (2, .ref (g.q r2)), (4, .ref (g.q x4)), (5, .ref (g.q x5)), (6, .int x6), (10, .int x10), (11, .int x11), (12, .int x12), (13, .int x13)]) hx hb dX3_edgeIn_198 hl (Nat.le_of_ble_eq_true rfl) rfl (fun ls hl => ?_)
  refine lv_iinc (v := x10 + 1) (lv' := [(10, .int (x10 + 1)), (9, .int (x9 + x11)), (8, .int (imax x8 x13)), (7, .int (x7 + (x6 + x12))), (1, .int x1), (2, .ref (g.q r2)), (4, .ref (g.q x4)), (5, .ref (g.q x5)), (6, .int x6), (11, .int x11), (12, .int x12), (13, .int x13)]) hx hb dX3_edgeIn_200 hl (k := 8) rfl rfl (Nat.le_of_ble_eq_true rfl) rfl (fun ls hl => ?_)
  refine lv_goto (tgt := 81) hx hb dX3_edgeIn_203 (by decide) ?_
  exact hk81 x1 x4 xn4 x5 xn5 x6 (x7 + (x6 + x12)) (imax x8 x13) (x9 + x11) (x10 + 1) hx4 hx5 _ _ _ hW (lv_sub hl [4, 5, 6, 7, 8, 3, 2, 1, 0] rfl) h
set_option maxRecDepth 4000 in
theorem w_X3_edgeIn_206 (r2 rn2 : Nat) (hr2 : KX[r2]? = some (.inr (0, rn2))) (N : Nat) (σ : St) {r : Int32} (C : xC KX g RX3 cX3_edgeIn 14 (some .int) p s m args meth c) : ∀ (x7 : Int32) (x8 : Int32) (H : Heap) (locs : List Loc) (ls : Array Slot), xW KX g s σ H locs → lv_has ls 14 [(7, .int x7), (8, .int x8)] → f_X3_edgeIn_206 r2 rn2 N x7 x8 σ = some r → W p l e rm_X3_edgeIn s m args below meth c H locs 0 0 (MQ below (xPost KX g (some (.int r)) σ) args s 0 0 (xA KX g.q)) (F0 m 206 ls []) := by
  have hx := C.1
  have hb := C.2.1
  intro x7 x8 H locs ls hW hl h
  unfold f_X3_edgeIn_206 at h
  refine lv_iload hx hb dX3_edgeIn_206 (lv_at hl 0 rfl) ?_
  refine lv_iload hx hb dX3_edgeIn_208 (lv_at hl 1 rfl) ?_
  refine xmm_max C hW ml_X3_77 (Nat.le_of_ble_eq_true rfl) (Nat.le_of_ble_eq_true rfl) hl.1 (Nat.le_of_ble_eq_true rfl) dX3_edgeIn_210 ?_
  cases h
  exact xr_i C hW dX3_edgeIn_213
set_option maxRecDepth 4000 in
theorem w_X3_edgeIn_81 (r2 rn2 : Nat) (hr2 : KX[r2]? = some (.inr (0, rn2))) (N : Nat) (σ : St) {r : Int32} (C : xC KX g RX3 cX3_edgeIn 14 (some .int) p s m args meth c) : ∀ (n : Nat), ∀ (x1 : Int32) (x4 : Nat) (xn4 : Nat) (x5 : Nat) (xn5 : Nat) (x6 : Int32) (x7 : Int32) (x8 : Int32) (x9 : Int32) (x10 : Int32) (hx4 : KX[x4]? = some (.inr (0, xn4))) (hx5 : KX[x5]? = some (.inr (0, xn5))) (H : Heap) (locs : List Loc) (ls : Array Slot), xW KX g s σ H locs → lv_has ls 14 [(1, .int x1), (2, .ref (g.q r2)), (4, .ref (g.q x4)), (5, .ref (g.q x5)), (6, .int x6), (7, .int x7), (8, .int x8), (9, .int x9), (10, .int x10)] → f_X3_edgeIn_81 r2 rn2 N n x1 x4 xn4 x5 xn5 x6 x7 x8 x9 x10 σ = some r → W p l e rm_X3_edgeIn s m args below meth c H locs 0 0 (MQ below (xPost KX g (some (.int r)) σ) args s 0 0 (xA KX g.q)) (F0 m 81 ls []) := by
  have hx := C.1
  have hb := C.2.1
  intro n
  induction n with
  | zero => intro x1 x4 xn4 x5 xn5 x6 x7 x8 x9 x10 hx4 hx5 H locs ls hW hl h; rw [f_X3_edgeIn_81] at h; cases h
  | succ n ih =>
    intro x1 x4 xn4 x5 xn5 x6 x7 x8 x9 x10 hx4 hx5 H locs ls hW hl h
    rw [f_X3_edgeIn_81] at h
    refine lv_iload hx hb dX3_edgeIn_81 (lv_at hl 8 rfl) ?_
    refine lv_iconst (v := 3) hx hb dX3_edgeIn_83 rfl ?_
    refine lv_icmp_ge (tgt := 206) hx hb dX3_edgeIn_84 (by decide) (fun c6 => ?_) (fun c6 => ?_)
    · have h := xit c6 h
      exact w_X3_edgeIn_206 r2 rn2 hr2 N σ C x7 x8 _ _ _ hW (lv_sub hl [5, 6] rfl) h
    · have h := xif c6 h
      refine xt_r (i := 5) C hW xst_5 fs_X3_74 dX3_edgeIn_87 ?_
      refine lv_iload_n hx hb dX3_edgeIn_90 rfl (lv_at hl 0 rfl) ?_
      refine lv_iconst (v := 3) hx hb dX3_edgeIn_91 rfl ?_
      refine lv_imul hx hb dX3_edgeIn_92 ?_
      refine lv_iload hx hb dX3_edgeIn_93 (lv_at hl 8 rfl) ?_
      refine lv_iadd hx hb dX3_edgeIn_95 ?_
      obtain ⟨g7, h⟩ := xgd h
      refine xt_i C hW xst_5 g7 dX3_edgeIn_96 ?_
      refine lv_istore (lv' := [(11, .int (st_5.getD ((x1 * 3) + x10).toNatClampNeg 0)), (1, .int x1), (2, .ref (g.q r2)), (4, .ref (g.q x4)), (5, .ref (g.q x5)), (6, .int x6), (7, .int x7), (8, .int x8), (9, .int x9), (10, .int x10)]) hx hb dX3_edgeIn_97 hl (Nat.le_of_ble_eq_true rfl) rfl (fun ls hl => ?_)
      refine lv_iload hx hb dX3_edgeIn_99 (lv_at hl 0 rfl) ?_
      refine lv_if_eq (tgt := 206) hx hb dX3_edgeIn_101 (by decide) (fun c8 => ?_) (fun c8 => ?_)
      · have h := xit c8 h
        exact w_X3_edgeIn_206 r2 rn2 hr2 N σ C x7 x8 _ _ _ hW (lv_sub hl [6, 7] rfl) h
      · have h := xif c8 h
        refine lv_iload hx hb dX3_edgeIn_104 (lv_at hl 8 rfl) ?_
        refine lv_iload hx hb dX3_edgeIn_106 (lv_at hl 0 rfl) ?_
        refine lv_iadd hx hb dX3_edgeIn_108 ?_
        refine lv_aload_n hx hb dX3_edgeIn_109 rfl (lv_at hl 2 rfl) ?_
        refine xa_n C hW hr2 (x := Int32.ofNat rn2) rfl dX3_edgeIn_110 ?_
        refine lv_icmp_le (tgt := 117) hx hb dX3_edgeIn_111 (by decide) (fun c9 => ?_) (fun c9 => ?_)
        · have h := xit c9 h
          refine lv_aload hx hb dX3_edgeIn_117 (lv_at hl 3 rfl) ?_
          refine lv_aload_n hx hb dX3_edgeIn_119 rfl (lv_at hl 2 rfl) ?_
          refine lv_iload hx hb dX3_edgeIn_120 (lv_at hl 8 rfl) ?_
          obtain ⟨g10, h⟩ := xgd h
          refine xa_i C hW hr2 g10 (x := σ.1 r2 x9.toNatClampNeg) rfl dX3_edgeIn_122 ?_
          obtain ⟨g11, h⟩ := xgd h
          refine xa_i C hW hx4 g11 (x := σ.1 x4 (σ.1 r2 x9.toNatClampNeg).toNatClampNeg) rfl dX3_edgeIn_123 ?_
          refine lv_istore (lv' := [(12, .int (σ.1 x4 (σ.1 r2 x9.toNatClampNeg).toNatClampNeg)), (11, .int (st_5.getD ((x1 * 3) + x10).toNatClampNeg 0)), (1, .int x1), (2, .ref (g.q r2)), (4, .ref (g.q x4)), (5, .ref (g.q x5)), (6, .int x6), (7, .int x7), (8, .int x8), (9, .int x9), (10, .int x10)]) hx hb dX3_edgeIn_124 hl (Nat.le_of_ble_eq_true rfl) rfl (fun ls hl => ?_)
          refine lv_aload hx hb dX3_edgeIn_126 (lv_at hl 5 rfl) ?_
          refine lv_aload_n hx hb dX3_edgeIn_128 rfl (lv_at hl 3 rfl) ?_
          refine lv_iload hx hb dX3_edgeIn_129 (lv_at hl 9 rfl) ?_
          obtain ⟨g12, h⟩ := xgd h
          refine xa_i C hW hr2 g12 (x := σ.1 r2 x9.toNatClampNeg) rfl dX3_edgeIn_131 ?_
          obtain ⟨g13, h⟩ := xgd h
          refine xa_i C hW hx5 g13 (x := σ.1 x5 (σ.1 r2 x9.toNatClampNeg).toNatClampNeg) rfl dX3_edgeIn_132 ?_
          refine lv_istore (lv' := [(13, .int (σ.1 x5 (σ.1 r2 x9.toNatClampNeg).toNatClampNeg)), (12, .int (σ.1 x4 (σ.1 r2 x9.toNatClampNeg).toNatClampNeg)), (11, .int (st_5.getD ((x1 * 3) + x10).toNatClampNeg 0)), (1, .int x1), (2, .ref (g.q r2)), (4, .ref (g.q x4)), (5, .ref (g.q x5)), (6, .int x6), (7, .int x7), (8, .int x8), (9, .int x9), (10, .int x10)]) hx hb dX3_edgeIn_133 hl (Nat.le_of_ble_eq_true rfl) rfl (fun ls hl => ?_)
          refine lv_iload hx hb dX3_edgeIn_135 (lv_at hl 2 rfl) ?_
          refine lv_iconst (v := 2) hx hb dX3_edgeIn_137 rfl ?_
          refine lv_icmp_ne (tgt := 174) hx hb dX3_edgeIn_138 (by decide) (fun c14 => ?_) (fun c14 => ?_)
          · have h := xif c14 h
            exact w_X3_edgeIn_174 r2 rn2 hr2 N (f_X3_edgeIn_81 r2 rn2 N n) σ C ih x1 x4 xn4 x5 xn5 x6 x7 x8 x9 x10 (st_5.getD ((x1 * 3) + x10).toNatClampNeg 0) (σ.1 x4 (σ.1 r2 x9.toNatClampNeg).toNatClampNeg) (σ.1 x5 (σ.1 r2 x9.toNatClampNeg).toNatClampNeg) hx4 hx5 _ _ _ hW (lv_sub hl [3, 4, 5, 6, 7, 8, 9, 10, 11, 2, 1, 0] rfl) h
          · have h := xit c14 h
            refine lv_iload hx hb dX3_edgeIn_141 (lv_at hl 1 rfl) ?_
            refine lv_aload hx hb dX3_edgeIn_143 (lv_at hl 5 rfl) ?_
            refine lv_aload_n hx hb dX3_edgeIn_145 rfl (lv_at hl 4 rfl) ?_
            refine lv_iload hx hb dX3_edgeIn_146 (lv_at hl 10 rfl) ?_
            refine lv_iconst (v := 1) hx hb dX3_edgeIn_148 rfl ?_
            refine lv_iadd hx hb dX3_edgeIn_149 ?_
            obtain ⟨g15, h⟩ := xgd h
            refine xa_i C hW hr2 g15 (x := σ.1 r2 (x9 + 1).toNatClampNeg) rfl dX3_edgeIn_150 ?_
            obtain ⟨g16, h⟩ := xgd h
            refine xa_i C hW hx4 g16 (x := σ.1 x4 (σ.1 r2 (x9 + 1).toNatClampNeg).toNatClampNeg) rfl dX3_edgeIn_151 ?_
            refine xmm_max C hW ml_X3_77 (Nat.le_of_ble_eq_true rfl) (Nat.le_of_ble_eq_true rfl) hl.1 (Nat.le_of_ble_eq_true rfl) dX3_edgeIn_152 ?_
            refine lv_istore (lv' := [(12, .int (imax (σ.1 x4 (σ.1 r2 x9.toNatClampNeg).toNatClampNeg) (σ.1 x4 (σ.1 r2 (x9 + 1).toNatClampNeg).toNatClampNeg))), (13, .int (σ.1 x5 (σ.1 r2 x9.toNatClampNeg).toNatClampNeg)), (11, .int (st_5.getD ((x1 * 3) + x10).toNatClampNeg 0)), (1, .int x1), (2, .ref (g.q r2)), (4, .ref (g.q x4)), (5, .ref (g.q x5)), (6, .int x6), (7, .int x7), (8, .int x8), (9, .int x9), (10, .int x10)]) hx hb dX3_edgeIn_155 hl (Nat.le_of_ble_eq_true rfl) rfl (fun ls hl => ?_)
            refine lv_iload hx hb dX3_edgeIn_157 (lv_at hl 1 rfl) ?_
            refine lv_iload hx hb dX3_edgeIn_159 (lv_at hl 7 rfl) ?_
            refine lv_aload hx hb dX3_edgeIn_161 (lv_at hl 6 rfl) ?_
            refine lv_aload_n hx hb dX3_edgeIn_163 rfl (lv_at hl 4 rfl) ?_
            refine lv_iload hx hb dX3_edgeIn_164 (lv_at hl 10 rfl) ?_
            refine lv_iconst (v := 1) hx hb dX3_edgeIn_166 rfl ?_
            refine lv_iadd hx hb dX3_edgeIn_167 ?_
            obtain ⟨g17, h⟩ := xgd h
            refine xa_i C hW hr2 g17 (x := σ.1 r2 (x9 + 1).toNatClampNeg) rfl dX3_edgeIn_168 ?_
            obtain ⟨g18, h⟩ := xgd h
            refine xa_i C hW hx5 g18 (x := σ.1 x5 (σ.1 r2 (x9 + 1).toNatClampNeg).toNatClampNeg) rfl dX3_edgeIn_169 ?_
            refine lv_iadd hx hb dX3_edgeIn_170 ?_
            refine lv_iadd hx hb dX3_edgeIn_171 ?_
            refine lv_istore (lv' := [(13, .int ((σ.1 x5 (σ.1 r2 x9.toNatClampNeg).toNatClampNeg) + (x6 + (σ.1 x5 (σ.1 r2 (x9 + 1).toNatClampNeg).toNatClampNeg)))), (12, .int (imax (σ.1 x4 (σ.1 r2 x9.toNatClampNeg).toNatClampNeg) (σ.1 x4 (σ.1 r2 (x9 + 1).toNatClampNeg).toNatClampNeg))), (11, .int (st_5.getD ((x1 * 3) + x10).toNatClampNeg 0)), (1, .int x1), (2, .ref (g.q r2)), (4, .ref (g.q x4)), (5, .ref (g.q x5)), (6, .int x6), (7, .int x7), (8, .int x8), (9, .int x9), (10, .int x10)]) hx hb dX3_edgeIn_172 hl (Nat.le_of_ble_eq_true rfl) rfl (fun ls hl => ?_)
            exact w_X3_edgeIn_174 r2 rn2 hr2 N (f_X3_edgeIn_81 r2 rn2 N n) σ C ih x1 x4 xn4 x5 xn5 x6 x7 x8 x9 x10 (st_5.getD ((x1 * 3) + x10).toNatClampNeg 0) (imax (σ.1 x4 (σ.1 r2 x9.toNatClampNeg).toNatClampNeg) (σ.1 x4 (σ.1 r2 (x9 + 1).toNatClampNeg).toNatClampNeg)) ((σ.1 x5 (σ.1 r2 x9.toNatClampNeg).toNatClampNeg) + (x6 + (σ.1 x5 (σ.1 r2 (x9 + 1).toNatClampNeg).toNatClampNeg))) hx4 hx5 _ _ _ hW (lv_sub hl [3, 4, 5, 6, 7, 8, 9, 10, 11, 2, 1, 0] rfl) h
        · have h := xif c9 h
          refine lv_goto (tgt := 206) hx hb dX3_edgeIn_114 (by decide) ?_
          exact w_X3_edgeIn_206 r2 rn2 hr2 N σ C x7 x8 _ _ _ hW (lv_sub hl [6, 7] rfl) h
set_option maxRecDepth 4000 in
theorem w_X3_edgeIn_54 (r2 rn2 : Nat) (hr2 : KX[r2]? = some (.inr (0, rn2))) (N : Nat) (σ : St) {r : Int32} (C : xC KX g RX3 cX3_edgeIn 14 (some .int) p s m args meth c) : ∀ (x1 : Int32) (x3 : Int32) (x4 : Nat) (xn4 : Nat) (t0 : Nat) (tn0 : Nat) (hx4 : KX[x4]? = some (.inr (0, xn4))) (ht0 : KX[t0]? = some (.inr (0, tn0))) (H : Heap) (locs : List Loc) (ls : Array Slot), xW KX g s σ H locs → lv_has ls 14 [(0, .ref (g.q 40)), (1, .int x1), (2, .ref (g.q r2)), (3, .int x3), (4, .ref (g.q x4))] → f_X3_edgeIn_54 r2 rn2 N x1 x3 x4 xn4 t0 tn0 σ = some r → W p l e rm_X3_edgeIn s m args below meth c H locs 0 0 (MQ below (xPost KX g (some (.int r)) σ) args s 0 0 (xA KX g.q)) (F0 m 54 ls [.ref (g.q t0)]) := by
  have hx := C.1
  have hb := C.2.1
  intro x1 x3 x4 xn4 t0 tn0 hx4 ht0 H locs ls hW hl h
  unfold f_X3_edgeIn_54 at h
  refine lv_astore (lv' := [(5, .ref (g.q t0)), (0, .ref (g.q 40)), (1, .int x1), (2, .ref (g.q r2)), (3, .int x3), (4, .ref (g.q x4))]) hx hb dX3_edgeIn_54 hl (Nat.le_of_ble_eq_true rfl) rfl (fun ls hl => ?_)
  refine lv_aload_n hx hb dX3_edgeIn_56 rfl (lv_at hl 1 rfl) ?_
  refine xg_r C hW fg_3_29 KX_40 rfl dX3_edgeIn_57 ?_
  refine xg_r C hW fg_3_71 KX_1 rfl dX3_edgeIn_60 ?_
  refine lv_iconst (v := 0) hx hb dX3_edgeIn_63 rfl ?_
  obtain ⟨g5, h⟩ := xgd h
  refine xa_i C hW KX_10 g5 (x := σ.1 10 0) rfl dX3_edgeIn_64 ?_
  refine lv_istore (lv' := [(6, .int (σ.1 10 0)), (5, .ref (g.q t0)), (0, .ref (g.q 40)), (1, .int x1), (2, .ref (g.q r2)), (3, .int x3), (4, .ref (g.q x4))]) hx hb dX3_edgeIn_65 hl (Nat.le_of_ble_eq_true rfl) rfl (fun ls hl => ?_)
  refine lv_iload hx hb dX3_edgeIn_67 (lv_at hl 0 rfl) ?_
  refine lv_ineg hx hb dX3_edgeIn_69 ?_
  refine lv_istore (lv' := [(7, .int (-(σ.1 10 0))), (6, .int (σ.1 10 0)), (5, .ref (g.q t0)), (0, .ref (g.q 40)), (1, .int x1), (2, .ref (g.q r2)), (3, .int x3), (4, .ref (g.q x4))]) hx hb dX3_edgeIn_70 hl (Nat.le_of_ble_eq_true rfl) rfl (fun ls hl => ?_)
  refine lv_iconst (v := 0) hx hb dX3_edgeIn_72 rfl ?_
  refine lv_istore (lv' := [(8, .int 0), (7, .int (-(σ.1 10 0))), (6, .int (σ.1 10 0)), (5, .ref (g.q t0)), (0, .ref (g.q 40)), (1, .int x1), (2, .ref (g.q r2)), (3, .int x3), (4, .ref (g.q x4))]) hx hb dX3_edgeIn_73 hl (Nat.le_of_ble_eq_true rfl) rfl (fun ls hl => ?_)
  refine lv_iload_n hx hb dX3_edgeIn_75 rfl (lv_at hl 7 rfl) ?_
  refine lv_istore (lv' := [(9, .int x3), (8, .int 0), (7, .int (-(σ.1 10 0))), (6, .int (σ.1 10 0)), (5, .ref (g.q t0)), (0, .ref (g.q 40)), (1, .int x1), (2, .ref (g.q r2)), (3, .int x3), (4, .ref (g.q x4))]) hx hb dX3_edgeIn_76 hl (Nat.le_of_ble_eq_true rfl) rfl (fun ls hl => ?_)
  refine lv_iconst (v := 0) hx hb dX3_edgeIn_78 rfl ?_
  refine lv_istore (lv' := [(10, .int 0), (9, .int x3), (8, .int 0), (7, .int (-(σ.1 10 0))), (6, .int (σ.1 10 0)), (5, .ref (g.q t0)), (0, .ref (g.q 40)), (1, .int x1), (2, .ref (g.q r2)), (3, .int x3), (4, .ref (g.q x4))]) hx hb dX3_edgeIn_79 hl (Nat.le_of_ble_eq_true rfl) rfl (fun ls hl => ?_)
  exact w_X3_edgeIn_81 r2 rn2 hr2 N σ C N x1 x4 xn4 t0 tn0 (σ.1 10 0) (-(σ.1 10 0)) 0 x3 0 hx4 ht0 _ _ _ hW (lv_sub hl [7, 8, 10, 5, 4, 3, 2, 1, 0] rfl) h
set_option maxRecDepth 4000 in
theorem w_X3_edgeIn_26 (r2 rn2 : Nat) (hr2 : KX[r2]? = some (.inr (0, rn2))) (N : Nat) (σ : St) {r : Int32} (C : xC KX g RX3 cX3_edgeIn 14 (some .int) p s m args meth c) : ∀ (x1 : Int32) (x3 : Int32) (t0 : Nat) (tn0 : Nat) (ht0 : KX[t0]? = some (.inr (0, tn0))) (H : Heap) (locs : List Loc) (ls : Array Slot), xW KX g s σ H locs → lv_has ls 14 [(0, .ref (g.q 40)), (1, .int x1), (2, .ref (g.q r2)), (3, .int x3)] → f_X3_edgeIn_26 r2 rn2 N x1 x3 t0 tn0 σ = some r → W p l e rm_X3_edgeIn s m args below meth c H locs 0 0 (MQ below (xPost KX g (some (.int r)) σ) args s 0 0 (xA KX g.q)) (F0 m 26 ls [.ref (g.q t0)]) := by
  have hx := C.1
  have hb := C.2.1
  intro x1 x3 t0 tn0 ht0 H locs ls hW hl h
  unfold f_X3_edgeIn_26 at h
  refine lv_astore (lv' := [(4, .ref (g.q t0)), (0, .ref (g.q 40)), (1, .int x1), (2, .ref (g.q r2)), (3, .int x3)]) hx hb dX3_edgeIn_26 hl (Nat.le_of_ble_eq_true rfl) rfl (fun ls hl => ?_)
  refine xt_r (i := 4) C hW xst_4 fs_X3_62 dX3_edgeIn_28 ?_
  refine lv_iload_n hx hb dX3_edgeIn_31 rfl (lv_at hl 2 rfl) ?_
  obtain ⟨g3, h⟩ := xgd h
  refine xt_i C hW xst_4 g3 dX3_edgeIn_32 ?_
  refine lv_iconst (v := 1) hx hb dX3_edgeIn_33 rfl ?_
  refine lv_icmp_ne (tgt := 47) hx hb dX3_edgeIn_34 (by decide) (fun c4 => ?_) (fun c4 => ?_)
  · have h := xif c4 h
    refine lv_aload_n hx hb dX3_edgeIn_47 rfl (lv_at hl 1 rfl) ?_
    refine xg_r C hW fg_3_29 KX_40 rfl dX3_edgeIn_48 ?_
    refine xg_r C hW fg_3_65 KX_1 rfl dX3_edgeIn_51 ?_
    exact w_X3_edgeIn_54 r2 rn2 hr2 N σ C x1 x3 t0 tn0 5 40 ht0 KX_5 _ _ _ hW (lv_sub hl [1, 2, 3, 4, 0] rfl) h
  · have h := xit c4 h
    refine lv_aload_n hx hb dX3_edgeIn_37 rfl (lv_at hl 1 rfl) ?_
    refine xg_r C hW fg_3_29 KX_40 rfl dX3_edgeIn_38 ?_
    refine xg_r C hW fg_3_68 KX_1 rfl dX3_edgeIn_41 ?_
    refine lv_goto (tgt := 54) hx hb dX3_edgeIn_44 (by decide) ?_
    exact w_X3_edgeIn_54 r2 rn2 hr2 N σ C x1 x3 t0 tn0 4 40 ht0 KX_4 _ _ _ hW (lv_sub hl [1, 2, 3, 4, 0] rfl) h
set_option maxRecDepth 4000 in
theorem m_X3_edgeIn (r2 rn2 : Nat) (hr2 : KX[r2]? = some (.inr (0, rn2))) (N : Nat) (x1 : Int32) (x3 : Int32) (σ : St) {r : Int32} (h : f_X3_edgeIn r2 rn2 N x1 x3 σ = some r) : xM l KX g yX3_edgeIn cX3_edgeIn 14 (some .int) rm_X3_edgeIn [.ref (g.q 40), .int x1, .ref (g.q r2), .int x3] σ (some (.int r)) σ := by
  refine xmet pn_X3 rfl (Nat.le_of_ble_eq_true rfl) (lv := [(0, .ref (g.q 40)), (1, .int x1), (2, .ref (g.q r2)), (3, .int x3)]) rfl (fun p e s m args below meth c ls C hW hl => ?_)
  have hx := C.1
  have hb := C.2.1
  unfold f_X3_edgeIn at h
  refine xt_r (i := 4) C hW xst_4 fs_X3_62 dX3_edgeIn_0 ?_
  refine lv_iload_n hx hb dX3_edgeIn_3 rfl (lv_at hl 1 rfl) ?_
  obtain ⟨g1, h⟩ := xgd h
  refine xt_i C hW xst_4 g1 dX3_edgeIn_4 ?_
  refine lv_iconst (v := 1) hx hb dX3_edgeIn_5 rfl ?_
  refine lv_icmp_ne (tgt := 19) hx hb dX3_edgeIn_6 (by decide) (fun c2 => ?_) (fun c2 => ?_)
  · have h := xif c2 h
    refine lv_aload_n hx hb dX3_edgeIn_19 rfl (lv_at hl 0 rfl) ?_
    refine xg_r C hW fg_3_29 KX_40 rfl dX3_edgeIn_20 ?_
    refine xg_r C hW fg_3_68 KX_1 rfl dX3_edgeIn_23 ?_
    exact w_X3_edgeIn_26 r2 rn2 hr2 N σ C x1 x3 4 40 KX_4 _ _ _ hW (lv_sub hl [0, 1, 2, 3] rfl) h
  · have h := xit c2 h
    refine lv_aload_n hx hb dX3_edgeIn_9 rfl (lv_at hl 0 rfl) ?_
    refine xg_r C hW fg_3_29 KX_40 rfl dX3_edgeIn_10 ?_
    refine xg_r C hW fg_3_65 KX_1 rfl dX3_edgeIn_13 ?_
    refine lv_goto (tgt := 26) hx hb dX3_edgeIn_16 (by decide) ?_
    exact w_X3_edgeIn_26 r2 rn2 hr2 N σ C x1 x3 5 40 KX_5 _ _ _ hW (lv_sub hl [0, 1, 2, 3] rfl) h
end
theorem dX2_putTrial_0 : decode cX2_putTrial 0 = .ok (.aload_n 0, 1) := by decide +kernel
theorem dX2_putTrial_1 : decode cX2_putTrial 1 = .ok (.getfield 41, 3) := by decide +kernel
theorem dX2_putTrial_4 : decode cX2_putTrial 4 = .ok (.iload_n 1, 1) := by decide +kernel
theorem dX2_putTrial_5 : decode cX2_putTrial 5 = .ok (.iload_n 2, 1) := by decide +kernel
theorem dX2_putTrial_6 : decode cX2_putTrial 6 = .ok (.iastore, 1) := by decide +kernel
theorem dX2_putTrial_7 : decode cX2_putTrial 7 = .ok (.aload_n 0, 1) := by decide +kernel
theorem dX2_putTrial_8 : decode cX2_putTrial 8 = .ok (.getfield 35, 3) := by decide +kernel
theorem dX2_putTrial_11 : decode cX2_putTrial 11 = .ok (.iload_n 1, 1) := by decide +kernel
theorem dX2_putTrial_12 : decode cX2_putTrial 12 = .ok (.iconst 1, 1) := by decide +kernel
theorem dX2_putTrial_13 : decode cX2_putTrial 13 = .ok (.iadd, 1) := by decide +kernel
theorem dX2_putTrial_14 : decode cX2_putTrial 14 = .ok (.aload_n 0, 1) := by decide +kernel
theorem dX2_putTrial_15 : decode cX2_putTrial 15 = .ok (.getfield 35, 3) := by decide +kernel
theorem dX2_putTrial_18 : decode cX2_putTrial 18 = .ok (.iload_n 1, 1) := by decide +kernel
theorem dX2_putTrial_19 : decode cX2_putTrial 19 = .ok (.iaload, 1) := by decide +kernel
theorem dX2_putTrial_20 : decode cX2_putTrial 20 = .ok (.aload_n 0, 1) := by decide +kernel
theorem dX2_putTrial_21 : decode cX2_putTrial 21 = .ok (.iload_n 2, 1) := by decide +kernel
theorem dX2_putTrial_22 : decode cX2_putTrial 22 = .ok (.invokevirtual 106, 3) := by decide +kernel
theorem dX2_putTrial_25 : decode cX2_putTrial 25 = .ok (.iadd, 1) := by decide +kernel
theorem dX2_putTrial_26 : decode cX2_putTrial 26 = .ok (.iastore, 1) := by decide +kernel
theorem dX2_putTrial_27 : decode cX2_putTrial 27 = .ok (.aload_n 0, 1) := by decide +kernel
theorem dX2_putTrial_28 : decode cX2_putTrial 28 = .ok (.getfield 38, 3) := by decide +kernel
theorem dX2_putTrial_31 : decode cX2_putTrial 31 = .ok (.iload_n 1, 1) := by decide +kernel
theorem dX2_putTrial_32 : decode cX2_putTrial 32 = .ok (.iconst 1, 1) := by decide +kernel
theorem dX2_putTrial_33 : decode cX2_putTrial 33 = .ok (.iadd, 1) := by decide +kernel
theorem dX2_putTrial_34 : decode cX2_putTrial 34 = .ok (.aload_n 0, 1) := by decide +kernel
theorem dX2_putTrial_35 : decode cX2_putTrial 35 = .ok (.getfield 38, 3) := by decide +kernel
theorem dX2_putTrial_38 : decode cX2_putTrial 38 = .ok (.iload_n 1, 1) := by decide +kernel
theorem dX2_putTrial_39 : decode cX2_putTrial 39 = .ok (.laload, 1) := by decide +kernel
theorem dX2_putTrial_40 : decode cX2_putTrial 40 = .ok (.iload_n 2, 1) := by decide +kernel
theorem dX2_putTrial_41 : decode cX2_putTrial 41 = .ok (.invokestatic 130, 3) := by decide +kernel
theorem dX2_putTrial_44 : decode cX2_putTrial 44 = .ok (.lastore, 1) := by decide +kernel
theorem dX2_putTrial_45 : decode cX2_putTrial 45 = .ok (.sipush 1000, 3) := by decide +kernel
theorem dX2_putTrial_48 : decode cX2_putTrial 48 = .ok (.istore_n 3, 1) := by decide +kernel
theorem dX2_putTrial_49 : decode cX2_putTrial 49 = .ok (.iconst 0, 1) := by decide +kernel
theorem dX2_putTrial_50 : decode cX2_putTrial 50 = .ok (.istore 4, 2) := by decide +kernel
theorem dX2_putTrial_52 : decode cX2_putTrial 52 = .ok (.iload 4, 2) := by decide +kernel
theorem dX2_putTrial_54 : decode cX2_putTrial 54 = .ok (.bipush 11, 2) := by decide +kernel
theorem dX2_putTrial_56 : decode cX2_putTrial 56 = .ok (.if_icmp .ge 74, 3) := by decide +kernel
theorem dX2_putTrial_59 : decode cX2_putTrial 59 = .ok (.iload_n 1, 1) := by decide +kernel
theorem dX2_putTrial_60 : decode cX2_putTrial 60 = .ok (.iconst 1, 1) := by decide +kernel
theorem dX2_putTrial_61 : decode cX2_putTrial 61 = .ok (.iadd, 1) := by decide +kernel
theorem dX2_putTrial_62 : decode cX2_putTrial 62 = .ok (.getstatic 180, 3) := by decide +kernel
theorem dX2_putTrial_65 : decode cX2_putTrial 65 = .ok (.iload 4, 2) := by decide +kernel
theorem dX2_putTrial_67 : decode cX2_putTrial 67 = .ok (.iaload, 1) := by decide +kernel
theorem dX2_putTrial_68 : decode cX2_putTrial 68 = .ok (.isub, 1) := by decide +kernel
theorem dX2_putTrial_69 : decode cX2_putTrial 69 = .ok (.istore 5, 2) := by decide +kernel
theorem dX2_putTrial_71 : decode cX2_putTrial 71 = .ok (.iload 5, 2) := by decide +kernel
theorem dX2_putTrial_73 : decode cX2_putTrial 73 = .ok (.ifCond .lt 51, 3) := by decide +kernel
theorem dX2_putTrial_76 : decode cX2_putTrial 76 = .ok (.aload_n 0, 1) := by decide +kernel
theorem dX2_putTrial_77 : decode cX2_putTrial 77 = .ok (.getfield 44, 3) := by decide +kernel
theorem dX2_putTrial_80 : decode cX2_putTrial 80 = .ok (.iload 5, 2) := by decide +kernel
theorem dX2_putTrial_82 : decode cX2_putTrial 82 = .ok (.iaload, 1) := by decide +kernel
theorem dX2_putTrial_83 : decode cX2_putTrial 83 = .ok (.iconst 1, 1) := by decide +kernel
theorem dX2_putTrial_84 : decode cX2_putTrial 84 = .ok (.iadd, 1) := by decide +kernel
theorem dX2_putTrial_85 : decode cX2_putTrial 85 = .ok (.iload_n 3, 1) := by decide +kernel
theorem dX2_putTrial_86 : decode cX2_putTrial 86 = .ok (.if_icmp .ge 38, 3) := by decide +kernel
theorem dX2_putTrial_89 : decode cX2_putTrial 89 = .ok (.aload_n 0, 1) := by decide +kernel
theorem dX2_putTrial_90 : decode cX2_putTrial 90 = .ok (.getfield 47, 3) := by decide +kernel
theorem dX2_putTrial_93 : decode cX2_putTrial 93 = .ok (.aload_n 0, 1) := by decide +kernel
theorem dX2_putTrial_94 : decode cX2_putTrial 94 = .ok (.getfield 55, 3) := by decide +kernel
theorem dX2_putTrial_97 : decode cX2_putTrial 97 = .ok (.iload 4, 2) := by decide +kernel
theorem dX2_putTrial_99 : decode cX2_putTrial 99 = .ok (.aload_n 0, 1) := by decide +kernel
theorem dX2_putTrial_100 : decode cX2_putTrial 100 = .ok (.getfield 41, 3) := by decide +kernel
theorem dX2_putTrial_103 : decode cX2_putTrial 103 = .ok (.iload 5, 2) := by decide +kernel
theorem dX2_putTrial_105 : decode cX2_putTrial 105 = .ok (.invokevirtual 183, 3) := by decide +kernel
theorem dX2_putTrial_108 : decode cX2_putTrial 108 = .ok (.invokevirtual 187, 3) := by decide +kernel
theorem dX2_putTrial_111 : decode cX2_putTrial 111 = .ok (.ifCond .eq 13, 3) := by decide +kernel
theorem dX2_putTrial_114 : decode cX2_putTrial 114 = .ok (.aload_n 0, 1) := by decide +kernel
theorem dX2_putTrial_115 : decode cX2_putTrial 115 = .ok (.getfield 44, 3) := by decide +kernel
theorem dX2_putTrial_118 : decode cX2_putTrial 118 = .ok (.iload 5, 2) := by decide +kernel
theorem dX2_putTrial_120 : decode cX2_putTrial 120 = .ok (.iaload, 1) := by decide +kernel
theorem dX2_putTrial_121 : decode cX2_putTrial 121 = .ok (.iconst 1, 1) := by decide +kernel
theorem dX2_putTrial_122 : decode cX2_putTrial 122 = .ok (.iadd, 1) := by decide +kernel
theorem dX2_putTrial_123 : decode cX2_putTrial 123 = .ok (.istore_n 3, 1) := by decide +kernel
theorem dX2_putTrial_124 : decode cX2_putTrial 124 = .ok (.iinc 4 1, 3) := by decide +kernel
theorem dX2_putTrial_127 : decode cX2_putTrial 127 = .ok (.goto (-75), 3) := by decide +kernel
theorem dX2_putTrial_130 : decode cX2_putTrial 130 = .ok (.aload_n 0, 1) := by decide +kernel
theorem dX2_putTrial_131 : decode cX2_putTrial 131 = .ok (.getfield 44, 3) := by decide +kernel
theorem dX2_putTrial_134 : decode cX2_putTrial 134 = .ok (.iload_n 1, 1) := by decide +kernel
theorem dX2_putTrial_135 : decode cX2_putTrial 135 = .ok (.iconst 1, 1) := by decide +kernel
theorem dX2_putTrial_136 : decode cX2_putTrial 136 = .ok (.iadd, 1) := by decide +kernel
theorem dX2_putTrial_137 : decode cX2_putTrial 137 = .ok (.iload_n 3, 1) := by decide +kernel
theorem dX2_putTrial_138 : decode cX2_putTrial 138 = .ok (.iastore, 1) := by decide +kernel
theorem dX2_putTrial_139 : decode cX2_putTrial 139 = .ok (.return_, 1) := by decide +kernel
abbrev rm_X2_putTrial : Room := { frames := 2, cells := 0, slots := 0, locals := 93 }
def f_X2_putTrial_52 (N : Nat) : Nat → Int32 → Int32 → Int32 → St → Option St
  | 0, _, _, _, _ => none
  | n + 1, x1, x3, x4, σ => (if 11 ≤ x4 then grd (ib (x1 + 1) 13) (some ((si σ 56 (x1 + 1).toNatClampNeg x3))) else grd (ib x4 11) ((if ((x1 + 1) - (st_3.getD x4.toNatClampNeg 0)) < 0 then f_X2_putTrial_52 N n x1 x3 (x4 + 1) σ else grd (ib ((x1 + 1) - (st_3.getD x4.toNatClampNeg 0)) 13) ((if x3 ≤ ((σ.1 56 ((x1 + 1) - (st_3.getD x4.toNatClampNeg 0)).toNatClampNeg) + 1) then f_X2_putTrial_52 N n x1 x3 (x4 + 1) σ else bo (f_X3_edgeIn 55 12 N x4 ((x1 + 1) - (st_3.getD x4.toNatClampNeg 0)) σ) (fun r13_ => bo (f_X6_isLegible 1 r13_ σ) (fun r14_ => (if r14_ = 0 then f_X2_putTrial_52 N n x1 x3 (x4 + 1) σ else grd (ib ((x1 + 1) - (st_3.getD x4.toNatClampNeg 0)) 13) (f_X2_putTrial_52 N n x1 ((σ.1 56 ((x1 + 1) - (st_3.getD x4.toNatClampNeg 0)).toNatClampNeg) + 1) (x4 + 1) σ)))))))))
def f_X2_putTrial (N : Nat) (x1 : Int32) (x2 : Int32) (σ : St) : Option St := grd (ib x1 12) (grd (ib x1 13) (bo (f_X2_costOf x2 (si σ 55 x1.toNatClampNeg x2)) (fun r3_ => grd (ib (x1 + 1) 13) (grd (ib x1 13) (grd (ib (x1 + 1) 13) (f_X2_putTrial_52 N N x1 1000 0 (sl (si (si σ 55 x1.toNatClampNeg x2) 53 (x1 + 1).toNatClampNeg ((σ.1 53 x1.toNatClampNeg) + r3_)) 54 (x1 + 1).toNatClampNeg (f_X11_withSign (σ.2 54 x1.toNatClampNeg) x2 (si (si σ 55 x1.toNatClampNeg x2) 53 (x1 + 1).toNatClampNeg ((σ.1 53 x1.toNatClampNeg) + r3_))))))))))
section
variable {p : Program} {l : Launch} {e : Env} {s : State} {m : MethodId} {args : Array Value} {below : List Frame} {meth : Method} {c : Code} {g : XG}
set_option maxRecDepth 4000 in
theorem w_X2_putTrial_52 (N : Nat) {σ' : St} (C : xC KX g RX2 cX2_putTrial 6 none p s m args meth c) : ∀ (n : Nat), ∀ (x1 : Int32) (x3 : Int32) (x4 : Int32) (σ : St) (H : Heap) (locs : List Loc) (ls : Array Slot), xW KX g s σ H locs → lv_has ls 6 [(0, .ref (g.q 46)), (1, .int x1), (3, .int x3), (4, .int x4)] → f_X2_putTrial_52 N n x1 x3 x4 σ = some σ' → W p l e rm_X2_putTrial s m args below meth c H locs 0 0 (MQ below (xPost KX g none σ') args s 0 0 (xA KX g.q)) (F0 m 52 ls []) := by
  have hx := C.1
  have hb := C.2.1
  intro n
  induction n with
  | zero => intro x1 x3 x4 σ H locs ls hW hl h; rw [f_X2_putTrial_52] at h; cases h
  | succ n ih =>
    intro x1 x3 x4 σ H locs ls hW hl h
    rw [f_X2_putTrial_52] at h
    refine lv_iload hx hb dX2_putTrial_52 (lv_at hl 3 rfl) ?_
    refine lv_bipush (v := 11) hx hb dX2_putTrial_54 rfl ?_
    refine lv_icmp_ge (tgt := 130) hx hb dX2_putTrial_56 (by decide) (fun c7 => ?_) (fun c7 => ?_)
    · have h := xit c7 h
      refine lv_aload_n hx hb dX2_putTrial_130 rfl (lv_at hl 0 rfl) ?_
      refine xg_r C hW fg_2_44 KX_46 rfl dX2_putTrial_131 ?_
      refine lv_iload_n hx hb dX2_putTrial_134 rfl (lv_at hl 1 rfl) ?_
      refine lv_iconst (v := 1) hx hb dX2_putTrial_135 rfl ?_
      refine lv_iadd hx hb dX2_putTrial_136 ?_
      refine lv_iload_n hx hb dX2_putTrial_137 rfl (lv_at hl 2 rfl) ?_
      obtain ⟨g8, h⟩ := xgd h
      refine xs_i C hW KX_56 g8 dX2_putTrial_138 (fun H locs hW => ?_)
      cases h
      exact xr_v C hW dX2_putTrial_139
    · have h := xif c7 h
      refine lv_iload_n hx hb dX2_putTrial_59 rfl (lv_at hl 1 rfl) ?_
      refine lv_iconst (v := 1) hx hb dX2_putTrial_60 rfl ?_
      refine lv_iadd hx hb dX2_putTrial_61 ?_
      refine xt_r (i := 3) C hW xst_3 fs_X2_180 dX2_putTrial_62 ?_
      refine lv_iload hx hb dX2_putTrial_65 (lv_at hl 3 rfl) ?_
      obtain ⟨g9, h⟩ := xgd h
      refine xt_i C hW xst_3 g9 dX2_putTrial_67 ?_
      refine lv_isub hx hb dX2_putTrial_68 ?_
      refine lv_istore (lv' := [(5, .int ((x1 + 1) - (st_3.getD x4.toNatClampNeg 0))), (0, .ref (g.q 46)), (1, .int x1), (3, .int x3), (4, .int x4)]) hx hb dX2_putTrial_69 hl (Nat.le_of_ble_eq_true rfl) rfl (fun ls hl => ?_)
      refine lv_iload hx hb dX2_putTrial_71 (lv_at hl 0 rfl) ?_
      refine lv_if_lt (tgt := 124) hx hb dX2_putTrial_73 (by decide) (fun c10 => ?_) (fun c10 => ?_)
      · have h := xit c10 h
        refine lv_iinc (v := x4 + 1) (lv' := [(4, .int (x4 + 1)), (5, .int ((x1 + 1) - (st_3.getD x4.toNatClampNeg 0))), (0, .ref (g.q 46)), (1, .int x1), (3, .int x3)]) hx hb dX2_putTrial_124 hl (k := 4) rfl rfl (Nat.le_of_ble_eq_true rfl) rfl (fun ls hl => ?_)
        refine lv_goto (tgt := 52) hx hb dX2_putTrial_127 (by decide) ?_
        exact ih x1 x3 (x4 + 1) _ _ _ _ hW (lv_sub hl [2, 3, 4, 0] rfl) h
      · have h := xif c10 h
        refine lv_aload_n hx hb dX2_putTrial_76 rfl (lv_at hl 1 rfl) ?_
        refine xg_r C hW fg_2_44 KX_46 rfl dX2_putTrial_77 ?_
        refine lv_iload hx hb dX2_putTrial_80 (lv_at hl 0 rfl) ?_
        obtain ⟨g11, h⟩ := xgd h
        refine xa_i C hW KX_56 g11 (x := σ.1 56 ((x1 + 1) - (st_3.getD x4.toNatClampNeg 0)).toNatClampNeg) rfl dX2_putTrial_82 ?_
        refine lv_iconst (v := 1) hx hb dX2_putTrial_83 rfl ?_
        refine lv_iadd hx hb dX2_putTrial_84 ?_
        refine lv_iload_n hx hb dX2_putTrial_85 rfl (lv_at hl 3 rfl) ?_
        refine lv_icmp_ge (tgt := 124) hx hb dX2_putTrial_86 (by decide) (fun c12 => ?_) (fun c12 => ?_)
        · have h := xit c12 h
          refine lv_iinc (v := x4 + 1) (lv' := [(4, .int (x4 + 1)), (5, .int ((x1 + 1) - (st_3.getD x4.toNatClampNeg 0))), (0, .ref (g.q 46)), (1, .int x1), (3, .int x3)]) hx hb dX2_putTrial_124 hl (k := 4) rfl rfl (Nat.le_of_ble_eq_true rfl) rfl (fun ls hl => ?_)
          refine lv_goto (tgt := 52) hx hb dX2_putTrial_127 (by decide) ?_
          exact ih x1 x3 (x4 + 1) _ _ _ _ hW (lv_sub hl [2, 3, 4, 0] rfl) h
        · have h := xif c12 h
          refine lv_aload_n hx hb dX2_putTrial_89 rfl (lv_at hl 1 rfl) ?_
          refine xg_r C hW fg_2_47 KX_46 rfl dX2_putTrial_90 ?_
          refine lv_aload_n hx hb dX2_putTrial_93 rfl (lv_at hl 1 rfl) ?_
          refine xg_r C hW fg_2_55 KX_46 rfl dX2_putTrial_94 ?_
          refine lv_iload hx hb dX2_putTrial_97 (lv_at hl 4 rfl) ?_
          refine lv_aload_n hx hb dX2_putTrial_99 rfl (lv_at hl 1 rfl) ?_
          refine xg_r C hW fg_2_41 KX_46 rfl dX2_putTrial_100 ?_
          refine lv_iload hx hb dX2_putTrial_103 (lv_at hl 0 rfl) ?_
          obtain ⟨r13_, e13, h⟩ := xbo h
          refine xc_V (As := [.int x4, .ref (g.q 55), .int ((x1 + 1) - (st_3.getD x4.toNatClampNeg 0))]) (rest := [.ref (g.q 1)]) C hW (m_X3_edgeIn 55 12 KX_55 N x4 ((x1 + 1) - (st_3.getD x4.toNatClampNeg 0)) _ e13) mf_X3_edgeIn mv_X3_edgeIn ml_X2_183 ⟨rfl, rfl⟩ ⟨Nat.le_of_ble_eq_true rfl, Nat.le_of_ble_eq_true rfl⟩ KX_40 rfl hl.1 rfl rfl (Nat.le_of_ble_eq_true rfl) dX2_putTrial_105 (fun H locs hW => W.eq (g2 := F0 m 108 ls [.int r13_, .ref (g.q 1)]) rfl ?_)
          obtain ⟨r14_, e14, h⟩ := xbo h
          refine xc_V (As := [.int r13_]) (rest := []) C hW (m_X6_isLegible 1 (Or.inl rfl) r13_ _ e14) mf_X6_isLegible mv_X6_isLegible ml_X2_187 ⟨rfl, rfl⟩ ⟨Nat.le_of_ble_eq_true rfl, Nat.le_of_ble_eq_true rfl⟩ (KX_sl (Or.inl rfl)) rfl hl.1 rfl rfl (Nat.le_of_ble_eq_true rfl) dX2_putTrial_108 (fun H locs hW => W.eq (g2 := F0 m 111 ls [.int r14_]) rfl ?_)
          refine lv_if_eq (tgt := 124) hx hb dX2_putTrial_111 (by decide) (fun c15 => ?_) (fun c15 => ?_)
          · have h := xit c15 h
            refine lv_iinc (v := x4 + 1) (lv' := [(4, .int (x4 + 1)), (5, .int ((x1 + 1) - (st_3.getD x4.toNatClampNeg 0))), (0, .ref (g.q 46)), (1, .int x1), (3, .int x3)]) hx hb dX2_putTrial_124 hl (k := 4) rfl rfl (Nat.le_of_ble_eq_true rfl) rfl (fun ls hl => ?_)
            refine lv_goto (tgt := 52) hx hb dX2_putTrial_127 (by decide) ?_
            exact ih x1 x3 (x4 + 1) _ _ _ _ hW (lv_sub hl [2, 3, 4, 0] rfl) h
          · have h := xif c15 h
            refine lv_aload_n hx hb dX2_putTrial_114 rfl (lv_at hl 1 rfl) ?_
            refine xg_r C hW fg_2_44 KX_46 rfl dX2_putTrial_115 ?_
            refine lv_iload hx hb dX2_putTrial_118 (lv_at hl 0 rfl) ?_
            obtain ⟨g16, h⟩ := xgd h
            refine xa_i C hW KX_56 g16 (x := σ.1 56 ((x1 + 1) - (st_3.getD x4.toNatClampNeg 0)).toNatClampNeg) rfl dX2_putTrial_120 ?_
            refine lv_iconst (v := 1) hx hb dX2_putTrial_121 rfl ?_
            refine lv_iadd hx hb dX2_putTrial_122 ?_
            refine lv_istore_n (lv' := [(3, .int ((σ.1 56 ((x1 + 1) - (st_3.getD x4.toNatClampNeg 0)).toNatClampNeg) + 1)), (5, .int ((x1 + 1) - (st_3.getD x4.toNatClampNeg 0))), (0, .ref (g.q 46)), (1, .int x1), (4, .int x4)]) hx hb dX2_putTrial_123 rfl hl (Nat.le_of_ble_eq_true rfl) rfl (fun ls hl => ?_)
            refine lv_iinc (v := x4 + 1) (lv' := [(4, .int (x4 + 1)), (3, .int ((σ.1 56 ((x1 + 1) - (st_3.getD x4.toNatClampNeg 0)).toNatClampNeg) + 1)), (5, .int ((x1 + 1) - (st_3.getD x4.toNatClampNeg 0))), (0, .ref (g.q 46)), (1, .int x1)]) hx hb dX2_putTrial_124 hl (k := 4) rfl rfl (Nat.le_of_ble_eq_true rfl) rfl (fun ls hl => ?_)
            refine lv_goto (tgt := 52) hx hb dX2_putTrial_127 (by decide) ?_
            exact ih x1 ((σ.1 56 ((x1 + 1) - (st_3.getD x4.toNatClampNeg 0)).toNatClampNeg) + 1) (x4 + 1) _ _ _ _ hW (lv_sub hl [3, 4, 1, 0] rfl) h
set_option maxRecDepth 4000 in
theorem m_X2_putTrial (N : Nat) (x1 : Int32) (x2 : Int32) (σ : St) {σ' : St} (h : f_X2_putTrial N x1 x2 σ = some σ') : xM l KX g yX2_putTrial cX2_putTrial 6 none rm_X2_putTrial [.ref (g.q 46), .int x1, .int x2] σ none σ' := by
  refine xmet pn_X2 rfl (Nat.le_of_ble_eq_true rfl) (lv := [(0, .ref (g.q 46)), (1, .int x1), (2, .int x2)]) rfl (fun p e s m args below meth c ls C hW hl => ?_)
  have hx := C.1
  have hb := C.2.1
  unfold f_X2_putTrial at h
  refine lv_aload_n hx hb dX2_putTrial_0 rfl (lv_at hl 0 rfl) ?_
  refine xg_r C hW fg_2_41 KX_46 rfl dX2_putTrial_1 ?_
  refine lv_iload_n hx hb dX2_putTrial_4 rfl (lv_at hl 1 rfl) ?_
  refine lv_iload_n hx hb dX2_putTrial_5 rfl (lv_at hl 2 rfl) ?_
  obtain ⟨g1, h⟩ := xgd h
  refine xs_i C hW KX_55 g1 dX2_putTrial_6 (fun H locs hW => ?_)
  refine lv_aload_n hx hb dX2_putTrial_7 rfl (lv_at hl 0 rfl) ?_
  refine xg_r C hW fg_2_35 KX_46 rfl dX2_putTrial_8 ?_
  refine lv_iload_n hx hb dX2_putTrial_11 rfl (lv_at hl 1 rfl) ?_
  refine lv_iconst (v := 1) hx hb dX2_putTrial_12 rfl ?_
  refine lv_iadd hx hb dX2_putTrial_13 ?_
  refine lv_aload_n hx hb dX2_putTrial_14 rfl (lv_at hl 0 rfl) ?_
  refine xg_r C hW fg_2_35 KX_46 rfl dX2_putTrial_15 ?_
  refine lv_iload_n hx hb dX2_putTrial_18 rfl (lv_at hl 1 rfl) ?_
  obtain ⟨g2, h⟩ := xgd h
  refine xa_i C hW KX_53 g2 (x := σ.1 53 x1.toNatClampNeg) rfl dX2_putTrial_19 ?_
  refine lv_aload_n hx hb dX2_putTrial_20 rfl (lv_at hl 0 rfl) ?_
  refine lv_iload_n hx hb dX2_putTrial_21 rfl (lv_at hl 2 rfl) ?_
  obtain ⟨r3_, e3, h⟩ := xbo h
  refine xc_V (As := [.int x2]) (rest := [.int (σ.1 53 x1.toNatClampNeg), .int (x1 + 1), .ref (g.q 53)]) C hW (m_X2_costOf x2 _ e3) mf_X2_costOf mv_X2_costOf ml_X2_106 ⟨rfl, rfl⟩ ⟨Nat.le_of_ble_eq_true rfl, Nat.le_of_ble_eq_true rfl⟩ KX_46 rfl hl.1 rfl rfl (Nat.le_of_ble_eq_true rfl) dX2_putTrial_22 (fun H locs hW => W.eq (g2 := F0 m 25 ls [.int r3_, .int (σ.1 53 x1.toNatClampNeg), .int (x1 + 1), .ref (g.q 53)]) rfl ?_)
  refine lv_iadd hx hb dX2_putTrial_25 ?_
  obtain ⟨g4, h⟩ := xgd h
  refine xs_i C hW KX_53 g4 dX2_putTrial_26 (fun H locs hW => ?_)
  refine lv_aload_n hx hb dX2_putTrial_27 rfl (lv_at hl 0 rfl) ?_
  refine xg_r C hW fg_2_38 KX_46 rfl dX2_putTrial_28 ?_
  refine lv_iload_n hx hb dX2_putTrial_31 rfl (lv_at hl 1 rfl) ?_
  refine lv_iconst (v := 1) hx hb dX2_putTrial_32 rfl ?_
  refine lv_iadd hx hb dX2_putTrial_33 ?_
  refine lv_aload_n hx hb dX2_putTrial_34 rfl (lv_at hl 0 rfl) ?_
  refine xg_r C hW fg_2_38 KX_46 rfl dX2_putTrial_35 ?_
  refine lv_iload_n hx hb dX2_putTrial_38 rfl (lv_at hl 1 rfl) ?_
  obtain ⟨g5, h⟩ := xgd h
  refine xa_l C hW KX_54 g5 (x := σ.2 54 x1.toNatClampNeg) rfl dX2_putTrial_39 ?_
  refine lv_iload_n hx hb dX2_putTrial_40 rfl (lv_at hl 2 rfl) ?_
  refine xc_SN (As := [.long (σ.2 54 x1.toNatClampNeg), .int x2]) (rest := [.int (x1 + 1), .ref (g.q 54)]) C hW (m_X11_withSign (σ.2 54 x1.toNatClampNeg) x2 _ rfl) mf_X11_withSign mt_X11_withSign xn_X2_130 ⟨rfl, rfl⟩ ⟨Nat.le_of_ble_eq_true rfl, Nat.le_of_ble_eq_true rfl⟩ hl.1 rfl rfl (Nat.le_of_ble_eq_true rfl) dX2_putTrial_41 (fun H locs hW => W.eq (g2 := F0 m 44 ls [.long (f_X11_withSign (σ.2 54 x1.toNatClampNeg) x2 (si (si σ 55 x1.toNatClampNeg x2) 53 (x1 + 1).toNatClampNeg ((σ.1 53 x1.toNatClampNeg) + r3_))), .int (x1 + 1), .ref (g.q 54)]) rfl ?_)
  obtain ⟨g6, h⟩ := xgd h
  refine xs_l C hW KX_54 g6 dX2_putTrial_44 (fun H locs hW => ?_)
  refine lv_sipush (v := 1000) hx hb dX2_putTrial_45 rfl ?_
  refine lv_istore_n (lv' := [(3, .int 1000), (0, .ref (g.q 46)), (1, .int x1), (2, .int x2)]) hx hb dX2_putTrial_48 rfl hl (Nat.le_of_ble_eq_true rfl) rfl (fun ls hl => ?_)
  refine lv_iconst (v := 0) hx hb dX2_putTrial_49 rfl ?_
  refine lv_istore (lv' := [(4, .int 0), (3, .int 1000), (0, .ref (g.q 46)), (1, .int x1), (2, .int x2)]) hx hb dX2_putTrial_50 hl (Nat.le_of_ble_eq_true rfl) rfl (fun ls hl => ?_)
  exact w_X2_putTrial_52 N C N x1 1000 0 _ _ _ _ hW (lv_sub hl [2, 3, 1, 0] rfl) h
end
theorem dX2_keepTrial_0 : decode cX2_keepTrial 0 = .ok (.aload_n 0, 1) := by decide +kernel
theorem dX2_keepTrial_1 : decode cX2_keepTrial 1 = .ok (.getfield 44, 3) := by decide +kernel
theorem dX2_keepTrial_4 : decode cX2_keepTrial 4 = .ok (.iload_n 1, 1) := by decide +kernel
theorem dX2_keepTrial_5 : decode cX2_keepTrial 5 = .ok (.iaload, 1) := by decide +kernel
theorem dX2_keepTrial_6 : decode cX2_keepTrial 6 = .ok (.istore_n 2, 1) := by decide +kernel
theorem dX2_keepTrial_7 : decode cX2_keepTrial 7 = .ok (.iload_n 2, 1) := by decide +kernel
theorem dX2_keepTrial_8 : decode cX2_keepTrial 8 = .ok (.bipush 13, 2) := by decide +kernel
theorem dX2_keepTrial_10 : decode cX2_keepTrial 10 = .ok (.if_icmp .lt 4, 3) := by decide +kernel
theorem dX2_keepTrial_13 : decode cX2_keepTrial 13 = .ok (.return_, 1) := by decide +kernel
theorem dX2_keepTrial_14 : decode cX2_keepTrial 14 = .ok (.aload_n 0, 1) := by decide +kernel
theorem dX2_keepTrial_15 : decode cX2_keepTrial 15 = .ok (.getfield 143, 3) := by decide +kernel
theorem dX2_keepTrial_18 : decode cX2_keepTrial 18 = .ok (.iload_n 2, 1) := by decide +kernel
theorem dX2_keepTrial_19 : decode cX2_keepTrial 19 = .ok (.iadd, 1) := by decide +kernel
theorem dX2_keepTrial_20 : decode cX2_keepTrial 20 = .ok (.istore_n 3, 1) := by decide +kernel
theorem dX2_keepTrial_21 : decode cX2_keepTrial 21 = .ok (.aload_n 0, 1) := by decide +kernel
theorem dX2_keepTrial_22 : decode cX2_keepTrial 22 = .ok (.getfield 35, 3) := by decide +kernel
theorem dX2_keepTrial_25 : decode cX2_keepTrial 25 = .ok (.iload_n 1, 1) := by decide +kernel
theorem dX2_keepTrial_26 : decode cX2_keepTrial 26 = .ok (.iaload, 1) := by decide +kernel
theorem dX2_keepTrial_27 : decode cX2_keepTrial 27 = .ok (.istore 4, 2) := by decide +kernel
theorem dX2_keepTrial_29 : decode cX2_keepTrial 29 = .ok (.iload 4, 2) := by decide +kernel
theorem dX2_keepTrial_31 : decode cX2_keepTrial 31 = .ok (.aload_n 0, 1) := by decide +kernel
theorem dX2_keepTrial_32 : decode cX2_keepTrial 32 = .ok (.getfield 29, 3) := by decide +kernel
theorem dX2_keepTrial_35 : decode cX2_keepTrial 35 = .ok (.iload_n 3, 1) := by decide +kernel
theorem dX2_keepTrial_36 : decode cX2_keepTrial 36 = .ok (.iaload, 1) := by decide +kernel
theorem dX2_keepTrial_37 : decode cX2_keepTrial 37 = .ok (.if_icmp .lt 30, 3) := by decide +kernel
theorem dX2_keepTrial_40 : decode cX2_keepTrial 40 = .ok (.iload 4, 2) := by decide +kernel
theorem dX2_keepTrial_42 : decode cX2_keepTrial 42 = .ok (.aload_n 0, 1) := by decide +kernel
theorem dX2_keepTrial_43 : decode cX2_keepTrial 43 = .ok (.getfield 29, 3) := by decide +kernel
theorem dX2_keepTrial_46 : decode cX2_keepTrial 46 = .ok (.iload_n 3, 1) := by decide +kernel
theorem dX2_keepTrial_47 : decode cX2_keepTrial 47 = .ok (.iaload, 1) := by decide +kernel
theorem dX2_keepTrial_48 : decode cX2_keepTrial 48 = .ok (.if_icmp .ne 39, 3) := by decide +kernel
theorem dX2_keepTrial_51 : decode cX2_keepTrial 51 = .ok (.aload_n 0, 1) := by decide +kernel
theorem dX2_keepTrial_52 : decode cX2_keepTrial 52 = .ok (.getfield 38, 3) := by decide +kernel
theorem dX2_keepTrial_55 : decode cX2_keepTrial 55 = .ok (.iload_n 1, 1) := by decide +kernel
theorem dX2_keepTrial_56 : decode cX2_keepTrial 56 = .ok (.laload, 1) := by decide +kernel
theorem dX2_keepTrial_57 : decode cX2_keepTrial 57 = .ok (.aload_n 0, 1) := by decide +kernel
theorem dX2_keepTrial_58 : decode cX2_keepTrial 58 = .ok (.getfield 32, 3) := by decide +kernel
theorem dX2_keepTrial_61 : decode cX2_keepTrial 61 = .ok (.iload_n 3, 1) := by decide +kernel
theorem dX2_keepTrial_62 : decode cX2_keepTrial 62 = .ok (.laload, 1) := by decide +kernel
theorem dX2_keepTrial_63 : decode cX2_keepTrial 63 = .ok (.lcmp, 1) := by decide +kernel
theorem dX2_keepTrial_64 : decode cX2_keepTrial 64 = .ok (.ifCond .ge 23, 3) := by decide +kernel
theorem dX2_keepTrial_67 : decode cX2_keepTrial 67 = .ok (.aload_n 0, 1) := by decide +kernel
theorem dX2_keepTrial_68 : decode cX2_keepTrial 68 = .ok (.getfield 29, 3) := by decide +kernel
theorem dX2_keepTrial_71 : decode cX2_keepTrial 71 = .ok (.iload_n 3, 1) := by decide +kernel
theorem dX2_keepTrial_72 : decode cX2_keepTrial 72 = .ok (.iload 4, 2) := by decide +kernel
theorem dX2_keepTrial_74 : decode cX2_keepTrial 74 = .ok (.iastore, 1) := by decide +kernel
theorem dX2_keepTrial_75 : decode cX2_keepTrial 75 = .ok (.aload_n 0, 1) := by decide +kernel
theorem dX2_keepTrial_76 : decode cX2_keepTrial 76 = .ok (.getfield 32, 3) := by decide +kernel
theorem dX2_keepTrial_79 : decode cX2_keepTrial 79 = .ok (.iload_n 3, 1) := by decide +kernel
theorem dX2_keepTrial_80 : decode cX2_keepTrial 80 = .ok (.aload_n 0, 1) := by decide +kernel
theorem dX2_keepTrial_81 : decode cX2_keepTrial 81 = .ok (.getfield 38, 3) := by decide +kernel
theorem dX2_keepTrial_84 : decode cX2_keepTrial 84 = .ok (.iload_n 1, 1) := by decide +kernel
theorem dX2_keepTrial_85 : decode cX2_keepTrial 85 = .ok (.laload, 1) := by decide +kernel
theorem dX2_keepTrial_86 : decode cX2_keepTrial 86 = .ok (.lastore, 1) := by decide +kernel
theorem dX2_keepTrial_87 : decode cX2_keepTrial 87 = .ok (.return_, 1) := by decide +kernel
abbrev rm_X2_keepTrial : Room := { frames := 0, cells := 0, slots := 0, locals := 0 }
def f_X2_keepTrial_67 (x1 : Int32) (x3 : Int32) (x4 : Int32) (σ : St) : Option St := grd (ib x3 520) (grd (ib x1 13) (grd (ib x3 520) (some ((sl (si σ 51 x3.toNatClampNeg x4) 52 x3.toNatClampNeg (σ.2 54 x1.toNatClampNeg))))))
def f_X2_keepTrial (x1 : Int32) (σ : St) : Option St := grd (ib x1 13) ((if (σ.1 56 x1.toNatClampNeg) < 13 then grd (ib x1 13) (grd (ib ((σ.1 10213 0) + (σ.1 56 x1.toNatClampNeg)) 520) ((if (σ.1 53 x1.toNatClampNeg) < (σ.1 51 ((σ.1 10213 0) + (σ.1 56 x1.toNatClampNeg)).toNatClampNeg) then f_X2_keepTrial_67 x1 ((σ.1 10213 0) + (σ.1 56 x1.toNatClampNeg)) (σ.1 53 x1.toNatClampNeg) σ else grd (ib ((σ.1 10213 0) + (σ.1 56 x1.toNatClampNeg)) 520) ((if (σ.1 53 x1.toNatClampNeg) = (σ.1 51 ((σ.1 10213 0) + (σ.1 56 x1.toNatClampNeg)).toNatClampNeg) then grd (ib x1 13) (grd (ib ((σ.1 10213 0) + (σ.1 56 x1.toNatClampNeg)) 520) ((if 0 ≤ (lg_cmp (σ.2 54 x1.toNatClampNeg) (σ.2 52 ((σ.1 10213 0) + (σ.1 56 x1.toNatClampNeg)).toNatClampNeg)) then some σ else f_X2_keepTrial_67 x1 ((σ.1 10213 0) + (σ.1 56 x1.toNatClampNeg)) (σ.1 53 x1.toNatClampNeg) σ))) else some σ))))) else some σ))
section
variable {p : Program} {l : Launch} {e : Env} {s : State} {m : MethodId} {args : Array Value} {below : List Frame} {meth : Method} {c : Code} {g : XG}
set_option maxRecDepth 4000 in
theorem w_X2_keepTrial_67 {σ' : St} (C : xC KX g RX2 cX2_keepTrial 5 none p s m args meth c) : ∀ (x1 : Int32) (x3 : Int32) (x4 : Int32) (σ : St) (H : Heap) (locs : List Loc) (ls : Array Slot), xW KX g s σ H locs → lv_has ls 5 [(0, .ref (g.q 46)), (1, .int x1), (3, .int x3), (4, .int x4)] → f_X2_keepTrial_67 x1 x3 x4 σ = some σ' → W p l e rm_X2_keepTrial s m args below meth c H locs 0 0 (MQ below (xPost KX g none σ') args s 0 0 (xA KX g.q)) (F0 m 67 ls []) := by
  have hx := C.1
  have hb := C.2.1
  intro x1 x3 x4 σ H locs ls hW hl h
  unfold f_X2_keepTrial_67 at h
  refine lv_aload_n hx hb dX2_keepTrial_67 rfl (lv_at hl 0 rfl) ?_
  refine xg_r C hW fg_2_29 KX_46 rfl dX2_keepTrial_68 ?_
  refine lv_iload_n hx hb dX2_keepTrial_71 rfl (lv_at hl 2 rfl) ?_
  refine lv_iload hx hb dX2_keepTrial_72 (lv_at hl 3 rfl) ?_
  obtain ⟨g11, h⟩ := xgd h
  refine xs_i C hW KX_51 g11 dX2_keepTrial_74 (fun H locs hW => ?_)
  refine lv_aload_n hx hb dX2_keepTrial_75 rfl (lv_at hl 0 rfl) ?_
  refine xg_r C hW fg_2_32 KX_46 rfl dX2_keepTrial_76 ?_
  refine lv_iload_n hx hb dX2_keepTrial_79 rfl (lv_at hl 2 rfl) ?_
  refine lv_aload_n hx hb dX2_keepTrial_80 rfl (lv_at hl 0 rfl) ?_
  refine xg_r C hW fg_2_38 KX_46 rfl dX2_keepTrial_81 ?_
  refine lv_iload_n hx hb dX2_keepTrial_84 rfl (lv_at hl 1 rfl) ?_
  obtain ⟨g12, h⟩ := xgd h
  refine xa_l C hW KX_54 g12 (x := σ.2 54 x1.toNatClampNeg) rfl dX2_keepTrial_85 ?_
  obtain ⟨g13, h⟩ := xgd h
  refine xs_l C hW KX_52 g13 dX2_keepTrial_86 (fun H locs hW => ?_)
  cases h
  exact xr_v C hW dX2_keepTrial_87
set_option maxRecDepth 4000 in
theorem m_X2_keepTrial (x1 : Int32) (σ : St) {σ' : St} (h : f_X2_keepTrial x1 σ = some σ') : xM l KX g yX2_keepTrial cX2_keepTrial 5 none rm_X2_keepTrial [.ref (g.q 46), .int x1] σ none σ' := by
  refine xmet pn_X2 rfl (Nat.le_of_ble_eq_true rfl) (lv := [(0, .ref (g.q 46)), (1, .int x1)]) rfl (fun p e s m args below meth c ls C hW hl => ?_)
  have hx := C.1
  have hb := C.2.1
  unfold f_X2_keepTrial at h
  refine lv_aload_n hx hb dX2_keepTrial_0 rfl (lv_at hl 0 rfl) ?_
  refine xg_r C hW fg_2_44 KX_46 rfl dX2_keepTrial_1 ?_
  refine lv_iload_n hx hb dX2_keepTrial_4 rfl (lv_at hl 1 rfl) ?_
  obtain ⟨g1, h⟩ := xgd h
  refine xa_i C hW KX_56 g1 (x := σ.1 56 x1.toNatClampNeg) rfl dX2_keepTrial_5 ?_
  refine lv_istore_n (lv' := [(2, .int (σ.1 56 x1.toNatClampNeg)), (0, .ref (g.q 46)), (1, .int x1)]) hx hb dX2_keepTrial_6 rfl hl (Nat.le_of_ble_eq_true rfl) rfl (fun ls hl => ?_)
  refine lv_iload_n hx hb dX2_keepTrial_7 rfl (lv_at hl 0 rfl) ?_
  refine lv_bipush (v := 13) hx hb dX2_keepTrial_8 rfl ?_
  refine lv_icmp_lt (tgt := 14) hx hb dX2_keepTrial_10 (by decide) (fun c2 => ?_) (fun c2 => ?_)
  · have h := xit c2 h
    refine lv_aload_n hx hb dX2_keepTrial_14 rfl (lv_at hl 1 rfl) ?_
    refine xg_i C hW fg_2_143 KX_46 rfl (v := 10213) rfl (x := σ.1 10213 0) rfl dX2_keepTrial_15 ?_
    refine lv_iload_n hx hb dX2_keepTrial_18 rfl (lv_at hl 0 rfl) ?_
    refine lv_iadd hx hb dX2_keepTrial_19 ?_
    refine lv_istore_n (lv' := [(3, .int ((σ.1 10213 0) + (σ.1 56 x1.toNatClampNeg))), (2, .int (σ.1 56 x1.toNatClampNeg)), (0, .ref (g.q 46)), (1, .int x1)]) hx hb dX2_keepTrial_20 rfl hl (Nat.le_of_ble_eq_true rfl) rfl (fun ls hl => ?_)
    refine lv_aload_n hx hb dX2_keepTrial_21 rfl (lv_at hl 2 rfl) ?_
    refine xg_r C hW fg_2_35 KX_46 rfl dX2_keepTrial_22 ?_
    refine lv_iload_n hx hb dX2_keepTrial_25 rfl (lv_at hl 3 rfl) ?_
    obtain ⟨g3, h⟩ := xgd h
    refine xa_i C hW KX_53 g3 (x := σ.1 53 x1.toNatClampNeg) rfl dX2_keepTrial_26 ?_
    refine lv_istore (lv' := [(4, .int (σ.1 53 x1.toNatClampNeg)), (3, .int ((σ.1 10213 0) + (σ.1 56 x1.toNatClampNeg))), (2, .int (σ.1 56 x1.toNatClampNeg)), (0, .ref (g.q 46)), (1, .int x1)]) hx hb dX2_keepTrial_27 hl (Nat.le_of_ble_eq_true rfl) rfl (fun ls hl => ?_)
    refine lv_iload hx hb dX2_keepTrial_29 (lv_at hl 0 rfl) ?_
    refine lv_aload_n hx hb dX2_keepTrial_31 rfl (lv_at hl 3 rfl) ?_
    refine xg_r C hW fg_2_29 KX_46 rfl dX2_keepTrial_32 ?_
    refine lv_iload_n hx hb dX2_keepTrial_35 rfl (lv_at hl 1 rfl) ?_
    obtain ⟨g4, h⟩ := xgd h
    refine xa_i C hW KX_51 g4 (x := σ.1 51 ((σ.1 10213 0) + (σ.1 56 x1.toNatClampNeg)).toNatClampNeg) rfl dX2_keepTrial_36 ?_
    refine lv_icmp_lt (tgt := 67) hx hb dX2_keepTrial_37 (by decide) (fun c5 => ?_) (fun c5 => ?_)
    · have h := xit c5 h
      exact w_X2_keepTrial_67 C x1 ((σ.1 10213 0) + (σ.1 56 x1.toNatClampNeg)) (σ.1 53 x1.toNatClampNeg) _ _ _ _ hW (lv_sub hl [3, 4, 1, 0] rfl) h
    · have h := xif c5 h
      refine lv_iload hx hb dX2_keepTrial_40 (lv_at hl 0 rfl) ?_
      refine lv_aload_n hx hb dX2_keepTrial_42 rfl (lv_at hl 3 rfl) ?_
      refine xg_r C hW fg_2_29 KX_46 rfl dX2_keepTrial_43 ?_
      refine lv_iload_n hx hb dX2_keepTrial_46 rfl (lv_at hl 1 rfl) ?_
      obtain ⟨g6, h⟩ := xgd h
      refine xa_i C hW KX_51 g6 (x := σ.1 51 ((σ.1 10213 0) + (σ.1 56 x1.toNatClampNeg)).toNatClampNeg) rfl dX2_keepTrial_47 ?_
      refine lv_icmp_ne (tgt := 87) hx hb dX2_keepTrial_48 (by decide) (fun c7 => ?_) (fun c7 => ?_)
      · have h := xif c7 h
        cases h
        exact xr_v C hW dX2_keepTrial_87
      · have h := xit c7 h
        refine lv_aload_n hx hb dX2_keepTrial_51 rfl (lv_at hl 3 rfl) ?_
        refine xg_r C hW fg_2_38 KX_46 rfl dX2_keepTrial_52 ?_
        refine lv_iload_n hx hb dX2_keepTrial_55 rfl (lv_at hl 4 rfl) ?_
        obtain ⟨g8, h⟩ := xgd h
        refine xa_l C hW KX_54 g8 (x := σ.2 54 x1.toNatClampNeg) rfl dX2_keepTrial_56 ?_
        refine lv_aload_n hx hb dX2_keepTrial_57 rfl (lv_at hl 3 rfl) ?_
        refine xg_r C hW fg_2_32 KX_46 rfl dX2_keepTrial_58 ?_
        refine lv_iload_n hx hb dX2_keepTrial_61 rfl (lv_at hl 1 rfl) ?_
        obtain ⟨g9, h⟩ := xgd h
        refine xa_l C hW KX_52 g9 (x := σ.2 52 ((σ.1 10213 0) + (σ.1 56 x1.toNatClampNeg)).toNatClampNeg) rfl dX2_keepTrial_62 ?_
        refine W.lcmp hx hb dX2_keepTrial_63 ?_
        refine lv_if_ge (tgt := 87) hx hb dX2_keepTrial_64 (by decide) (fun c10 => ?_) (fun c10 => ?_)
        · have h := xit c10 h
          cases h
          exact xr_v C hW dX2_keepTrial_87
        · have h := xif c10 h
          exact w_X2_keepTrial_67 C x1 ((σ.1 10213 0) + (σ.1 56 x1.toNatClampNeg)) (σ.1 53 x1.toNatClampNeg) _ _ _ _ hW (lv_sub hl [3, 4, 1, 0] rfl) h
  · have h := xif c2 h
    cases h
    exact xr_v C hW dX2_keepTrial_13
end
theorem dX2_tryBody_0 : decode cX2_tryBody 0 = .ok (.aload_n 0, 1) := by decide +kernel
theorem dX2_tryBody_1 : decode cX2_tryBody 1 = .ok (.getfield 51, 3) := by decide +kernel
theorem dX2_tryBody_4 : decode cX2_tryBody 4 = .ok (.invokevirtual 113, 3) := by decide +kernel
theorem dX2_tryBody_7 : decode cX2_tryBody 7 = .ok (.ifCond .ne 9, 3) := by decide +kernel
theorem dX2_tryBody_10 : decode cX2_tryBody 10 = .ok (.aload_n 0, 1) := by decide +kernel
theorem dX2_tryBody_11 : decode cX2_tryBody 11 = .ok (.iload_n 1, 1) := by decide +kernel
theorem dX2_tryBody_12 : decode cX2_tryBody 12 = .ok (.invokevirtual 175, 3) := by decide +kernel
theorem dX2_tryBody_15 : decode cX2_tryBody 15 = .ok (.return_, 1) := by decide +kernel
theorem dX2_tryBody_16 : decode cX2_tryBody 16 = .ok (.iconst 0, 1) := by decide +kernel
theorem dX2_tryBody_17 : decode cX2_tryBody 17 = .ok (.istore_n 2, 1) := by decide +kernel
theorem dX2_tryBody_18 : decode cX2_tryBody 18 = .ok (.iload_n 2, 1) := by decide +kernel
theorem dX2_tryBody_19 : decode cX2_tryBody 19 = .ok (.aload_n 0, 1) := by decide +kernel
theorem dX2_tryBody_20 : decode cX2_tryBody 20 = .ok (.getfield 47, 3) := by decide +kernel
theorem dX2_tryBody_23 : decode cX2_tryBody 23 = .ok (.getfield 101, 3) := by decide +kernel
theorem dX2_tryBody_26 : decode cX2_tryBody 26 = .ok (.if_icmp .ge 39, 3) := by decide +kernel
theorem dX2_tryBody_29 : decode cX2_tryBody 29 = .ok (.iload_n 1, 1) := by decide +kernel
theorem dX2_tryBody_30 : decode cX2_tryBody 30 = .ok (.bipush 12, 2) := by decide +kernel
theorem dX2_tryBody_32 : decode cX2_tryBody 32 = .ok (.if_icmp .ge 33, 3) := by decide +kernel
theorem dX2_tryBody_35 : decode cX2_tryBody 35 = .ok (.aload_n 0, 1) := by decide +kernel
theorem dX2_tryBody_36 : decode cX2_tryBody 36 = .ok (.getfield 51, 3) := by decide +kernel
theorem dX2_tryBody_39 : decode cX2_tryBody 39 = .ok (.iload_n 2, 1) := by decide +kernel
theorem dX2_tryBody_40 : decode cX2_tryBody 40 = .ok (.invokevirtual 117, 3) := by decide +kernel
theorem dX2_tryBody_43 : decode cX2_tryBody 43 = .ok (.ifCond .eq 16, 3) := by decide +kernel
theorem dX2_tryBody_46 : decode cX2_tryBody 46 = .ok (.aload_n 0, 1) := by decide +kernel
theorem dX2_tryBody_47 : decode cX2_tryBody 47 = .ok (.iload_n 1, 1) := by decide +kernel
theorem dX2_tryBody_48 : decode cX2_tryBody 48 = .ok (.iload_n 2, 1) := by decide +kernel
theorem dX2_tryBody_49 : decode cX2_tryBody 49 = .ok (.invokevirtual 155, 3) := by decide +kernel
theorem dX2_tryBody_52 : decode cX2_tryBody 52 = .ok (.aload_n 0, 1) := by decide +kernel
theorem dX2_tryBody_53 : decode cX2_tryBody 53 = .ok (.iload_n 1, 1) := by decide +kernel
theorem dX2_tryBody_54 : decode cX2_tryBody 54 = .ok (.iconst 1, 1) := by decide +kernel
theorem dX2_tryBody_55 : decode cX2_tryBody 55 = .ok (.iadd, 1) := by decide +kernel
theorem dX2_tryBody_56 : decode cX2_tryBody 56 = .ok (.invokevirtual 175, 3) := by decide +kernel
theorem dX2_tryBody_59 : decode cX2_tryBody 59 = .ok (.iinc 2 1, 3) := by decide +kernel
theorem dX2_tryBody_62 : decode cX2_tryBody 62 = .ok (.goto (-44), 3) := by decide +kernel
theorem dX2_tryBody_65 : decode cX2_tryBody 65 = .ok (.return_, 1) := by decide +kernel
abbrev rm_X2_tryBody : Room := { frames := 3, cells := 0, slots := 0, locals := 118 }
def f_X2_tryBody_18 (N : Nat) : Nat → Int32 → Int32 → St → Option St
  | 0, _, _, _ => none
  | n + 1, x1, x2, σ => (if (σ.1 1200 0) ≤ x2 then some σ else (if 12 ≤ x1 then some σ else bo (f_X7_isOfKind x2 σ) (fun r5_ => (if r5_ = 0 then f_X2_tryBody_18 N n x1 (x2 + 1) σ else bo (f_X2_putTrial N x1 x2 σ) (fun σ7 => bo (f_X2_keepTrial (x1 + 1) σ7) (fun σ8 => f_X2_tryBody_18 N n x1 (x2 + 1) σ8))))))
def f_X2_tryBody (N : Nat) (x1 : Int32) (σ : St) : Option St := (if (f_X7_hasKind σ) = 0 then bo (f_X2_keepTrial x1 σ) (fun σ2 => some σ2) else f_X2_tryBody_18 N N x1 0 σ)
section
variable {p : Program} {l : Launch} {e : Env} {s : State} {m : MethodId} {args : Array Value} {below : List Frame} {meth : Method} {c : Code} {g : XG}
set_option maxRecDepth 4000 in
theorem w_X2_tryBody_18 (N : Nat) {σ' : St} (C : xC KX g RX2 cX2_tryBody 3 none p s m args meth c) : ∀ (n : Nat), ∀ (x1 : Int32) (x2 : Int32) (σ : St) (H : Heap) (locs : List Loc) (ls : Array Slot), xW KX g s σ H locs → lv_has ls 3 [(0, .ref (g.q 46)), (1, .int x1), (2, .int x2)] → f_X2_tryBody_18 N n x1 x2 σ = some σ' → W p l e rm_X2_tryBody s m args below meth c H locs 0 0 (MQ below (xPost KX g none σ') args s 0 0 (xA KX g.q)) (F0 m 18 ls []) := by
  have hx := C.1
  have hb := C.2.1
  intro n
  induction n with
  | zero => intro x1 x2 σ H locs ls hW hl h; rw [f_X2_tryBody_18] at h; cases h
  | succ n ih =>
    intro x1 x2 σ H locs ls hW hl h
    rw [f_X2_tryBody_18] at h
    refine lv_iload_n hx hb dX2_tryBody_18 rfl (lv_at hl 2 rfl) ?_
    refine lv_aload_n hx hb dX2_tryBody_19 rfl (lv_at hl 0 rfl) ?_
    refine xg_r C hW fg_2_47 KX_46 rfl dX2_tryBody_20 ?_
    refine xg_i C hW fg_2_101 KX_1 rfl (v := 1200) rfl (x := σ.1 1200 0) rfl dX2_tryBody_23 ?_
    refine lv_icmp_ge (tgt := 65) hx hb dX2_tryBody_26 (by decide) (fun c3 => ?_) (fun c3 => ?_)
    · have h := xit c3 h
      cases h
      exact xr_v C hW dX2_tryBody_65
    · have h := xif c3 h
      refine lv_iload_n hx hb dX2_tryBody_29 rfl (lv_at hl 1 rfl) ?_
      refine lv_bipush (v := 12) hx hb dX2_tryBody_30 rfl ?_
      refine lv_icmp_ge (tgt := 65) hx hb dX2_tryBody_32 (by decide) (fun c4 => ?_) (fun c4 => ?_)
      · have h := xit c4 h
        cases h
        exact xr_v C hW dX2_tryBody_65
      · have h := xif c4 h
        refine lv_aload_n hx hb dX2_tryBody_35 rfl (lv_at hl 0 rfl) ?_
        refine xg_r C hW fg_2_51 KX_46 rfl dX2_tryBody_36 ?_
        refine lv_iload_n hx hb dX2_tryBody_39 rfl (lv_at hl 2 rfl) ?_
        obtain ⟨r5_, e5, h⟩ := xbo h
        refine xc_V (As := [.int x2]) (rest := []) C hW (m_X7_isOfKind x2 _ e5) mf_X7_isOfKind mv_X7_isOfKind ml_X2_117 ⟨rfl, rfl⟩ ⟨Nat.le_of_ble_eq_true rfl, Nat.le_of_ble_eq_true rfl⟩ KX_38 rfl hl.1 rfl rfl (Nat.le_of_ble_eq_true rfl) dX2_tryBody_40 (fun H locs hW => W.eq (g2 := F0 m 43 ls [.int r5_]) rfl ?_)
        refine lv_if_eq (tgt := 59) hx hb dX2_tryBody_43 (by decide) (fun c6 => ?_) (fun c6 => ?_)
        · have h := xit c6 h
          refine lv_iinc (v := x2 + 1) (lv' := [(2, .int (x2 + 1)), (0, .ref (g.q 46)), (1, .int x1)]) hx hb dX2_tryBody_59 hl (k := 2) rfl rfl (Nat.le_of_ble_eq_true rfl) rfl (fun ls hl => ?_)
          refine lv_goto (tgt := 18) hx hb dX2_tryBody_62 (by decide) ?_
          exact ih x1 (x2 + 1) _ _ _ _ hW (lv_sub hl [1, 2, 0] rfl) h
        · have h := xif c6 h
          refine lv_aload_n hx hb dX2_tryBody_46 rfl (lv_at hl 0 rfl) ?_
          refine lv_iload_n hx hb dX2_tryBody_47 rfl (lv_at hl 1 rfl) ?_
          refine lv_iload_n hx hb dX2_tryBody_48 rfl (lv_at hl 2 rfl) ?_
          obtain ⟨σ7, e7, h⟩ := xbo h
          refine xc_V (As := [.int x1, .int x2]) (rest := []) C hW (m_X2_putTrial N x1 x2 _ e7) mf_X2_putTrial mv_X2_putTrial ml_X2_155 ⟨rfl, rfl⟩ ⟨Nat.le_of_ble_eq_true rfl, Nat.le_of_ble_eq_true rfl⟩ KX_46 rfl hl.1 rfl rfl (Nat.le_of_ble_eq_true rfl) dX2_tryBody_49 (fun H locs hW => W.eq (g2 := F0 m 52 ls []) rfl ?_)
          refine lv_aload_n hx hb dX2_tryBody_52 rfl (lv_at hl 0 rfl) ?_
          refine lv_iload_n hx hb dX2_tryBody_53 rfl (lv_at hl 1 rfl) ?_
          refine lv_iconst (v := 1) hx hb dX2_tryBody_54 rfl ?_
          refine lv_iadd hx hb dX2_tryBody_55 ?_
          obtain ⟨σ8, e8, h⟩ := xbo h
          refine xc_V (As := [.int (x1 + 1)]) (rest := []) C hW (m_X2_keepTrial (x1 + 1) _ e8) mf_X2_keepTrial mv_X2_keepTrial ml_X2_175 ⟨rfl, rfl⟩ ⟨Nat.le_of_ble_eq_true rfl, Nat.le_of_ble_eq_true rfl⟩ KX_46 rfl hl.1 rfl rfl (Nat.le_of_ble_eq_true rfl) dX2_tryBody_56 (fun H locs hW => W.eq (g2 := F0 m 59 ls []) rfl ?_)
          refine lv_iinc (v := x2 + 1) (lv' := [(2, .int (x2 + 1)), (0, .ref (g.q 46)), (1, .int x1)]) hx hb dX2_tryBody_59 hl (k := 2) rfl rfl (Nat.le_of_ble_eq_true rfl) rfl (fun ls hl => ?_)
          refine lv_goto (tgt := 18) hx hb dX2_tryBody_62 (by decide) ?_
          exact ih x1 (x2 + 1) _ _ _ _ hW (lv_sub hl [1, 2, 0] rfl) h
set_option maxRecDepth 4000 in
theorem m_X2_tryBody (N : Nat) (x1 : Int32) (σ : St) {σ' : St} (h : f_X2_tryBody N x1 σ = some σ') : xM l KX g yX2_tryBody cX2_tryBody 3 none rm_X2_tryBody [.ref (g.q 46), .int x1] σ none σ' := by
  refine xmet pn_X2 rfl (Nat.le_of_ble_eq_true rfl) (lv := [(0, .ref (g.q 46)), (1, .int x1)]) rfl (fun p e s m args below meth c ls C hW hl => ?_)
  have hx := C.1
  have hb := C.2.1
  unfold f_X2_tryBody at h
  refine lv_aload_n hx hb dX2_tryBody_0 rfl (lv_at hl 0 rfl) ?_
  refine xg_r C hW fg_2_51 KX_46 rfl dX2_tryBody_1 ?_
  refine xc_V (As := []) (rest := []) C hW (m_X7_hasKind _ rfl) mf_X7_hasKind mv_X7_hasKind ml_X2_113 ⟨rfl, rfl⟩ ⟨Nat.le_of_ble_eq_true rfl, Nat.le_of_ble_eq_true rfl⟩ KX_38 rfl hl.1 rfl rfl (Nat.le_of_ble_eq_true rfl) dX2_tryBody_4 (fun H locs hW => W.eq (g2 := F0 m 7 ls [.int (f_X7_hasKind σ)]) rfl ?_)
  refine lv_if_ne (tgt := 16) hx hb dX2_tryBody_7 (by decide) (fun c1 => ?_) (fun c1 => ?_)
  · have h := xif c1 h
    refine lv_iconst (v := 0) hx hb dX2_tryBody_16 rfl ?_
    refine lv_istore_n (lv' := [(2, .int 0), (0, .ref (g.q 46)), (1, .int x1)]) hx hb dX2_tryBody_17 rfl hl (Nat.le_of_ble_eq_true rfl) rfl (fun ls hl => ?_)
    exact w_X2_tryBody_18 N C N x1 0 _ _ _ _ hW (lv_sub hl [1, 2, 0] rfl) h
  · have h := xit c1 h
    refine lv_aload_n hx hb dX2_tryBody_10 rfl (lv_at hl 0 rfl) ?_
    refine lv_iload_n hx hb dX2_tryBody_11 rfl (lv_at hl 1 rfl) ?_
    obtain ⟨σ2, e2, h⟩ := xbo h
    refine xc_V (As := [.int x1]) (rest := []) C hW (m_X2_keepTrial x1 _ e2) mf_X2_keepTrial mv_X2_keepTrial ml_X2_175 ⟨rfl, rfl⟩ ⟨Nat.le_of_ble_eq_true rfl, Nat.le_of_ble_eq_true rfl⟩ KX_46 rfl hl.1 rfl rfl (Nat.le_of_ble_eq_true rfl) dX2_tryBody_12 (fun H locs hW => W.eq (g2 := F0 m 15 ls []) rfl ?_)
    cases h
    exact xr_v C hW dX2_tryBody_15
end
