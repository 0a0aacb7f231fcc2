theorem dX6_takeValue_0 : decode cX6_takeValue 0 = .ok (.aload_n 0, 1) := by decide +kernel
theorem dX6_takeValue_1 : decode cX6_takeValue 1 = .ok (.getfield 22, 3) := by decide +kernel
theorem dX6_takeValue_4 : decode cX6_takeValue 4 = .ok (.iload_n 2, 1) := by decide +kernel
theorem dX6_takeValue_5 : decode cX6_takeValue 5 = .ok (.iconst 0, 1) := by decide +kernel
theorem dX6_takeValue_6 : decode cX6_takeValue 6 = .ok (.iastore, 1) := by decide +kernel
theorem dX6_takeValue_7 : decode cX6_takeValue 7 = .ok (.aload_n 0, 1) := by decide +kernel
theorem dX6_takeValue_8 : decode cX6_takeValue 8 = .ok (.getfield 25, 3) := by decide +kernel
theorem dX6_takeValue_11 : decode cX6_takeValue 11 = .ok (.iload_n 2, 1) := by decide +kernel
theorem dX6_takeValue_12 : decode cX6_takeValue 12 = .ok (.iconst 0, 1) := by decide +kernel
theorem dX6_takeValue_13 : decode cX6_takeValue 13 = .ok (.iastore, 1) := by decide +kernel
theorem dX6_takeValue_14 : decode cX6_takeValue 14 = .ok (.aload_n 0, 1) := by decide +kernel
theorem dX6_takeValue_15 : decode cX6_takeValue 15 = .ok (.getfield 28, 3) := by decide +kernel
theorem dX6_takeValue_18 : decode cX6_takeValue 18 = .ok (.iload_n 2, 1) := by decide +kernel
theorem dX6_takeValue_19 : decode cX6_takeValue 19 = .ok (.iconst 0, 1) := by decide +kernel
theorem dX6_takeValue_20 : decode cX6_takeValue 20 = .ok (.iastore, 1) := by decide +kernel
theorem dX6_takeValue_21 : decode cX6_takeValue 21 = .ok (.aload_n 0, 1) := by decide +kernel
theorem dX6_takeValue_22 : decode cX6_takeValue 22 = .ok (.getfield 31, 3) := by decide +kernel
theorem dX6_takeValue_25 : decode cX6_takeValue 25 = .ok (.iload_n 2, 1) := by decide +kernel
theorem dX6_takeValue_26 : decode cX6_takeValue 26 = .ok (.lconst 0, 1) := by decide +kernel
theorem dX6_takeValue_27 : decode cX6_takeValue 27 = .ok (.lastore, 1) := by decide +kernel
theorem dX6_takeValue_28 : decode cX6_takeValue 28 = .ok (.aload_n 1, 1) := by decide +kernel
theorem dX6_takeValue_29 : decode cX6_takeValue 29 = .ok (.invokevirtual 59, 3) := by decide +kernel
theorem dX6_takeValue_32 : decode cX6_takeValue 32 = .ok (.aload_n 1, 1) := by decide +kernel
theorem dX6_takeValue_33 : decode cX6_takeValue 33 = .ok (.ldc 122, 2) := by decide +kernel
theorem dX6_takeValue_35 : decode cX6_takeValue 35 = .ok (.invokevirtual 67, 3) := by decide +kernel
theorem dX6_takeValue_38 : decode cX6_takeValue 38 = .ok (.ifCond .eq 10, 3) := by decide +kernel
theorem dX6_takeValue_41 : decode cX6_takeValue 41 = .ok (.aload_n 0, 1) := by decide +kernel
theorem dX6_takeValue_42 : decode cX6_takeValue 42 = .ok (.aload_n 1, 1) := by decide +kernel
theorem dX6_takeValue_43 : decode cX6_takeValue 43 = .ok (.iload_n 2, 1) := by decide +kernel
theorem dX6_takeValue_44 : decode cX6_takeValue 44 = .ok (.invokevirtual 124, 3) := by decide +kernel
theorem dX6_takeValue_47 : decode cX6_takeValue 47 = .ok (.ireturn, 1) := by decide +kernel
theorem dX6_takeValue_48 : decode cX6_takeValue 48 = .ok (.aload_n 1, 1) := by decide +kernel
theorem dX6_takeValue_49 : decode cX6_takeValue 49 = .ok (.ldc 127, 2) := by decide +kernel
theorem dX6_takeValue_51 : decode cX6_takeValue 51 = .ok (.invokevirtual 67, 3) := by decide +kernel
theorem dX6_takeValue_54 : decode cX6_takeValue 54 = .ok (.ifCond .eq 11, 3) := by decide +kernel
theorem dX6_takeValue_57 : decode cX6_takeValue 57 = .ok (.aload_n 0, 1) := by decide +kernel
theorem dX6_takeValue_58 : decode cX6_takeValue 58 = .ok (.aload_n 1, 1) := by decide +kernel
theorem dX6_takeValue_59 : decode cX6_takeValue 59 = .ok (.iload_n 2, 1) := by decide +kernel
theorem dX6_takeValue_60 : decode cX6_takeValue 60 = .ok (.iconst 2, 1) := by decide +kernel
theorem dX6_takeValue_61 : decode cX6_takeValue 61 = .ok (.invokevirtual 129, 3) := by decide +kernel
theorem dX6_takeValue_64 : decode cX6_takeValue 64 = .ok (.ireturn, 1) := by decide +kernel
theorem dX6_takeValue_65 : decode cX6_takeValue 65 = .ok (.aload_n 1, 1) := by decide +kernel
theorem dX6_takeValue_66 : decode cX6_takeValue 66 = .ok (.ldc 132, 2) := by decide +kernel
theorem dX6_takeValue_68 : decode cX6_takeValue 68 = .ok (.invokevirtual 67, 3) := by decide +kernel
theorem dX6_takeValue_71 : decode cX6_takeValue 71 = .ok (.ifCond .eq 13, 3) := by decide +kernel
theorem dX6_takeValue_74 : decode cX6_takeValue 74 = .ok (.aload_n 0, 1) := by decide +kernel
theorem dX6_takeValue_75 : decode cX6_takeValue 75 = .ok (.aload_n 1, 1) := by decide +kernel
theorem dX6_takeValue_76 : decode cX6_takeValue 76 = .ok (.iload_n 2, 1) := by decide +kernel
theorem dX6_takeValue_77 : decode cX6_takeValue 77 = .ok (.iconst 3, 1) := by decide +kernel
theorem dX6_takeValue_78 : decode cX6_takeValue 78 = .ok (.invokevirtual 129, 3) := by decide +kernel
theorem dX6_takeValue_81 : decode cX6_takeValue 81 = .ok (.ifCond .eq 7, 3) := by decide +kernel
theorem dX6_takeValue_84 : decode cX6_takeValue 84 = .ok (.iconst 1, 1) := by decide +kernel
theorem dX6_takeValue_85 : decode cX6_takeValue 85 = .ok (.goto 4, 3) := by decide +kernel
theorem dX6_takeValue_88 : decode cX6_takeValue 88 = .ok (.iconst 0, 1) := by decide +kernel
theorem dX6_takeValue_89 : decode cX6_takeValue 89 = .ok (.ireturn, 1) := by decide +kernel
abbrev rm_X6_takeValue : Room := { frames := 5, cells := 0, slots := 0, locals := 142 }
def f_X6_takeValue (o : Nat) (N : Nat) (x2 : Int32) (σ : St) : Option (Int32 × St) := grd (ib x2 40) (grd (ib x2 40) (grd (ib x2 40) (grd (ib x2 40) (bo (f_X8_next N (sl (si (si (si σ (8 * o + 4 - 6) x2.toNatClampNeg 0) (8 * o + 5 - 6) x2.toNatClampNeg 0) (8 * o + 6 - 6) x2.toNatClampNeg 0) (8 * o + 7 - 6) x2.toNatClampNeg 0)) (fun σ5 => bo (f_X8_isWord 1 N σ5) (fun r6_ => (if r6_ = 0 then bo (f_X8_isWord 2 N σ5) (fun r8_ => (if r8_ = 0 then bo (f_X8_isWord 3 N σ5) (fun r10_ => (if r10_ = 0 then some (1, σ5) else bd (f_X6_takeMeaning o N x2 3 σ5) (fun r12_ σ12 => (if r12_ = 0 then some (0, σ12) else some (1, σ12))))) else bd (f_X6_takeMeaning o N x2 2 σ5) (fun r14_ σ14 => grd (zbb r14_) (some (r14_, σ14))))) else bd (f_X6_takeSounds o N x2 σ5) (fun r16_ σ16 => grd (zbb r16_) (some (r16_, σ16))))))))))
section
variable {p : Program} {l : Launch} {e : Env} {s : State} {m : MethodId} {args : Array Value} {below : List Frame} {meth : Method} {c : Code} {g : XG}
set_option maxRecDepth 4000 in
theorem m_X6_takeValue (o : Nat) (ho : o = 1 ∨ o = 2) (N : Nat) (x2 : Int32) (σ : St) {r : Int32} {σ' : St} (h : f_X6_takeValue o N x2 σ = some (r, σ')) : xM l KX g yX6_takeValue cX6_takeValue 3 (some .boolean) rm_X6_takeValue [.ref (g.q o), .ref (g.q 19), .int x2] σ (some (.int r)) σ' := by
  refine xmet pn_X6 rfl (Nat.le_of_ble_eq_true rfl) (lv := [(0, .ref (g.q o)), (1, .ref (g.q 19)), (2, .int x2)]) rfl (fun p e s m args below meth c ls C hW hl => ?_)
  have hx := C.1
  have hb := C.2.1
  unfold f_X6_takeValue at h
  refine lv_aload_n hx hb dX6_takeValue_0 rfl (lv_at hl 0 rfl) ?_
  refine xg_r C hW fg_6_22 (KX_sl ho) rfl dX6_takeValue_1 ?_
  refine lv_iload_n hx hb dX6_takeValue_4 rfl (lv_at hl 2 rfl) ?_
  refine lv_iconst (v := 0) hx hb dX6_takeValue_5 rfl ?_
  obtain ⟨g1, h⟩ := xgd h
  refine xs_i C hW (KX_sl_4 ho) g1 dX6_takeValue_6 (fun H locs hW => ?_)
  refine lv_aload_n hx hb dX6_takeValue_7 rfl (lv_at hl 0 rfl) ?_
  refine xg_r C hW fg_6_25 (KX_sl ho) rfl dX6_takeValue_8 ?_
  refine lv_iload_n hx hb dX6_takeValue_11 rfl (lv_at hl 2 rfl) ?_
  refine lv_iconst (v := 0) hx hb dX6_takeValue_12 rfl ?_
  obtain ⟨g2, h⟩ := xgd h
  refine xs_i C hW (KX_sl_5 ho) g2 dX6_takeValue_13 (fun H locs hW => ?_)
  refine lv_aload_n hx hb dX6_takeValue_14 rfl (lv_at hl 0 rfl) ?_
  refine xg_r C hW fg_6_28 (KX_sl ho) rfl dX6_takeValue_15 ?_
  refine lv_iload_n hx hb dX6_takeValue_18 rfl (lv_at hl 2 rfl) ?_
  refine lv_iconst (v := 0) hx hb dX6_takeValue_19 rfl ?_
  obtain ⟨g3, h⟩ := xgd h
  refine xs_i C hW (KX_sl_6 ho) g3 dX6_takeValue_20 (fun H locs hW => ?_)
  refine lv_aload_n hx hb dX6_takeValue_21 rfl (lv_at hl 0 rfl) ?_
  refine xg_r C hW fg_6_31 (KX_sl ho) rfl dX6_takeValue_22 ?_
  refine lv_iload_n hx hb dX6_takeValue_25 rfl (lv_at hl 2 rfl) ?_
  refine lv_lconst (v := 0) hx hb dX6_takeValue_26 rfl ?_
  obtain ⟨g4, h⟩ := xgd h
  refine xs_l C hW (KX_sl_7 ho) g4 dX6_takeValue_27 (fun H locs hW => ?_)
  refine lv_aload_n hx hb dX6_takeValue_28 rfl (lv_at hl 1 rfl) ?_
  obtain ⟨σ5, e5, h⟩ := xbo h
  refine xc_V (As := []) (rest := []) C hW (m_X8_next N _ e5) mf_X8_next mv_X8_next ml_X6_59 ⟨rfl, rfl⟩ ⟨Nat.le_of_ble_eq_true rfl, Nat.le_of_ble_eq_true rfl⟩ KX_19 rfl hl.1 rfl rfl (Nat.le_of_ble_eq_true rfl) dX6_takeValue_29 (fun H locs hW => W.eq (g2 := F0 m 32 ls []) rfl ?_)
  refine lv_aload_n hx hb dX6_takeValue_32 rfl (lv_at hl 1 rfl) ?_
  refine xx_s (i := 1) C rfl dX6_takeValue_33 ?_
  obtain ⟨r6_, e6, h⟩ := xbo h
  refine xc_V (As := [.ref (g.aK 1)]) (rest := []) C hW (m_X8_isWord 1 (by decide) N _ e6) mf_X8_isWord mv_X8_isWord ml_X6_67 ⟨rfl, rfl⟩ ⟨Nat.le_of_ble_eq_true rfl, Nat.le_of_ble_eq_true rfl⟩ KX_19 rfl hl.1 rfl rfl (Nat.le_of_ble_eq_true rfl) dX6_takeValue_35 (fun H locs hW => W.eq (g2 := F0 m 38 ls [.int r6_]) rfl ?_)
  refine lv_if_eq (tgt := 48) hx hb dX6_takeValue_38 (by decide) (fun c7 => ?_) (fun c7 => ?_)
  · have h := xit c7 h
    refine lv_aload_n hx hb dX6_takeValue_48 rfl (lv_at hl 1 rfl) ?_
    refine xx_s (i := 2) C rfl dX6_takeValue_49 ?_
    obtain ⟨r8_, e8, h⟩ := xbo h
    refine xc_V (As := [.ref (g.aK 2)]) (rest := []) C hW (m_X8_isWord 2 (by decide) N _ e8) mf_X8_isWord mv_X8_isWord ml_X6_67 ⟨rfl, rfl⟩ ⟨Nat.le_of_ble_eq_true rfl, Nat.le_of_ble_eq_true rfl⟩ KX_19 rfl hl.1 rfl rfl (Nat.le_of_ble_eq_true rfl) dX6_takeValue_51 (fun H locs hW => W.eq (g2 := F0 m 54 ls [.int r8_]) rfl ?_)
    refine lv_if_eq (tgt := 65) hx hb dX6_takeValue_54 (by decide) (fun c9 => ?_) (fun c9 => ?_)
    · have h := xit c9 h
      refine lv_aload_n hx hb dX6_takeValue_65 rfl (lv_at hl 1 rfl) ?_
      refine xx_s (i := 3) C rfl dX6_takeValue_66 ?_
      obtain ⟨r10_, e10, h⟩ := xbo h
      refine xc_V (As := [.ref (g.aK 3)]) (rest := []) C hW (m_X8_isWord 3 (by decide) N _ e10) mf_X8_isWord mv_X8_isWord ml_X6_67 ⟨rfl, rfl⟩ ⟨Nat.le_of_ble_eq_true rfl, Nat.le_of_ble_eq_true rfl⟩ KX_19 rfl hl.1 rfl rfl (Nat.le_of_ble_eq_true rfl) dX6_takeValue_68 (fun H locs hW => W.eq (g2 := F0 m 71 ls [.int r10_]) rfl ?_)
      refine lv_if_eq (tgt := 84) hx hb dX6_takeValue_71 (by decide) (fun c11 => ?_) (fun c11 => ?_)
      · have h := xit c11 h
        refine lv_iconst (v := 1) hx hb dX6_takeValue_84 rfl ?_
        refine lv_goto (tgt := 89) hx hb dX6_takeValue_85 (by decide) ?_
        cases h
        exact xr_z C hW (by decide) dX6_takeValue_89
      · have h := xif c11 h
        refine lv_aload_n hx hb dX6_takeValue_74 rfl (lv_at hl 0 rfl) ?_
        refine lv_aload_n hx hb dX6_takeValue_75 rfl (lv_at hl 1 rfl) ?_
        refine lv_iload_n hx hb dX6_takeValue_76 rfl (lv_at hl 2 rfl) ?_
        refine lv_iconst (v := 3) hx hb dX6_takeValue_77 rfl ?_
        obtain ⟨r12_, σ12, e12, h⟩ := xbd h
        refine xc_V (As := [.ref (g.q 19), .int x2, .int 3]) (rest := []) C hW (m_X6_takeMeaning o ho N x2 3 _ e12) mf_X6_takeMeaning mv_X6_takeMeaning ml_X6_129 ⟨rfl, rfl⟩ ⟨Nat.le_of_ble_eq_true rfl, Nat.le_of_ble_eq_true rfl⟩ (KX_sl ho) rfl hl.1 rfl rfl (Nat.le_of_ble_eq_true rfl) dX6_takeValue_78 (fun H locs hW => W.eq (g2 := F0 m 81 ls [.int r12_]) rfl ?_)
        refine lv_if_eq (tgt := 88) hx hb dX6_takeValue_81 (by decide) (fun c13 => ?_) (fun c13 => ?_)
        · have h := xit c13 h
          refine lv_iconst (v := 0) hx hb dX6_takeValue_88 rfl ?_
          cases h
          exact xr_z C hW (by decide) dX6_takeValue_89
        · have h := xif c13 h
          refine lv_iconst (v := 1) hx hb dX6_takeValue_84 rfl ?_
          refine lv_goto (tgt := 89) hx hb dX6_takeValue_85 (by decide) ?_
          cases h
          exact xr_z C hW (by decide) dX6_takeValue_89
    · have h := xif c9 h
      refine lv_aload_n hx hb dX6_takeValue_57 rfl (lv_at hl 0 rfl) ?_
      refine lv_aload_n hx hb dX6_takeValue_58 rfl (lv_at hl 1 rfl) ?_
      refine lv_iload_n hx hb dX6_takeValue_59 rfl (lv_at hl 2 rfl) ?_
      refine lv_iconst (v := 2) hx hb dX6_takeValue_60 rfl ?_
      obtain ⟨r14_, σ14, e14, h⟩ := xbd h
      refine xc_V (As := [.ref (g.q 19), .int x2, .int 2]) (rest := []) C hW (m_X6_takeMeaning o ho N x2 2 _ e14) mf_X6_takeMeaning mv_X6_takeMeaning ml_X6_129 ⟨rfl, rfl⟩ ⟨Nat.le_of_ble_eq_true rfl, Nat.le_of_ble_eq_true rfl⟩ (KX_sl ho) rfl hl.1 rfl rfl (Nat.le_of_ble_eq_true rfl) dX6_takeValue_61 (fun H locs hW => W.eq (g2 := F0 m 64 ls [.int r14_]) rfl ?_)
      obtain ⟨g15, h⟩ := xgd h
      cases h
      exact xr_z C hW g15 dX6_takeValue_64
  · have h := xif c7 h
    refine lv_aload_n hx hb dX6_takeValue_41 rfl (lv_at hl 0 rfl) ?_
    refine lv_aload_n hx hb dX6_takeValue_42 rfl (lv_at hl 1 rfl) ?_
    refine lv_iload_n hx hb dX6_takeValue_43 rfl (lv_at hl 2 rfl) ?_
    obtain ⟨r16_, σ16, e16, h⟩ := xbd h
    refine xc_V (As := [.ref (g.q 19), .int x2]) (rest := []) C hW (m_X6_takeSounds o ho N x2 _ e16) mf_X6_takeSounds mv_X6_takeSounds ml_X6_124 ⟨rfl, rfl⟩ ⟨Nat.le_of_ble_eq_true rfl, Nat.le_of_ble_eq_true rfl⟩ (KX_sl ho) rfl hl.1 rfl rfl (Nat.le_of_ble_eq_true rfl) dX6_takeValue_44 (fun H locs hW => W.eq (g2 := F0 m 47 ls [.int r16_]) rfl ?_)
    obtain ⟨g17, h⟩ := xgd h
    cases h
    exact xr_z C hW g17 dX6_takeValue_47
end
theorem dX6_takeSign_0 : decode cX6_takeSign 0 = .ok (.aload_n 0, 1) := by decide +kernel
theorem dX6_takeSign_1 : decode cX6_takeSign 1 = .ok (.getfield 46, 3) := by decide +kernel
theorem dX6_takeSign_4 : decode cX6_takeSign 4 = .ok (.bipush 40, 2) := by decide +kernel
theorem dX6_takeSign_6 : decode cX6_takeSign 6 = .ok (.if_icmp .lt 9, 3) := by decide +kernel
theorem dX6_takeSign_9 : decode cX6_takeSign 9 = .ok (.aload_n 1, 1) := by decide +kernel
theorem dX6_takeSign_10 : decode cX6_takeSign 10 = .ok (.iconst 4, 1) := by decide +kernel
theorem dX6_takeSign_11 : decode cX6_takeSign 11 = .ok (.invokevirtual 82, 3) := by decide +kernel
theorem dX6_takeSign_14 : decode cX6_takeSign 14 = .ok (.ireturn, 1) := by decide +kernel
theorem dX6_takeSign_15 : decode cX6_takeSign 15 = .ok (.aload_n 0, 1) := by decide +kernel
theorem dX6_takeSign_16 : decode cX6_takeSign 16 = .ok (.getfield 46, 3) := by decide +kernel
theorem dX6_takeSign_19 : decode cX6_takeSign 19 = .ok (.istore_n 2, 1) := by decide +kernel
theorem dX6_takeSign_20 : decode cX6_takeSign 20 = .ok (.aload_n 1, 1) := by decide +kernel
theorem dX6_takeSign_21 : decode cX6_takeSign 21 = .ok (.invokevirtual 59, 3) := by decide +kernel
theorem dX6_takeSign_24 : decode cX6_takeSign 24 = .ok (.aload_n 1, 1) := by decide +kernel
theorem dX6_takeSign_25 : decode cX6_takeSign 25 = .ok (.getfield 62, 3) := by decide +kernel
theorem dX6_takeSign_28 : decode cX6_takeSign 28 = .ok (.iconst 1, 1) := by decide +kernel
theorem dX6_takeSign_29 : decode cX6_takeSign 29 = .ok (.if_icmp .eq 9, 3) := by decide +kernel
theorem dX6_takeSign_32 : decode cX6_takeSign 32 = .ok (.aload_n 1, 1) := by decide +kernel
theorem dX6_takeSign_33 : decode cX6_takeSign 33 = .ok (.iconst 1, 1) := by decide +kernel
theorem dX6_takeSign_34 : decode cX6_takeSign 34 = .ok (.invokevirtual 82, 3) := by decide +kernel
theorem dX6_takeSign_37 : decode cX6_takeSign 37 = .ok (.ireturn, 1) := by decide +kernel
theorem dX6_takeSign_38 : decode cX6_takeSign 38 = .ok (.aload_n 0, 1) := by decide +kernel
theorem dX6_takeSign_39 : decode cX6_takeSign 39 = .ok (.aload_n 1, 1) := by decide +kernel
theorem dX6_takeSign_40 : decode cX6_takeSign 40 = .ok (.getfield 110, 3) := by decide +kernel
theorem dX6_takeSign_43 : decode cX6_takeSign 43 = .ok (.invokevirtual 114, 3) := by decide +kernel
theorem dX6_takeSign_46 : decode cX6_takeSign 46 = .ok (.ifCond .lt 9, 3) := by decide +kernel
theorem dX6_takeSign_49 : decode cX6_takeSign 49 = .ok (.aload_n 1, 1) := by decide +kernel
theorem dX6_takeSign_50 : decode cX6_takeSign 50 = .ok (.iconst 3, 1) := by decide +kernel
theorem dX6_takeSign_51 : decode cX6_takeSign 51 = .ok (.invokevirtual 82, 3) := by decide +kernel
theorem dX6_takeSign_54 : decode cX6_takeSign 54 = .ok (.ireturn, 1) := by decide +kernel
theorem dX6_takeSign_55 : decode cX6_takeSign 55 = .ok (.aload_n 0, 1) := by decide +kernel
theorem dX6_takeSign_56 : decode cX6_takeSign 56 = .ok (.getfield 11, 3) := by decide +kernel
theorem dX6_takeSign_59 : decode cX6_takeSign 59 = .ok (.iload_n 2, 1) := by decide +kernel
theorem dX6_takeSign_60 : decode cX6_takeSign 60 = .ok (.aload_n 1, 1) := by decide +kernel
theorem dX6_takeSign_61 : decode cX6_takeSign 61 = .ok (.getfield 110, 3) := by decide +kernel
theorem dX6_takeSign_64 : decode cX6_takeSign 64 = .ok (.lastore, 1) := by decide +kernel
theorem dX6_takeSign_65 : decode cX6_takeSign 65 = .ok (.aload_n 1, 1) := by decide +kernel
theorem dX6_takeSign_66 : decode cX6_takeSign 66 = .ok (.iconst 1, 1) := by decide +kernel
theorem dX6_takeSign_67 : decode cX6_takeSign 67 = .ok (.bipush 60, 2) := by decide +kernel
theorem dX6_takeSign_69 : decode cX6_takeSign 69 = .ok (.invokestatic 92, 3) := by decide +kernel
theorem dX6_takeSign_72 : decode cX6_takeSign 72 = .ok (.ifCond .ne 5, 3) := by decide +kernel
theorem dX6_takeSign_75 : decode cX6_takeSign 75 = .ok (.iconst 0, 1) := by decide +kernel
theorem dX6_takeSign_76 : decode cX6_takeSign 76 = .ok (.ireturn, 1) := by decide +kernel
theorem dX6_takeSign_77 : decode cX6_takeSign 77 = .ok (.aload_n 0, 1) := by decide +kernel
theorem dX6_takeSign_78 : decode cX6_takeSign 78 = .ok (.getfield 15, 3) := by decide +kernel
theorem dX6_takeSign_81 : decode cX6_takeSign 81 = .ok (.iload_n 2, 1) := by decide +kernel
theorem dX6_takeSign_82 : decode cX6_takeSign 82 = .ok (.aload_n 1, 1) := by decide +kernel
theorem dX6_takeSign_83 : decode cX6_takeSign 83 = .ok (.getfield 96, 3) := by decide +kernel
theorem dX6_takeSign_86 : decode cX6_takeSign 86 = .ok (.iastore, 1) := by decide +kernel
theorem dX6_takeSign_87 : decode cX6_takeSign 87 = .ok (.aload_n 1, 1) := by decide +kernel
theorem dX6_takeSign_88 : decode cX6_takeSign 88 = .ok (.iconst 1, 1) := by decide +kernel
theorem dX6_takeSign_89 : decode cX6_takeSign 89 = .ok (.bipush 60, 2) := by decide +kernel
theorem dX6_takeSign_91 : decode cX6_takeSign 91 = .ok (.invokestatic 92, 3) := by decide +kernel
theorem dX6_takeSign_94 : decode cX6_takeSign 94 = .ok (.ifCond .ne 5, 3) := by decide +kernel
theorem dX6_takeSign_97 : decode cX6_takeSign 97 = .ok (.iconst 0, 1) := by decide +kernel
theorem dX6_takeSign_98 : decode cX6_takeSign 98 = .ok (.ireturn, 1) := by decide +kernel
theorem dX6_takeSign_99 : decode cX6_takeSign 99 = .ok (.aload_n 0, 1) := by decide +kernel
theorem dX6_takeSign_100 : decode cX6_takeSign 100 = .ok (.getfield 19, 3) := by decide +kernel
theorem dX6_takeSign_103 : decode cX6_takeSign 103 = .ok (.iload_n 2, 1) := by decide +kernel
theorem dX6_takeSign_104 : decode cX6_takeSign 104 = .ok (.aload_n 1, 1) := by decide +kernel
theorem dX6_takeSign_105 : decode cX6_takeSign 105 = .ok (.getfield 96, 3) := by decide +kernel
theorem dX6_takeSign_108 : decode cX6_takeSign 108 = .ok (.iastore, 1) := by decide +kernel
theorem dX6_takeSign_109 : decode cX6_takeSign 109 = .ok (.aload_n 0, 1) := by decide +kernel
theorem dX6_takeSign_110 : decode cX6_takeSign 110 = .ok (.aload_n 1, 1) := by decide +kernel
theorem dX6_takeSign_111 : decode cX6_takeSign 111 = .ok (.iload_n 2, 1) := by decide +kernel
theorem dX6_takeSign_112 : decode cX6_takeSign 112 = .ok (.invokevirtual 118, 3) := by decide +kernel
theorem dX6_takeSign_115 : decode cX6_takeSign 115 = .ok (.ifCond .ne 5, 3) := by decide +kernel
theorem dX6_takeSign_118 : decode cX6_takeSign 118 = .ok (.iconst 0, 1) := by decide +kernel
theorem dX6_takeSign_119 : decode cX6_takeSign 119 = .ok (.ireturn, 1) := by decide +kernel
theorem dX6_takeSign_120 : decode cX6_takeSign 120 = .ok (.aload_n 0, 1) := by decide +kernel
theorem dX6_takeSign_121 : decode cX6_takeSign 121 = .ok (.dup, 1) := by decide +kernel
theorem dX6_takeSign_122 : decode cX6_takeSign 122 = .ok (.getfield 46, 3) := by decide +kernel
theorem dX6_takeSign_125 : decode cX6_takeSign 125 = .ok (.iconst 1, 1) := by decide +kernel
theorem dX6_takeSign_126 : decode cX6_takeSign 126 = .ok (.iadd, 1) := by decide +kernel
theorem dX6_takeSign_127 : decode cX6_takeSign 127 = .ok (.putfield 46, 3) := by decide +kernel
theorem dX6_takeSign_130 : decode cX6_takeSign 130 = .ok (.aload_n 1, 1) := by decide +kernel
theorem dX6_takeSign_131 : decode cX6_takeSign 131 = .ok (.bipush 59, 2) := by decide +kernel
theorem dX6_takeSign_133 : decode cX6_takeSign 133 = .ok (.invokevirtual 99, 3) := by decide +kernel
theorem dX6_takeSign_136 : decode cX6_takeSign 136 = .ok (.ifCond .ne 11, 3) := by decide +kernel
theorem dX6_takeSign_139 : decode cX6_takeSign 139 = .ok (.aload_n 1, 1) := by decide +kernel
theorem dX6_takeSign_140 : decode cX6_takeSign 140 = .ok (.iconst 1, 1) := by decide +kernel
theorem dX6_takeSign_141 : decode cX6_takeSign 141 = .ok (.invokevirtual 82, 3) := by decide +kernel
theorem dX6_takeSign_144 : decode cX6_takeSign 144 = .ok (.ifCond .eq 7, 3) := by decide +kernel
theorem dX6_takeSign_147 : decode cX6_takeSign 147 = .ok (.iconst 1, 1) := by decide +kernel
theorem dX6_takeSign_148 : decode cX6_takeSign 148 = .ok (.goto 4, 3) := by decide +kernel
theorem dX6_takeSign_151 : decode cX6_takeSign 151 = .ok (.iconst 0, 1) := by decide +kernel
theorem dX6_takeSign_152 : decode cX6_takeSign 152 = .ok (.ireturn, 1) := by decide +kernel
abbrev rm_X6_takeSign : Room := { frames := 6, cells := 0, slots := 0, locals := 164 }
def f_X6_takeSign (o : Nat) (N : Nat) (σ : St) : Option (Int32 × St) := (if (σ.1 (1000 + 200 * o + 0) 0) < 40 then bo (f_X8_next N σ) (fun σ2 => (if (σ2.1 4803 0) = 1 then bo (f_X6_find o N (σ2.2 4806 0) σ2) (fun r4_ => (if r4_ < 0 then grd (ib (σ.1 (1000 + 200 * o + 0) 0) 40) (bd (f_X6_takeNumber N 1 60 (sl σ2 (8 * o + 1 - 6) (σ.1 (1000 + 200 * o + 0) 0).toNatClampNeg (σ2.2 4806 0))) (fun r7_ σ7 => (if r7_ = 0 then some (0, σ7) else grd (ib (σ.1 (1000 + 200 * o + 0) 0) 40) (bd (f_X6_takeNumber N 1 60 (si σ7 (8 * o + 2 - 6) (σ.1 (1000 + 200 * o + 0) 0).toNatClampNeg (σ7.1 4809 0))) (fun r10_ σ10 => (if r10_ = 0 then some (0, σ10) else grd (ib (σ.1 (1000 + 200 * o + 0) 0) 40) (bd (f_X6_takeValue o N (σ.1 (1000 + 200 * o + 0) 0) (si σ10 (8 * o + 3 - 6) (σ.1 (1000 + 200 * o + 0) 0).toNatClampNeg (σ10.1 4809 0))) (fun r13_ σ13 => (if r13_ = 0 then some (0, σ13) else (if (f_X8_isMarked 59 (si σ13 (1000 + 200 * o + 0) 0 ((σ13.1 (1000 + 200 * o + 0) 0) + 1))) = 0 then bd (f_X8_refuse 1 (si σ13 (1000 + 200 * o + 0) 0 ((σ13.1 (1000 + 200 * o + 0) 0) + 1))) (fun r16_ σ16 => (if r16_ = 0 then some (0, σ16) else some (1, σ16))) else some (1, (si σ13 (1000 + 200 * o + 0) 0 ((σ13.1 (1000 + 200 * o + 0) 0) + 1))))))))))))) else bd (f_X8_refuse 3 σ2) (fun r18_ σ18 => grd (zbb r18_) (some (r18_, σ18))))) else bd (f_X8_refuse 1 σ2) (fun r20_ σ20 => grd (zbb r20_) (some (r20_, σ20))))) else bd (f_X8_refuse 4 σ) (fun r22_ σ22 => grd (zbb r22_) (some (r22_, σ22))))
section
variable {p : Program} {l : Launch} {e : Env} {s : State} {m : MethodId} {args : Array Value} {below : List Frame} {meth : Method} {c : Code} {g : XG}
set_option maxRecDepth 4000 in
theorem m_X6_takeSign (o : Nat) (ho : o = 1 ∨ o = 2) (N : Nat) (σ : St) {r : Int32} {σ' : St} (h : f_X6_takeSign o N σ = some (r, σ')) : xM l KX g yX6_takeSign cX6_takeSign 3 (some .boolean) rm_X6_takeSign [.ref (g.q o), .ref (g.q 19)] σ (some (.int r)) σ' := by
  refine xmet pn_X6 rfl (Nat.le_of_ble_eq_true rfl) (lv := [(0, .ref (g.q o)), (1, .ref (g.q 19))]) rfl (fun p e s m args below meth c ls C hW hl => ?_)
  have hx := C.1
  have hb := C.2.1
  unfold f_X6_takeSign at h
  refine lv_aload_n hx hb dX6_takeSign_0 rfl (lv_at hl 0 rfl) ?_
  refine xg_i C hW fg_6_46 (KX_sl ho) rfl (v := (1000 + 200 * o + 0)) rfl (x := σ.1 (1000 + 200 * o + 0) 0) rfl dX6_takeSign_1 ?_
  refine lv_bipush (v := 40) hx hb dX6_takeSign_4 rfl ?_
  refine lv_icmp_lt (tgt := 15) hx hb dX6_takeSign_6 (by decide) (fun c1 => ?_) (fun c1 => ?_)
  · have h := xit c1 h
    refine lv_aload_n hx hb dX6_takeSign_15 rfl (lv_at hl 0 rfl) ?_
    refine xg_i C hW fg_6_46 (KX_sl ho) rfl (v := (1000 + 200 * o + 0)) rfl (x := σ.1 (1000 + 200 * o + 0) 0) rfl dX6_takeSign_16 ?_
    refine lv_istore_n (lv' := [(2, .int (σ.1 (1000 + 200 * o + 0) 0)), (0, .ref (g.q o)), (1, .ref (g.q 19))]) hx hb dX6_takeSign_19 rfl hl (Nat.le_of_ble_eq_true rfl) rfl (fun ls hl => ?_)
    refine lv_aload_n hx hb dX6_takeSign_20 rfl (lv_at hl 2 rfl) ?_
    obtain ⟨σ2, e2, h⟩ := xbo h
    refine xc_V (As := []) (rest := []) C hW (m_X8_next N _ e2) mf_X8_next mv_X8_next ml_X6_59 ⟨rfl, rfl⟩ ⟨Nat.le_of_ble_eq_true rfl, Nat.le_of_ble_eq_true rfl⟩ KX_19 rfl hl.1 rfl rfl (Nat.le_of_ble_eq_true rfl) dX6_takeSign_21 (fun H locs hW => W.eq (g2 := F0 m 24 ls []) rfl ?_)
    refine lv_aload_n hx hb dX6_takeSign_24 rfl (lv_at hl 2 rfl) ?_
    refine xg_i C hW fg_6_62 KX_19 rfl (v := 4803) rfl (x := σ2.1 4803 0) rfl dX6_takeSign_25 ?_
    refine lv_iconst (v := 1) hx hb dX6_takeSign_28 rfl ?_
    refine lv_icmp_eq (tgt := 38) hx hb dX6_takeSign_29 (by decide) (fun c3 => ?_) (fun c3 => ?_)
    · have h := xit c3 h
      refine lv_aload_n hx hb dX6_takeSign_38 rfl (lv_at hl 1 rfl) ?_
      refine lv_aload_n hx hb dX6_takeSign_39 rfl (lv_at hl 2 rfl) ?_
      refine xg_l C hW fg_6_110 KX_19 rfl (v := 4806) rfl (x := σ2.2 4806 0) rfl dX6_takeSign_40 ?_
      obtain ⟨r4_, e4, h⟩ := xbo h
      refine xc_V (As := [.long (σ2.2 4806 0)]) (rest := []) C hW (m_X6_find o ho N (σ2.2 4806 0) _ e4) mf_X6_find mv_X6_find ml_X6_114 ⟨rfl, rfl⟩ ⟨Nat.le_of_ble_eq_true rfl, Nat.le_of_ble_eq_true rfl⟩ (KX_sl ho) rfl hl.1 rfl rfl (Nat.le_of_ble_eq_true rfl) dX6_takeSign_43 (fun H locs hW => W.eq (g2 := F0 m 46 ls [.int r4_]) rfl ?_)
      refine lv_if_lt (tgt := 55) hx hb dX6_takeSign_46 (by decide) (fun c5 => ?_) (fun c5 => ?_)
      · have h := xit c5 h
        refine lv_aload_n hx hb dX6_takeSign_55 rfl (lv_at hl 1 rfl) ?_
        refine xg_r C hW fg_6_11 (KX_sl ho) rfl dX6_takeSign_56 ?_
        refine lv_iload_n hx hb dX6_takeSign_59 rfl (lv_at hl 0 rfl) ?_
        refine lv_aload_n hx hb dX6_takeSign_60 rfl (lv_at hl 2 rfl) ?_
        refine xg_l C hW fg_6_110 KX_19 rfl (v := 4806) rfl (x := σ2.2 4806 0) rfl dX6_takeSign_61 ?_
        obtain ⟨g6, h⟩ := xgd h
        refine xs_l C hW (KX_sl_1 ho) g6 dX6_takeSign_64 (fun H locs hW => ?_)
        refine lv_aload_n hx hb dX6_takeSign_65 rfl (lv_at hl 2 rfl) ?_
        refine lv_iconst (v := 1) hx hb dX6_takeSign_66 rfl ?_
        refine lv_bipush (v := 60) hx hb dX6_takeSign_67 rfl ?_
        obtain ⟨r7_, σ7, e7, h⟩ := xbd h
        refine xc_S (As := [.ref (g.q 19), .int 1, .int 60]) (rest := []) C hW (m_X6_takeNumber N 1 60 _ e7) mf_X6_takeNumber mt_X6_takeNumber ml_X6_92 ⟨rfl, rfl⟩ ⟨Nat.le_of_ble_eq_true rfl, Nat.le_of_ble_eq_true rfl⟩ hl.1 rfl rfl (Nat.le_of_ble_eq_true rfl) dX6_takeSign_69 (fun H locs hW => W.eq (g2 := F0 m 72 ls [.int r7_]) rfl ?_)
        refine lv_if_ne (tgt := 77) hx hb dX6_takeSign_72 (by decide) (fun c8 => ?_) (fun c8 => ?_)
        · have h := xif c8 h
          refine lv_aload_n hx hb dX6_takeSign_77 rfl (lv_at hl 1 rfl) ?_
          refine xg_r C hW fg_6_15 (KX_sl ho) rfl dX6_takeSign_78 ?_
          refine lv_iload_n hx hb dX6_takeSign_81 rfl (lv_at hl 0 rfl) ?_
          refine lv_aload_n hx hb dX6_takeSign_82 rfl (lv_at hl 2 rfl) ?_
          refine xg_i C hW fg_6_96 KX_19 rfl (v := 4809) rfl (x := σ7.1 4809 0) rfl dX6_takeSign_83 ?_
          obtain ⟨g9, h⟩ := xgd h
          refine xs_i C hW (KX_sl_2 ho) g9 dX6_takeSign_86 (fun H locs hW => ?_)
          refine lv_aload_n hx hb dX6_takeSign_87 rfl (lv_at hl 2 rfl) ?_
          refine lv_iconst (v := 1) hx hb dX6_takeSign_88 rfl ?_
          refine lv_bipush (v := 60) hx hb dX6_takeSign_89 rfl ?_
          obtain ⟨r10_, σ10, e10, h⟩ := xbd h
          refine xc_S (As := [.ref (g.q 19), .int 1, .int 60]) (rest := []) C hW (m_X6_takeNumber N 1 60 _ e10) mf_X6_takeNumber mt_X6_takeNumber ml_X6_92 ⟨rfl, rfl⟩ ⟨Nat.le_of_ble_eq_true rfl, Nat.le_of_ble_eq_true rfl⟩ hl.1 rfl rfl (Nat.le_of_ble_eq_true rfl) dX6_takeSign_91 (fun H locs hW => W.eq (g2 := F0 m 94 ls [.int r10_]) rfl ?_)
          refine lv_if_ne (tgt := 99) hx hb dX6_takeSign_94 (by decide) (fun c11 => ?_) (fun c11 => ?_)
          · have h := xif c11 h
            refine lv_aload_n hx hb dX6_takeSign_99 rfl (lv_at hl 1 rfl) ?_
            refine xg_r C hW fg_6_19 (KX_sl ho) rfl dX6_takeSign_100 ?_
            refine lv_iload_n hx hb dX6_takeSign_103 rfl (lv_at hl 0 rfl) ?_
            refine lv_aload_n hx hb dX6_takeSign_104 rfl (lv_at hl 2 rfl) ?_
            refine xg_i C hW fg_6_96 KX_19 rfl (v := 4809) rfl (x := σ10.1 4809 0) rfl dX6_takeSign_105 ?_
            obtain ⟨g12, h⟩ := xgd h
            refine xs_i C hW (KX_sl_3 ho) g12 dX6_takeSign_108 (fun H locs hW => ?_)
            refine lv_aload_n hx hb dX6_takeSign_109 rfl (lv_at hl 1 rfl) ?_
            refine lv_aload_n hx hb dX6_takeSign_110 rfl (lv_at hl 2 rfl) ?_
            refine lv_iload_n hx hb dX6_takeSign_111 rfl (lv_at hl 0 rfl) ?_
            obtain ⟨r13_, σ13, e13, h⟩ := xbd h
            refine xc_V (As := [.ref (g.q 19), .int (σ.1 (1000 + 200 * o + 0) 0)]) (rest := []) C hW (m_X6_takeValue o ho N (σ.1 (1000 + 200 * o + 0) 0) _ e13) mf_X6_takeValue mv_X6_takeValue ml_X6_118 ⟨rfl, rfl⟩ ⟨Nat.le_of_ble_eq_true rfl, Nat.le_of_ble_eq_true rfl⟩ (KX_sl ho) rfl hl.1 rfl rfl (Nat.le_of_ble_eq_true rfl) dX6_takeSign_112 (fun H locs hW => W.eq (g2 := F0 m 115 ls [.int r13_]) rfl ?_)
            refine lv_if_ne (tgt := 120) hx hb dX6_takeSign_115 (by decide) (fun c14 => ?_) (fun c14 => ?_)
            · have h := xif c14 h
              refine lv_aload_n hx hb dX6_takeSign_120 rfl (lv_at hl 1 rfl) ?_
              refine lv_dup hx hb dX6_takeSign_121 rfl ?_
              refine xg_i C hW fg_6_46 (KX_sl ho) rfl (v := (1000 + 200 * o + 0)) rfl (x := σ13.1 (1000 + 200 * o + 0) 0) rfl dX6_takeSign_122 ?_
              refine lv_iconst (v := 1) hx hb dX6_takeSign_125 rfl ?_
              refine lv_iadd hx hb dX6_takeSign_126 ?_
              refine xp_i C hW fp_6_46 (KX_sl ho) rfl (v := (1000 + 200 * o + 0)) rfl rfl rfl dX6_takeSign_127 (fun H locs hW => ?_)
              refine lv_aload_n hx hb dX6_takeSign_130 rfl (lv_at hl 2 rfl) ?_
              refine lv_bipush (v := 59) hx hb dX6_takeSign_131 rfl ?_
              refine xc_V (As := [.int 59]) (rest := []) C hW (m_X8_isMarked 59 _ rfl) mf_X8_isMarked mv_X8_isMarked ml_X6_99 ⟨rfl, rfl⟩ ⟨Nat.le_of_ble_eq_true rfl, Nat.le_of_ble_eq_true rfl⟩ KX_19 rfl hl.1 rfl rfl (Nat.le_of_ble_eq_true rfl) dX6_takeSign_133 (fun H locs hW => W.eq (g2 := F0 m 136 ls [.int (f_X8_isMarked 59 (si σ13 (1000 + 200 * o + 0) 0 ((σ13.1 (1000 + 200 * o + 0) 0) + 1)))]) rfl ?_)
              refine lv_if_ne (tgt := 147) hx hb dX6_takeSign_136 (by decide) (fun c15 => ?_) (fun c15 => ?_)
              · have h := xif c15 h
                refine lv_iconst (v := 1) hx hb dX6_takeSign_147 rfl ?_
                refine lv_goto (tgt := 152) hx hb dX6_takeSign_148 (by decide) ?_
                cases h
                exact xr_z C hW (by decide) dX6_takeSign_152
              · have h := xit c15 h
                refine lv_aload_n hx hb dX6_takeSign_139 rfl (lv_at hl 2 rfl) ?_
                refine lv_iconst (v := 1) hx hb dX6_takeSign_140 rfl ?_
                obtain ⟨r16_, σ16, e16, h⟩ := xbd h
                refine xc_V (As := [.int 1]) (rest := []) C hW (m_X8_refuse 1 _ e16) mf_X8_refuse mv_X8_refuse ml_X6_82 ⟨rfl, rfl⟩ ⟨Nat.le_of_ble_eq_true rfl, Nat.le_of_ble_eq_true rfl⟩ KX_19 rfl hl.1 rfl rfl (Nat.le_of_ble_eq_true rfl) dX6_takeSign_141 (fun H locs hW => W.eq (g2 := F0 m 144 ls [.int r16_]) rfl ?_)
                refine lv_if_eq (tgt := 151) hx hb dX6_takeSign_144 (by decide) (fun c17 => ?_) (fun c17 => ?_)
                · have h := xit c17 h
                  refine lv_iconst (v := 0) hx hb dX6_takeSign_151 rfl ?_
                  cases h
                  exact xr_z C hW (by decide) dX6_takeSign_152
                · have h := xif c17 h
                  refine lv_iconst (v := 1) hx hb dX6_takeSign_147 rfl ?_
                  refine lv_goto (tgt := 152) hx hb dX6_takeSign_148 (by decide) ?_
                  cases h
                  exact xr_z C hW (by decide) dX6_takeSign_152
            · have h := xit c14 h
              refine lv_iconst (v := 0) hx hb dX6_takeSign_118 rfl ?_
              cases h
              exact xr_z C hW (by decide) dX6_takeSign_119
          · have h := xit c11 h
            refine lv_iconst (v := 0) hx hb dX6_takeSign_97 rfl ?_
            cases h
            exact xr_z C hW (by decide) dX6_takeSign_98
        · have h := xit c8 h
          refine lv_iconst (v := 0) hx hb dX6_takeSign_75 rfl ?_
          cases h
          exact xr_z C hW (by decide) dX6_takeSign_76
      · have h := xif c5 h
        refine lv_aload_n hx hb dX6_takeSign_49 rfl (lv_at hl 2 rfl) ?_
        refine lv_iconst (v := 3) hx hb dX6_takeSign_50 rfl ?_
        obtain ⟨r18_, σ18, e18, h⟩ := xbd h
        refine xc_V (As := [.int 3]) (rest := []) C hW (m_X8_refuse 3 _ e18) mf_X8_refuse mv_X8_refuse ml_X6_82 ⟨rfl, rfl⟩ ⟨Nat.le_of_ble_eq_true rfl, Nat.le_of_ble_eq_true rfl⟩ KX_19 rfl hl.1 rfl rfl (Nat.le_of_ble_eq_true rfl) dX6_takeSign_51 (fun H locs hW => W.eq (g2 := F0 m 54 ls [.int r18_]) rfl ?_)
        obtain ⟨g19, h⟩ := xgd h
        cases h
        exact xr_z C hW g19 dX6_takeSign_54
    · have h := xif c3 h
      refine lv_aload_n hx hb dX6_takeSign_32 rfl (lv_at hl 2 rfl) ?_
      refine lv_iconst (v := 1) hx hb dX6_takeSign_33 rfl ?_
      obtain ⟨r20_, σ20, e20, h⟩ := xbd h
      refine xc_V (As := [.int 1]) (rest := []) C hW (m_X8_refuse 1 _ e20) mf_X8_refuse mv_X8_refuse ml_X6_82 ⟨rfl, rfl⟩ ⟨Nat.le_of_ble_eq_true rfl, Nat.le_of_ble_eq_true rfl⟩ KX_19 rfl hl.1 rfl rfl (Nat.le_of_ble_eq_true rfl) dX6_takeSign_34 (fun H locs hW => W.eq (g2 := F0 m 37 ls [.int r20_]) rfl ?_)
      obtain ⟨g21, h⟩ := xgd h
      cases h
      exact xr_z C hW g21 dX6_takeSign_37
  · have h := xif c1 h
    refine lv_aload_n hx hb dX6_takeSign_9 rfl (lv_at hl 1 rfl) ?_
    refine lv_iconst (v := 4) hx hb dX6_takeSign_10 rfl ?_
    obtain ⟨r22_, σ22, e22, h⟩ := xbd h
    refine xc_V (As := [.int 4]) (rest := []) C hW (m_X8_refuse 4 _ e22) mf_X8_refuse mv_X8_refuse ml_X6_82 ⟨rfl, rfl⟩ ⟨Nat.le_of_ble_eq_true rfl, Nat.le_of_ble_eq_true rfl⟩ KX_19 rfl hl.1 rfl rfl (Nat.le_of_ble_eq_true rfl) dX6_takeSign_11 (fun H locs hW => W.eq (g2 := F0 m 14 ls [.int r22_]) rfl ?_)
    obtain ⟨g23, h⟩ := xgd h
    cases h
    exact xr_z C hW g23 dX6_takeSign_14
end
theorem dX6_take_0 : decode cX6_take 0 = .ok (.aload_n 0, 1) := by decide +kernel
theorem dX6_take_1 : decode cX6_take 1 = .ok (.iconst 0, 1) := by decide +kernel
theorem dX6_take_2 : decode cX6_take 2 = .ok (.putfield 46, 3) := by decide +kernel
theorem dX6_take_5 : decode cX6_take 5 = .ok (.aload_n 0, 1) := by decide +kernel
theorem dX6_take_6 : decode cX6_take 6 = .ok (.iconst 0, 1) := by decide +kernel
theorem dX6_take_7 : decode cX6_take 7 = .ok (.putfield 54, 3) := by decide +kernel
theorem dX6_take_10 : decode cX6_take 10 = .ok (.getstatic 37, 3) := by decide +kernel
theorem dX6_take_13 : decode cX6_take 13 = .ok (.iconst 0, 1) := by decide +kernel
theorem dX6_take_14 : decode cX6_take 14 = .ok (.aload_n 0, 1) := by decide +kernel
theorem dX6_take_15 : decode cX6_take 15 = .ok (.getfield 34, 3) := by decide +kernel
theorem dX6_take_18 : decode cX6_take 18 = .ok (.iconst 0, 1) := by decide +kernel
theorem dX6_take_19 : decode cX6_take 19 = .ok (.iconst 4, 1) := by decide +kernel
theorem dX6_take_20 : decode cX6_take 20 = .ok (.invokestatic 40, 3) := by decide +kernel
theorem dX6_take_23 : decode cX6_take 23 = .ok (.iconst 0, 1) := by decide +kernel
theorem dX6_take_24 : decode cX6_take 24 = .ok (.istore_n 2, 1) := by decide +kernel
theorem dX6_take_25 : decode cX6_take 25 = .ok (.iload_n 2, 1) := by decide +kernel
theorem dX6_take_26 : decode cX6_take 26 = .ok (.sipush 800, 3) := by decide +kernel
theorem dX6_take_29 : decode cX6_take 29 = .ok (.if_icmp .gt 51, 3) := by decide +kernel
theorem dX6_take_32 : decode cX6_take 32 = .ok (.aload_n 1, 1) := by decide +kernel
theorem dX6_take_33 : decode cX6_take 33 = .ok (.invokevirtual 59, 3) := by decide +kernel
theorem dX6_take_36 : decode cX6_take 36 = .ok (.aload_n 1, 1) := by decide +kernel
theorem dX6_take_37 : decode cX6_take 37 = .ok (.getfield 62, 3) := by decide +kernel
theorem dX6_take_40 : decode cX6_take 40 = .ok (.ifCond .ne 5, 3) := by decide +kernel
theorem dX6_take_43 : decode cX6_take 43 = .ok (.iload_n 2, 1) := by decide +kernel
theorem dX6_take_44 : decode cX6_take 44 = .ok (.ireturn, 1) := by decide +kernel
theorem dX6_take_45 : decode cX6_take 45 = .ok (.aload_n 1, 1) := by decide +kernel
theorem dX6_take_46 : decode cX6_take 46 = .ok (.ldc 65, 2) := by decide +kernel
theorem dX6_take_48 : decode cX6_take 48 = .ok (.invokevirtual 67, 3) := by decide +kernel
theorem dX6_take_51 : decode cX6_take 51 = .ok (.ifCond .eq 11, 3) := by decide +kernel
theorem dX6_take_54 : decode cX6_take 54 = .ok (.aload_n 0, 1) := by decide +kernel
theorem dX6_take_55 : decode cX6_take 55 = .ok (.aload_n 1, 1) := by decide +kernel
theorem dX6_take_56 : decode cX6_take 56 = .ok (.invokevirtual 71, 3) := by decide +kernel
theorem dX6_take_59 : decode cX6_take 59 = .ok (.goto 8, 3) := by decide +kernel
theorem dX6_take_62 : decode cX6_take 62 = .ok (.aload_n 0, 1) := by decide +kernel
theorem dX6_take_63 : decode cX6_take 63 = .ok (.aload_n 1, 1) := by decide +kernel
theorem dX6_take_64 : decode cX6_take 64 = .ok (.invokevirtual 75, 3) := by decide +kernel
theorem dX6_take_67 : decode cX6_take 67 = .ok (.istore_n 3, 1) := by decide +kernel
theorem dX6_take_68 : decode cX6_take 68 = .ok (.iload_n 3, 1) := by decide +kernel
theorem dX6_take_69 : decode cX6_take 69 = .ok (.ifCond .ne 5, 3) := by decide +kernel
theorem dX6_take_72 : decode cX6_take 72 = .ok (.iconst (-1), 1) := by decide +kernel
theorem dX6_take_73 : decode cX6_take 73 = .ok (.ireturn, 1) := by decide +kernel
theorem dX6_take_74 : decode cX6_take 74 = .ok (.iinc 2 1, 3) := by decide +kernel
theorem dX6_take_77 : decode cX6_take 77 = .ok (.goto (-52), 3) := by decide +kernel
theorem dX6_take_80 : decode cX6_take 80 = .ok (.iconst (-1), 1) := by decide +kernel
theorem dX6_take_81 : decode cX6_take 81 = .ok (.ireturn, 1) := by decide +kernel
abbrev rm_X6_take : Room := { frames := 7, cells := 0, slots := 0, locals := 186 }
def f_X6_take_67 (o : Nat) (N : Nat) (k25 : Int32 → St → Option (Int32 × St)) (x2 : Int32) (t0 : Int32) (σ : St) : Option (Int32 × St) := (if t0 = 0 then some ((-1), σ) else k25 (x2 + 1) σ)
def f_X6_take_25 (o : Nat) (N : Nat) : Nat → Int32 → St → Option (Int32 × St)
  | 0, _, _ => none
  | n + 1, x2, σ => (if 800 < x2 then some ((-1), σ) else bo (f_X8_next N σ) (fun σ3 => (if (σ3.1 4803 0) = 0 then some (x2, σ3) else bo (f_X8_isWord 0 N σ3) (fun r5_ => (if r5_ = 0 then bd (f_X6_takeRule o N σ3) (fun r7_ σ7 => f_X6_take_67 o N (f_X6_take_25 o N n) x2 r7_ σ7) else bd (f_X6_takeSign o N σ3) (fun r8_ σ8 => f_X6_take_67 o N (f_X6_take_25 o N n) x2 r8_ σ8))))))
def f_X6_take (o : Nat) (N : Nat) (σ : St) : Option (Int32 × St) := grd (cpb 0 0 4 4 4) (f_X6_take_25 o N N 0 (sr (si (si σ (1000 + 200 * o + 0) 0 0) (1000 + 200 * o + 9) 0 0) (8 * o + 8 - 6) (va_cpy (fun j => st_0.getD j 0) ((si (si σ (1000 + 200 * o + 0) 0 0) (1000 + 200 * o + 9) 0 0).1 (8 * o + 8 - 6)) 0 0 4)))
section
variable {p : Program} {l : Launch} {e : Env} {s : State} {m : MethodId} {args : Array Value} {below : List Frame} {meth : Method} {c : Code} {g : XG}
set_option maxRecDepth 4000 in
theorem w_X6_take_67 (o : Nat) (ho : o = 1 ∨ o = 2) (N : Nat) (k25 : Int32 → St → Option (Int32 × St)) {r : Int32} {σ' : St} (C : xC KX g RX6 cX6_take 4 (some .int) p s m args meth c) (hk25 : ∀ (x2 : Int32) (σ : St) (H : Heap) (locs : List Loc) (ls : Array Slot), xW KX g s σ H locs → lv_has ls 4 [(0, .ref (g.q o)), (1, .ref (g.q 19)), (2, .int x2)] → k25 x2 σ = some (r, σ') → W p l e rm_X6_take s m args below meth c H locs 0 0 (MQ below (xPost KX g (some (.int r)) σ') args s 0 0 (xA KX g.q)) (F0 m 25 ls [])) : ∀ (x2 : Int32) (t0 : Int32) (σ : St) (H : Heap) (locs : List Loc) (ls : Array Slot), xW KX g s σ H locs → lv_has ls 4 [(0, .ref (g.q o)), (1, .ref (g.q 19)), (2, .int x2)] → f_X6_take_67 o N k25 x2 t0 σ = some (r, σ') → W p l e rm_X6_take s m args below meth c H locs 0 0 (MQ below (xPost KX g (some (.int r)) σ') args s 0 0 (xA KX g.q)) (F0 m 67 ls [.int t0]) := by
  have hx := C.1
  have hb := C.2.1
  intro x2 t0 σ H locs ls hW hl h
  unfold f_X6_take_67 at h
  refine lv_istore_n (lv' := [(3, .int t0), (0, .ref (g.q o)), (1, .ref (g.q 19)), (2, .int x2)]) hx hb dX6_take_67 rfl hl (Nat.le_of_ble_eq_true rfl) rfl (fun ls hl => ?_)
  refine lv_iload_n hx hb dX6_take_68 rfl (lv_at hl 0 rfl) ?_
  refine lv_if_ne (tgt := 74) hx hb dX6_take_69 (by decide) (fun c9 => ?_) (fun c9 => ?_)
  · have h := xif c9 h
    refine lv_iinc (v := x2 + 1) (lv' := [(2, .int (x2 + 1)), (3, .int t0), (0, .ref (g.q o)), (1, .ref (g.q 19))]) hx hb dX6_take_74 hl (k := 3) rfl rfl (Nat.le_of_ble_eq_true rfl) rfl (fun ls hl => ?_)
    refine lv_goto (tgt := 25) hx hb dX6_take_77 (by decide) ?_
    exact hk25 (x2 + 1) _ _ _ _ hW (lv_sub hl [2, 3, 0] rfl) h
  · have h := xit c9 h
    refine lv_iconst (v := (-1)) hx hb dX6_take_72 rfl ?_
    cases h
    exact xr_i C hW dX6_take_73
set_option maxRecDepth 4000 in
theorem w_X6_take_25 (o : Nat) (ho : o = 1 ∨ o = 2) (N : Nat) {r : Int32} {σ' : St} (C : xC KX g RX6 cX6_take 4 (some .int) p s m args meth c) : ∀ (n : Nat), ∀ (x2 : Int32) (σ : St) (H : Heap) (locs : List Loc) (ls : Array Slot), xW KX g s σ H locs → lv_has ls 4 [(0, .ref (g.q o)), (1, .ref (g.q 19)), (2, .int x2)] → f_X6_take_25 o N n x2 σ = some (r, σ') → W p l e rm_X6_take s m args below meth c H locs 0 0 (MQ below (xPost KX g (some (.int r)) σ') args s 0 0 (xA KX g.q)) (F0 m 25 ls []) := by
  have hx := C.1
  have hb := C.2.1
  intro n
  induction n with
  | zero => intro x2 σ H locs ls hW hl h; rw [f_X6_take_25] at h; cases h
  | succ n ih =>
    intro x2 σ H locs ls hW hl h
    rw [f_X6_take_25] at h
    refine lv_iload_n hx hb dX6_take_25 rfl (lv_at hl 2 rfl) ?_
    refine lv_sipush (v := 800) hx hb dX6_take_26 rfl ?_
    refine lv_icmp_gt (tgt := 80) hx hb dX6_take_29 (by decide) (fun c2 => ?_) (fun c2 => ?_)
    · have h := xit c2 h
      refine lv_iconst (v := (-1)) hx hb dX6_take_80 rfl ?_
      cases h
      exact xr_i C hW dX6_take_81
    · have h := xif c2 h
      refine lv_aload_n hx hb dX6_take_32 rfl (lv_at hl 1 rfl) ?_
      obtain ⟨σ3, e3, h⟩ := xbo h
      refine xc_V (As := []) (rest := []) C hW (m_X8_next N _ e3) mf_X8_next mv_X8_next ml_X6_59 ⟨rfl, rfl⟩ ⟨Nat.le_of_ble_eq_true rfl, Nat.le_of_ble_eq_true rfl⟩ KX_19 rfl hl.1 rfl rfl (Nat.le_of_ble_eq_true rfl) dX6_take_33 (fun H locs hW => W.eq (g2 := F0 m 36 ls []) rfl ?_)
      refine lv_aload_n hx hb dX6_take_36 rfl (lv_at hl 1 rfl) ?_
      refine xg_i C hW fg_6_62 KX_19 rfl (v := 4803) rfl (x := σ3.1 4803 0) rfl dX6_take_37 ?_
      refine lv_if_ne (tgt := 45) hx hb dX6_take_40 (by decide) (fun c4 => ?_) (fun c4 => ?_)
      · have h := xif c4 h
        refine lv_aload_n hx hb dX6_take_45 rfl (lv_at hl 1 rfl) ?_
        refine xx_s (i := 0) C rfl dX6_take_46 ?_
        obtain ⟨r5_, e5, h⟩ := xbo h
        refine xc_V (As := [.ref (g.aK 0)]) (rest := []) C hW (m_X8_isWord 0 (by decide) N _ e5) mf_X8_isWord mv_X8_isWord ml_X6_67 ⟨rfl, rfl⟩ ⟨Nat.le_of_ble_eq_true rfl, Nat.le_of_ble_eq_true rfl⟩ KX_19 rfl hl.1 rfl rfl (Nat.le_of_ble_eq_true rfl) dX6_take_48 (fun H locs hW => W.eq (g2 := F0 m 51 ls [.int r5_]) rfl ?_)
        refine lv_if_eq (tgt := 62) hx hb dX6_take_51 (by decide) (fun c6 => ?_) (fun c6 => ?_)
        · have h := xit c6 h
          refine lv_aload_n hx hb dX6_take_62 rfl (lv_at hl 0 rfl) ?_
          refine lv_aload_n hx hb dX6_take_63 rfl (lv_at hl 1 rfl) ?_
          obtain ⟨r7_, σ7, e7, h⟩ := xbd h
          refine xc_V (As := [.ref (g.q 19)]) (rest := []) C hW (m_X6_takeRule o ho N _ e7) mf_X6_takeRule mv_X6_takeRule ml_X6_75 ⟨rfl, rfl⟩ ⟨Nat.le_of_ble_eq_true rfl, Nat.le_of_ble_eq_true rfl⟩ (KX_sl ho) rfl hl.1 rfl rfl (Nat.le_of_ble_eq_true rfl) dX6_take_64 (fun H locs hW => W.eq (g2 := F0 m 67 ls [.int r7_]) rfl ?_)
          exact w_X6_take_67 o ho N (f_X6_take_25 o N n) C ih x2 r7_ _ _ _ _ hW (lv_sub hl [0, 1, 2] rfl) h
        · have h := xif c6 h
          refine lv_aload_n hx hb dX6_take_54 rfl (lv_at hl 0 rfl) ?_
          refine lv_aload_n hx hb dX6_take_55 rfl (lv_at hl 1 rfl) ?_
          obtain ⟨r8_, σ8, e8, h⟩ := xbd h
          refine xc_V (As := [.ref (g.q 19)]) (rest := []) C hW (m_X6_takeSign o ho N _ e8) mf_X6_takeSign mv_X6_takeSign ml_X6_71 ⟨rfl, rfl⟩ ⟨Nat.le_of_ble_eq_true rfl, Nat.le_of_ble_eq_true rfl⟩ (KX_sl ho) rfl hl.1 rfl rfl (Nat.le_of_ble_eq_true rfl) dX6_take_56 (fun H locs hW => W.eq (g2 := F0 m 59 ls [.int r8_]) rfl ?_)
          refine lv_goto (tgt := 67) hx hb dX6_take_59 (by decide) ?_
          exact w_X6_take_67 o ho N (f_X6_take_25 o N n) C ih x2 r8_ _ _ _ _ hW (lv_sub hl [0, 1, 2] rfl) h
      · have h := xit c4 h
        refine lv_iload_n hx hb dX6_take_43 rfl (lv_at hl 2 rfl) ?_
        cases h
        exact xr_i C hW dX6_take_44
set_option maxRecDepth 4000 in
theorem m_X6_take (o : Nat) (ho : o = 1 ∨ o = 2) (N : Nat) (σ : St) {r : Int32} {σ' : St} (h : f_X6_take o N σ = some (r, σ')) : xM l KX g yX6_take cX6_take 4 (some .int) rm_X6_take [.ref (g.q o), .ref (g.q 19)] σ (some (.int r)) σ' := by
  refine xmet pn_X6 rfl (Nat.le_of_ble_eq_true rfl) (lv := [(0, .ref (g.q o)), (1, .ref (g.q 19))]) rfl (fun p e s m args below meth c ls C hW hl => ?_)
  have hx := C.1
  have hb := C.2.1
  unfold f_X6_take at h
  refine lv_aload_n hx hb dX6_take_0 rfl (lv_at hl 0 rfl) ?_
  refine lv_iconst (v := 0) hx hb dX6_take_1 rfl ?_
  refine xp_i C hW fp_6_46 (KX_sl ho) rfl (v := (1000 + 200 * o + 0)) rfl rfl rfl dX6_take_2 (fun H locs hW => ?_)
  refine lv_aload_n hx hb dX6_take_5 rfl (lv_at hl 0 rfl) ?_
  refine lv_iconst (v := 0) hx hb dX6_take_6 rfl ?_
  refine xp_i C hW fp_6_54 (KX_sl ho) rfl (v := (1000 + 200 * o + 9)) rfl rfl rfl dX6_take_7 (fun H locs hW => ?_)
  refine xt_r (i := 0) C hW xst_0 fs_X6_37 dX6_take_10 ?_
  refine lv_iconst (v := 0) hx hb dX6_take_13 rfl ?_
  refine lv_aload_n hx hb dX6_take_14 rfl (lv_at hl 0 rfl) ?_
  refine xg_r C hW fg_6_34 (KX_sl ho) rfl dX6_take_15 ?_
  refine lv_iconst (v := 0) hx hb dX6_take_18 rfl ?_
  refine lv_iconst (v := 4) hx hb dX6_take_19 rfl ?_
  obtain ⟨g1, h⟩ := xgd h
  refine xcp_t C hW xst_0 (KX_sl_8 ho) g1 ml_X6_40 (Nat.le_of_ble_eq_true rfl) (Nat.le_of_ble_eq_true rfl) hl.1 (Nat.le_of_ble_eq_true rfl) dX6_take_20 (fun H locs hW => ?_)
  refine lv_iconst (v := 0) hx hb dX6_take_23 rfl ?_
  refine lv_istore_n (lv' := [(2, .int 0), (0, .ref (g.q o)), (1, .ref (g.q 19))]) hx hb dX6_take_24 rfl hl (Nat.le_of_ble_eq_true rfl) rfl (fun ls hl => ?_)
  exact w_X6_take_25 o ho N C N 0 _ _ _ _ hW (lv_sub hl [1, 2, 0] rfl) h
end
theorem dX7_endsFromAny_0 : decode cX7_endsFromAny 0 = .ok (.iconst 0, 1) := by decide +kernel
theorem dX7_endsFromAny_1 : decode cX7_endsFromAny 1 = .ok (.istore 4, 2) := by decide +kernel
theorem dX7_endsFromAny_3 : decode cX7_endsFromAny 3 = .ok (.iconst 0, 1) := by decide +kernel
theorem dX7_endsFromAny_4 : decode cX7_endsFromAny 4 = .ok (.istore 5, 2) := by decide +kernel
theorem dX7_endsFromAny_6 : decode cX7_endsFromAny 6 = .ok (.iload 5, 2) := by decide +kernel
theorem dX7_endsFromAny_8 : decode cX7_endsFromAny 8 = .ok (.iload_n 2, 1) := by decide +kernel
theorem dX7_endsFromAny_9 : decode cX7_endsFromAny 9 = .ok (.if_icmp .ge 32, 3) := by decide +kernel
theorem dX7_endsFromAny_12 : decode cX7_endsFromAny 12 = .ok (.iload_n 3, 1) := by decide +kernel
theorem dX7_endsFromAny_13 : decode cX7_endsFromAny 13 = .ok (.iload 5, 2) := by decide +kernel
theorem dX7_endsFromAny_15 : decode cX7_endsFromAny 15 = .ok (.iushr, 1) := by decide +kernel
theorem dX7_endsFromAny_16 : decode cX7_endsFromAny 16 = .ok (.iconst 1, 1) := by decide +kernel
theorem dX7_endsFromAny_17 : decode cX7_endsFromAny 17 = .ok (.iand, 1) := by decide +kernel
theorem dX7_endsFromAny_18 : decode cX7_endsFromAny 18 = .ok (.iconst 1, 1) := by decide +kernel
theorem dX7_endsFromAny_19 : decode cX7_endsFromAny 19 = .ok (.if_icmp .ne 16, 3) := by decide +kernel
theorem dX7_endsFromAny_22 : decode cX7_endsFromAny 22 = .ok (.iload 4, 2) := by decide +kernel
theorem dX7_endsFromAny_24 : decode cX7_endsFromAny 24 = .ok (.aload_n 0, 1) := by decide +kernel
theorem dX7_endsFromAny_25 : decode cX7_endsFromAny 25 = .ok (.aload_n 1, 1) := by decide +kernel
theorem dX7_endsFromAny_26 : decode cX7_endsFromAny 26 = .ok (.iload_n 2, 1) := by decide +kernel
theorem dX7_endsFromAny_27 : decode cX7_endsFromAny 27 = .ok (.iload 5, 2) := by decide +kernel
theorem dX7_endsFromAny_29 : decode cX7_endsFromAny 29 = .ok (.invokevirtual 98, 3) := by decide +kernel
theorem dX7_endsFromAny_32 : decode cX7_endsFromAny 32 = .ok (.ior, 1) := by decide +kernel
theorem dX7_endsFromAny_33 : decode cX7_endsFromAny 33 = .ok (.istore 4, 2) := by decide +kernel
theorem dX7_endsFromAny_35 : decode cX7_endsFromAny 35 = .ok (.iinc 5 1, 3) := by decide +kernel
theorem dX7_endsFromAny_38 : decode cX7_endsFromAny 38 = .ok (.goto (-32), 3) := by decide +kernel
theorem dX7_endsFromAny_41 : decode cX7_endsFromAny 41 = .ok (.iload 4, 2) := by decide +kernel
theorem dX7_endsFromAny_43 : decode cX7_endsFromAny 43 = .ok (.ireturn, 1) := by decide +kernel
abbrev rm_X7_endsFromAny : Room := { frames := 5, cells := 0, slots := 0, locals := 119 }
def f_X7_endsFromAny_6 (r1 rn1 : Nat) (N : Nat) : Nat → Int32 → Int32 → Int32 → Int32 → St → Option Int32
  | 0, _, _, _, _, _ => none
  | n + 1, x2, x3, x4, x5, σ => (if x2 ≤ x5 then some x4 else (if ((ushr x3 x5) &&& 1) = 1 then bo (f_X7_endsFrom r1 rn1 N x2 x5 σ) (fun r3_ => f_X7_endsFromAny_6 r1 rn1 N n x2 x3 (x4 ||| r3_) (x5 + 1) σ) else f_X7_endsFromAny_6 r1 rn1 N n x2 x3 x4 (x5 + 1) σ))
def f_X7_endsFromAny (r1 rn1 : Nat) (N : Nat) (x2 : Int32) (x3 : Int32) (σ : St) : Option Int32 := f_X7_endsFromAny_6 r1 rn1 N N x2 x3 0 0 σ
section
variable {p : Program} {l : Launch} {e : Env} {s : State} {m : MethodId} {args : Array Value} {below : List Frame} {meth : Method} {c : Code} {g : XG}
set_option maxRecDepth 4000 in
theorem w_X7_endsFromAny_6 (r1 rn1 : Nat) (hr1 : KX[r1]? = some (.inr (0, rn1))) (N : Nat) (σ : St) {r : Int32} (C : xC KX g RX7 cX7_endsFromAny 6 (some .int) p s m args meth c) : ∀ (n : Nat), ∀ (x2 : Int32) (x3 : Int32) (x4 : Int32) (x5 : Int32) (H : Heap) (locs : List Loc) (ls : Array Slot), xW KX g s σ H locs → lv_has ls 6 [(0, .ref (g.q 38)), (1, .ref (g.q r1)), (2, .int x2), (3, .int x3), (4, .int x4), (5, .int x5)] → f_X7_endsFromAny_6 r1 rn1 N n x2 x3 x4 x5 σ = some r → W p l e rm_X7_endsFromAny s m args below meth c H locs 0 0 (MQ below (xPost KX g (some (.int r)) σ) args s 0 0 (xA KX g.q)) (F0 m 6 ls []) := by
  have hx := C.1
  have hb := C.2.1
  intro n
  induction n with
  | zero => intro x2 x3 x4 x5 H locs ls hW hl h; rw [f_X7_endsFromAny_6] at h; cases h
  | succ n ih =>
    intro x2 x3 x4 x5 H locs ls hW hl h
    rw [f_X7_endsFromAny_6] at h
    refine lv_iload hx hb dX7_endsFromAny_6 (lv_at hl 5 rfl) ?_
    refine lv_iload_n hx hb dX7_endsFromAny_8 rfl (lv_at hl 2 rfl) ?_
    refine lv_icmp_ge (tgt := 41) hx hb dX7_endsFromAny_9 (by decide) (fun c1 => ?_) (fun c1 => ?_)
    · have h := xit c1 h
      refine lv_iload hx hb dX7_endsFromAny_41 (lv_at hl 4 rfl) ?_
      cases h
      exact xr_i C hW dX7_endsFromAny_43
    · have h := xif c1 h
      refine lv_iload_n hx hb dX7_endsFromAny_12 rfl (lv_at hl 3 rfl) ?_
      refine lv_iload hx hb dX7_endsFromAny_13 (lv_at hl 5 rfl) ?_
      refine lv_iushr (v := ushr x3 x5) hx hb dX7_endsFromAny_15 rfl ?_
      refine lv_iconst (v := 1) hx hb dX7_endsFromAny_16 rfl ?_
      refine lv_iand hx hb dX7_endsFromAny_17 ?_
      refine lv_iconst (v := 1) hx hb dX7_endsFromAny_18 rfl ?_
      refine lv_icmp_ne (tgt := 35) hx hb dX7_endsFromAny_19 (by decide) (fun c2 => ?_) (fun c2 => ?_)
      · have h := xif c2 h
        refine lv_iinc (v := x5 + 1) (lv' := [(5, .int (x5 + 1)), (0, .ref (g.q 38)), (1, .ref (g.q r1)), (2, .int x2), (3, .int x3), (4, .int x4)]) hx hb dX7_endsFromAny_35 hl (k := 5) rfl rfl (Nat.le_of_ble_eq_true rfl) rfl (fun ls hl => ?_)
        refine lv_goto (tgt := 6) hx hb dX7_endsFromAny_38 (by decide) ?_
        exact ih x2 x3 x4 (x5 + 1) _ _ _ hW (lv_sub hl [1, 2, 3, 4, 5, 0] rfl) h
      · have h := xit c2 h
        refine lv_iload hx hb dX7_endsFromAny_22 (lv_at hl 4 rfl) ?_
        refine lv_aload_n hx hb dX7_endsFromAny_24 rfl (lv_at hl 0 rfl) ?_
        refine lv_aload_n hx hb dX7_endsFromAny_25 rfl (lv_at hl 1 rfl) ?_
        refine lv_iload_n hx hb dX7_endsFromAny_26 rfl (lv_at hl 2 rfl) ?_
        refine lv_iload hx hb dX7_endsFromAny_27 (lv_at hl 5 rfl) ?_
        obtain ⟨r3_, e3, h⟩ := xbo h
        refine xc_V (As := [.ref (g.q r1), .int x2, .int x5]) (rest := [.int x4]) C hW (m_X7_endsFrom r1 rn1 hr1 N x2 x5 _ e3) mf_X7_endsFrom mv_X7_endsFrom ml_X7_98 ⟨rfl, rfl⟩ ⟨Nat.le_of_ble_eq_true rfl, Nat.le_of_ble_eq_true rfl⟩ KX_38 rfl hl.1 rfl rfl (Nat.le_of_ble_eq_true rfl) dX7_endsFromAny_29 (fun H locs hW => W.eq (g2 := F0 m 32 ls [.int r3_, .int x4]) rfl ?_)
        refine lv_ior hx hb dX7_endsFromAny_32 ?_
        refine lv_istore (lv' := [(4, .int (x4 ||| r3_)), (0, .ref (g.q 38)), (1, .ref (g.q r1)), (2, .int x2), (3, .int x3), (5, .int x5)]) hx hb dX7_endsFromAny_33 hl (Nat.le_of_ble_eq_true rfl) rfl (fun ls hl => ?_)
        refine lv_iinc (v := x5 + 1) (lv' := [(5, .int (x5 + 1)), (4, .int (x4 ||| r3_)), (0, .ref (g.q 38)), (1, .ref (g.q r1)), (2, .int x2), (3, .int x3)]) hx hb dX7_endsFromAny_35 hl (k := 5) rfl rfl (Nat.le_of_ble_eq_true rfl) rfl (fun ls hl => ?_)
        refine lv_goto (tgt := 6) hx hb dX7_endsFromAny_38 (by decide) ?_
        exact ih x2 x3 (x4 ||| r3_) (x5 + 1) _ _ _ hW (lv_sub hl [2, 3, 4, 5, 1, 0] rfl) h
set_option maxRecDepth 4000 in
theorem m_X7_endsFromAny (r1 rn1 : Nat) (hr1 : KX[r1]? = some (.inr (0, rn1))) (N : Nat) (x2 : Int32) (x3 : Int32) (σ : St) {r : Int32} (h : f_X7_endsFromAny r1 rn1 N x2 x3 σ = some r) : xM l KX g yX7_endsFromAny cX7_endsFromAny 6 (some .int) rm_X7_endsFromAny [.ref (g.q 38), .ref (g.q r1), .int x2, .int x3] σ (some (.int r)) σ := by
  refine xmet pn_X7 rfl (Nat.le_of_ble_eq_true rfl) (lv := [(0, .ref (g.q 38)), (1, .ref (g.q r1)), (2, .int x2), (3, .int x3)]) rfl (fun p e s m args below meth c ls C hW hl => ?_)
  have hx := C.1
  have hb := C.2.1
  unfold f_X7_endsFromAny at h
  refine lv_iconst (v := 0) hx hb dX7_endsFromAny_0 rfl ?_
  refine lv_istore (lv' := [(4, .int 0), (0, .ref (g.q 38)), (1, .ref (g.q r1)), (2, .int x2), (3, .int x3)]) hx hb dX7_endsFromAny_1 hl (Nat.le_of_ble_eq_true rfl) rfl (fun ls hl => ?_)
  refine lv_iconst (v := 0) hx hb dX7_endsFromAny_3 rfl ?_
  refine lv_istore (lv' := [(5, .int 0), (4, .int 0), (0, .ref (g.q 38)), (1, .ref (g.q r1)), (2, .int x2), (3, .int x3)]) hx hb dX7_endsFromAny_4 hl (Nat.le_of_ble_eq_true rfl) rfl (fun ls hl => ?_)
  exact w_X7_endsFromAny_6 r1 rn1 hr1 N σ C N x2 x3 0 0 _ _ _ hW (lv_sub hl [2, 3, 4, 5, 1, 0] rfl) h
end
theorem dX8_put_0 : decode cX8_put 0 = .ok (.bipush 24, 2) := by decide +kernel
theorem dX8_put_2 : decode cX8_put 2 = .ok (.istore_n 2, 1) := by decide +kernel
theorem dX8_put_3 : decode cX8_put 3 = .ok (.iload_n 2, 1) := by decide +kernel
theorem dX8_put_4 : decode cX8_put 4 = .ok (.ifCond .lt 42, 3) := by decide +kernel
theorem dX8_put_7 : decode cX8_put 7 = .ok (.aload_n 0, 1) := by decide +kernel
theorem dX8_put_8 : decode cX8_put 8 = .ok (.getfield 19, 3) := by decide +kernel
theorem dX8_put_11 : decode cX8_put 11 = .ok (.sipush 800, 3) := by decide +kernel
theorem dX8_put_14 : decode cX8_put 14 = .ok (.if_icmp .ge 26, 3) := by decide +kernel
theorem dX8_put_17 : decode cX8_put 17 = .ok (.aload_n 0, 1) := by decide +kernel
theorem dX8_put_18 : decode cX8_put 18 = .ok (.getfield 11, 3) := by decide +kernel
theorem dX8_put_21 : decode cX8_put 21 = .ok (.aload_n 0, 1) := by decide +kernel
theorem dX8_put_22 : decode cX8_put 22 = .ok (.getfield 19, 3) := by decide +kernel
theorem dX8_put_25 : decode cX8_put 25 = .ok (.iload_n 1, 1) := by decide +kernel
theorem dX8_put_26 : decode cX8_put 26 = .ok (.iload_n 2, 1) := by decide +kernel
theorem dX8_put_27 : decode cX8_put 27 = .ok (.iushr, 1) := by decide +kernel
theorem dX8_put_28 : decode cX8_put 28 = .ok (.i2b, 1) := by decide +kernel
theorem dX8_put_29 : decode cX8_put 29 = .ok (.bastore, 1) := by decide +kernel
theorem dX8_put_30 : decode cX8_put 30 = .ok (.aload_n 0, 1) := by decide +kernel
theorem dX8_put_31 : decode cX8_put 31 = .ok (.dup, 1) := by decide +kernel
theorem dX8_put_32 : decode cX8_put 32 = .ok (.getfield 19, 3) := by decide +kernel
theorem dX8_put_35 : decode cX8_put 35 = .ok (.iconst 1, 1) := by decide +kernel
theorem dX8_put_36 : decode cX8_put 36 = .ok (.iadd, 1) := by decide +kernel
theorem dX8_put_37 : decode cX8_put 37 = .ok (.putfield 19, 3) := by decide +kernel
theorem dX8_put_40 : decode cX8_put 40 = .ok (.iinc 2 (-8), 3) := by decide +kernel
theorem dX8_put_43 : decode cX8_put 43 = .ok (.goto (-40), 3) := by decide +kernel
theorem dX8_put_46 : decode cX8_put 46 = .ok (.return_, 1) := by decide +kernel
abbrev rm_X8_put : Room := { frames := 0, cells := 0, slots := 0, locals := 0 }
def f_X8_put_3 (N : Nat) : Nat → Int32 → Int32 → St → Option St
  | 0, _, _, _ => none
  | n + 1, x1, x2, σ => (if x2 < 0 then some σ else (if 800 ≤ (σ.1 4801 0) then f_X8_put_3 N n x1 (x2 + (-8)) σ else grd (ib (σ.1 4801 0) 800) (f_X8_put_3 N n x1 (x2 + (-8)) (si (si σ 20 (σ.1 4801 0).toNatClampNeg (((ushr x1 x2).toInt8.toInt32).toInt8.toInt32)) 4801 0 ((σ.1 4801 0) + 1)))))
def f_X8_put (N : Nat) (x1 : Int32) (σ : St) : Option St := f_X8_put_3 N N x1 24 σ
section
variable {p : Program} {l : Launch} {e : Env} {s : State} {m : MethodId} {args : Array Value} {below : List Frame} {meth : Method} {c : Code} {g : XG}
set_option maxRecDepth 4000 in
theorem w_X8_put_3 (N : Nat) {σ' : St} (C : xC KX g RX8 cX8_put 3 none p s m args meth c) : ∀ (n : Nat), ∀ (x1 : Int32) (x2 : Int32) (σ : St) (H : Heap) (locs : List Loc) (ls : Array Slot), xW KX g s σ H locs → lv_has ls 3 [(0, .ref (g.q 19)), (1, .int x1), (2, .int x2)] → f_X8_put_3 N n x1 x2 σ = some σ' → W p l e rm_X8_put s m args below meth c H locs 0 0 (MQ below (xPost KX g none σ') args s 0 0 (xA KX g.q)) (F0 m 3 ls []) := by
  have hx := C.1
  have hb := C.2.1
  intro n
  induction n with
  | zero => intro x1 x2 σ H locs ls hW hl h; rw [f_X8_put_3] at h; cases h
  | succ n ih =>
    intro x1 x2 σ H locs ls hW hl h
    rw [f_X8_put_3] at h
    refine lv_iload_n hx hb dX8_put_3 rfl (lv_at hl 2 rfl) ?_
    refine lv_if_lt (tgt := 46) hx hb dX8_put_4 (by decide) (fun c1 => ?_) (fun c1 => ?_)
    · have h := xit c1 h
      cases h
      exact xr_v C hW dX8_put_46
    · have h := xif c1 h
      refine lv_aload_n hx hb dX8_put_7 rfl (lv_at hl 0 rfl) ?_
      refine xg_i C hW fg_8_19 KX_19 rfl (v := 4801) rfl (x := σ.1 4801 0) rfl dX8_put_8 ?_
      refine lv_sipush (v := 800) hx hb dX8_put_11 rfl ?_
      refine lv_icmp_ge (tgt := 40) hx hb dX8_put_14 (by decide) (fun c2 => ?_) (fun c2 => ?_)
      · have h := xit c2 h
        refine lv_iinc (v := x2 + (-8)) (lv' := [(2, .int (x2 + (-8))), (0, .ref (g.q 19)), (1, .int x1)]) hx hb dX8_put_40 hl (k := 2) rfl rfl (Nat.le_of_ble_eq_true rfl) rfl (fun ls hl => ?_)
        refine lv_goto (tgt := 3) hx hb dX8_put_43 (by decide) ?_
        exact ih x1 (x2 + (-8)) _ _ _ _ hW (lv_sub hl [1, 2, 0] rfl) h
      · have h := xif c2 h
        refine lv_aload_n hx hb dX8_put_17 rfl (lv_at hl 0 rfl) ?_
        refine xg_r C hW fg_8_11 KX_19 rfl dX8_put_18 ?_
        refine lv_aload_n hx hb dX8_put_21 rfl (lv_at hl 0 rfl) ?_
        refine xg_i C hW fg_8_19 KX_19 rfl (v := 4801) rfl (x := σ.1 4801 0) rfl dX8_put_22 ?_
        refine lv_iload_n hx hb dX8_put_25 rfl (lv_at hl 1 rfl) ?_
        refine lv_iload_n hx hb dX8_put_26 rfl (lv_at hl 2 rfl) ?_
        refine lv_iushr (v := ushr x1 x2) hx hb dX8_put_27 rfl ?_
        refine lv_i2b (v := (ushr x1 x2).toInt8.toInt32) hx hb dX8_put_28 rfl ?_
        obtain ⟨g3, h⟩ := xgd h
        refine xs_b C hW KX_20 g3 dX8_put_29 (fun H locs hW => ?_)
        refine lv_aload_n hx hb dX8_put_30 rfl (lv_at hl 0 rfl) ?_
        refine lv_dup hx hb dX8_put_31 rfl ?_
        refine xg_i C hW fg_8_19 KX_19 rfl (v := 4801) rfl (x := σ.1 4801 0) rfl dX8_put_32 ?_
        refine lv_iconst (v := 1) hx hb dX8_put_35 rfl ?_
        refine lv_iadd hx hb dX8_put_36 ?_
        refine xp_i C hW fp_8_19 KX_19 rfl (v := 4801) rfl rfl rfl dX8_put_37 (fun H locs hW => ?_)
        refine lv_iinc (v := x2 + (-8)) (lv' := [(2, .int (x2 + (-8))), (0, .ref (g.q 19)), (1, .int x1)]) hx hb dX8_put_40 hl (k := 2) rfl rfl (Nat.le_of_ble_eq_true rfl) rfl (fun ls hl => ?_)
        refine lv_goto (tgt := 3) hx hb dX8_put_43 (by decide) ?_
        exact ih x1 (x2 + (-8)) _ _ _ _ hW (lv_sub hl [1, 2, 0] rfl) h
set_option maxRecDepth 4000 in
theorem m_X8_put (N : Nat) (x1 : Int32) (σ : St) {σ' : St} (h : f_X8_put N x1 σ = some σ') : xM l KX g yX8_put cX8_put 3 none rm_X8_put [.ref (g.q 19), .int x1] σ none σ' := by
  refine xmet pn_X8 rfl (Nat.le_of_ble_eq_true rfl) (lv := [(0, .ref (g.q 19)), (1, .int x1)]) rfl (fun p e s m args below meth c ls C hW hl => ?_)
  have hx := C.1
  have hb := C.2.1
  unfold f_X8_put at h
  refine lv_bipush (v := 24) hx hb dX8_put_0 rfl ?_
  refine lv_istore_n (lv' := [(2, .int 24), (0, .ref (g.q 19)), (1, .int x1)]) hx hb dX8_put_2 rfl hl (Nat.le_of_ble_eq_true rfl) rfl (fun ls hl => ?_)
  exact w_X8_put_3 N C N x1 24 _ _ _ _ hW (lv_sub hl [1, 2, 0] rfl) h
end
theorem dX8_rewind_0 : decode cX8_rewind 0 = .ok (.aload_n 0, 1) := by decide +kernel
theorem dX8_rewind_1 : decode cX8_rewind 1 = .ok (.iconst 0, 1) := by decide +kernel
theorem dX8_rewind_2 : decode cX8_rewind 2 = .ok (.putfield 22, 3) := by decide +kernel
theorem dX8_rewind_5 : decode cX8_rewind 5 = .ok (.return_, 1) := by decide +kernel
abbrev rm_X8_rewind : Room := { frames := 0, cells := 0, slots := 0, locals := 0 }
def f_X8_rewind (σ : St) : Option St := some ((si σ 4802 0 0))
section
variable {p : Program} {l : Launch} {e : Env} {s : State} {m : MethodId} {args : Array Value} {below : List Frame} {meth : Method} {c : Code} {g : XG}
set_option maxRecDepth 4000 in
theorem m_X8_rewind (σ : St) {σ' : St} (h : f_X8_rewind σ = some σ') : xM l KX g yX8_rewind cX8_rewind 1 none rm_X8_rewind [.ref (g.q 19)] σ none σ' := by
  refine xmet pn_X8 rfl (Nat.le_of_ble_eq_true rfl) (lv := [(0, .ref (g.q 19))]) rfl (fun p e s m args below meth c ls C hW hl => ?_)
  have hx := C.1
  have hb := C.2.1
  unfold f_X8_rewind at h
  refine lv_aload_n hx hb dX8_rewind_0 rfl (lv_at hl 0 rfl) ?_
  refine lv_iconst (v := 0) hx hb dX8_rewind_1 rfl ?_
  refine xp_i C hW fp_8_22 KX_19 rfl (v := 4802) rfl rfl rfl dX8_rewind_2 (fun H locs hW => ?_)
  cases h
  exact xr_v C hW dX8_rewind_5
end
theorem dX8_drain_0 : decode cX8_drain 0 = .ok (.aload_n 0, 1) := by decide +kernel
theorem dX8_drain_1 : decode cX8_drain 1 = .ok (.iconst 0, 1) := by decide +kernel
theorem dX8_drain_2 : decode cX8_drain 2 = .ok (.putfield 19, 3) := by decide +kernel
theorem dX8_drain_5 : decode cX8_drain 5 = .ok (.return_, 1) := by decide +kernel
abbrev rm_X8_drain : Room := { frames := 0, cells := 0, slots := 0, locals := 0 }
def f_X8_drain (σ : St) : Option St := some ((si σ 4801 0 0))
section
variable {p : Program} {l : Launch} {e : Env} {s : State} {m : MethodId} {args : Array Value} {below : List Frame} {meth : Method} {c : Code} {g : XG}
set_option maxRecDepth 4000 in
theorem m_X8_drain (σ : St) {σ' : St} (h : f_X8_drain σ = some σ') : xM l KX g yX8_drain cX8_drain 1 none rm_X8_drain [.ref (g.q 19)] σ none σ' := by
  refine xmet pn_X8 rfl (Nat.le_of_ble_eq_true rfl) (lv := [(0, .ref (g.q 19))]) rfl (fun p e s m args below meth c ls C hW hl => ?_)
  have hx := C.1
  have hb := C.2.1
  unfold f_X8_drain at h
  refine lv_aload_n hx hb dX8_drain_0 rfl (lv_at hl 0 rfl) ?_
  refine lv_iconst (v := 0) hx hb dX8_drain_1 rfl ?_
  refine xp_i C hW fp_8_19 KX_19 rfl (v := 4801) rfl rfl rfl dX8_drain_2 (fun H locs hW => ?_)
  cases h
  exact xr_v C hW dX8_drain_5
end
theorem dX8_forgetFault_0 : decode cX8_forgetFault 0 = .ok (.aload_n 0, 1) := by decide +kernel
theorem dX8_forgetFault_1 : decode cX8_forgetFault 1 = .ok (.iconst 0, 1) := by decide +kernel
theorem dX8_forgetFault_2 : decode cX8_forgetFault 2 = .ok (.putfield 25, 3) := by decide +kernel
theorem dX8_forgetFault_5 : decode cX8_forgetFault 5 = .ok (.aload_n 0, 1) := by decide +kernel
theorem dX8_forgetFault_6 : decode cX8_forgetFault 6 = .ok (.iconst (-1), 1) := by decide +kernel
theorem dX8_forgetFault_7 : decode cX8_forgetFault 7 = .ok (.putfield 15, 3) := by decide +kernel
theorem dX8_forgetFault_10 : decode cX8_forgetFault 10 = .ok (.return_, 1) := by decide +kernel
abbrev rm_X8_forgetFault : Room := { frames := 0, cells := 0, slots := 0, locals := 0 }
def f_X8_forgetFault (σ : St) : Option St := some ((si (si σ 4811 0 0) 4812 0 ((-1))))
section
variable {p : Program} {l : Launch} {e : Env} {s : State} {m : MethodId} {args : Array Value} {below : List Frame} {meth : Method} {c : Code} {g : XG}
set_option maxRecDepth 4000 in
theorem m_X8_forgetFault (σ : St) {σ' : St} (h : f_X8_forgetFault σ = some σ') : xM l KX g yX8_forgetFault cX8_forgetFault 1 none rm_X8_forgetFault [.ref (g.q 19)] σ none σ' := by
  refine xmet pn_X8 rfl (Nat.le_of_ble_eq_true rfl) (lv := [(0, .ref (g.q 19))]) rfl (fun p e s m args below meth c ls C hW hl => ?_)
  have hx := C.1
  have hb := C.2.1
  unfold f_X8_forgetFault at h
  refine lv_aload_n hx hb dX8_forgetFault_0 rfl (lv_at hl 0 rfl) ?_
  refine lv_iconst (v := 0) hx hb dX8_forgetFault_1 rfl ?_
  refine xp_i C hW fp_8_25 KX_19 rfl (v := 4811) rfl rfl rfl dX8_forgetFault_2 (fun H locs hW => ?_)
  refine lv_aload_n hx hb dX8_forgetFault_5 rfl (lv_at hl 0 rfl) ?_
  refine lv_iconst (v := (-1)) hx hb dX8_forgetFault_6 rfl ?_
  refine xp_i C hW fp_8_15 KX_19 rfl (v := 4812) rfl rfl rfl dX8_forgetFault_7 (fun H locs hW => ?_)
  cases h
  exact xr_v C hW dX8_forgetFault_10
end
theorem dX9_has_0 : decode cX9_has 0 = .ok (.iload_n 1, 1) := by decide +kernel
theorem dX9_has_1 : decode cX9_has 1 = .ok (.ifCond .lt 15, 3) := by decide +kernel
theorem dX9_has_4 : decode cX9_has 4 = .ok (.iload_n 1, 1) := by decide +kernel
theorem dX9_has_5 : decode cX9_has 5 = .ok (.aload_n 0, 1) := by decide +kernel
theorem dX9_has_6 : decode cX9_has 6 = .ok (.getfield 25, 3) := by decide +kernel
theorem dX9_has_9 : decode cX9_has 9 = .ok (.if_icmp .ge 7, 3) := by decide +kernel
theorem dX9_has_12 : decode cX9_has 12 = .ok (.iconst 1, 1) := by decide +kernel
theorem dX9_has_13 : decode cX9_has 13 = .ok (.goto 4, 3) := by decide +kernel
theorem dX9_has_16 : decode cX9_has 16 = .ok (.iconst 0, 1) := by decide +kernel
theorem dX9_has_17 : decode cX9_has 17 = .ok (.ireturn, 1) := by decide +kernel
abbrev rm_X9_has : Room := { frames := 0, cells := 0, slots := 0, locals := 0 }
def f_X9_has (x1 : Int32) (σ : St) : Int32 := (if x1 < 0 then 0 else (if (σ.1 7600 0) ≤ x1 then 0 else 1))
section
variable {p : Program} {l : Launch} {e : Env} {s : State} {m : MethodId} {args : Array Value} {below : List Frame} {meth : Method} {c : Code} {g : XG}
set_option maxRecDepth 4000 in
theorem m_X9_has (x1 : Int32) (σ : St) {r : Int32} (h : f_X9_has x1 σ = r) : xM l KX g yX9_has cX9_has 2 (some .boolean) rm_X9_has [.ref (g.q 33), .int x1] σ (some (.int r)) σ := by
  refine xmet pn_X9 rfl (Nat.le_of_ble_eq_true rfl) (lv := [(0, .ref (g.q 33)), (1, .int x1)]) rfl (fun p e s m args below meth c ls C hW hl => ?_)
  have hx := C.1
  have hb := C.2.1
  unfold f_X9_has at h
  refine lv_iload_n hx hb dX9_has_0 rfl (lv_at hl 1 rfl) ?_
  refine lv_if_lt (tgt := 16) hx hb dX9_has_1 (by decide) (fun c1 => ?_) (fun c1 => ?_)
  · have h := xit c1 h
    refine lv_iconst (v := 0) hx hb dX9_has_16 rfl ?_
    cases h
    exact xr_z C hW (by decide) dX9_has_17
  · have h := xif c1 h
    refine lv_iload_n hx hb dX9_has_4 rfl (lv_at hl 1 rfl) ?_
    refine lv_aload_n hx hb dX9_has_5 rfl (lv_at hl 0 rfl) ?_
    refine xg_i C hW fg_9_25 KX_33 rfl (v := 7600) rfl (x := σ.1 7600 0) rfl dX9_has_6 ?_
    refine lv_icmp_ge (tgt := 16) hx hb dX9_has_9 (by decide) (fun c2 => ?_) (fun c2 => ?_)
    · have h := xit c2 h
      refine lv_iconst (v := 0) hx hb dX9_has_16 rfl ?_
      cases h
      exact xr_z C hW (by decide) dX9_has_17
    · have h := xif c2 h
      refine lv_iconst (v := 1) hx hb dX9_has_12 rfl ?_
      refine lv_goto (tgt := 17) hx hb dX9_has_13 (by decide) ?_
      cases h
      exact xr_z C hW (by decide) dX9_has_17
end
theorem dX9_isNamed_0 : decode cX9_isNamed 0 = .ok (.iconst 0, 1) := by decide +kernel
theorem dX9_isNamed_1 : decode cX9_isNamed 1 = .ok (.istore_n 3, 1) := by decide +kernel
theorem dX9_isNamed_2 : decode cX9_isNamed 2 = .ok (.iload_n 3, 1) := by decide +kernel
theorem dX9_isNamed_3 : decode cX9_isNamed 3 = .ok (.aload_n 0, 1) := by decide +kernel
theorem dX9_isNamed_4 : decode cX9_isNamed 4 = .ok (.getfield 25, 3) := by decide +kernel
theorem dX9_isNamed_7 : decode cX9_isNamed 7 = .ok (.if_icmp .ge 22, 3) := by decide +kernel
theorem dX9_isNamed_10 : decode cX9_isNamed 10 = .ok (.aload_n 0, 1) := by decide +kernel
theorem dX9_isNamed_11 : decode cX9_isNamed 11 = .ok (.getfield 11, 3) := by decide +kernel
theorem dX9_isNamed_14 : decode cX9_isNamed 14 = .ok (.iload_n 3, 1) := by decide +kernel
theorem dX9_isNamed_15 : decode cX9_isNamed 15 = .ok (.laload, 1) := by decide +kernel
theorem dX9_isNamed_16 : decode cX9_isNamed 16 = .ok (.lload_n 1, 1) := by decide +kernel
theorem dX9_isNamed_17 : decode cX9_isNamed 17 = .ok (.lcmp, 1) := by decide +kernel
theorem dX9_isNamed_18 : decode cX9_isNamed 18 = .ok (.ifCond .ne 5, 3) := by decide +kernel
theorem dX9_isNamed_21 : decode cX9_isNamed 21 = .ok (.iconst 1, 1) := by decide +kernel
theorem dX9_isNamed_22 : decode cX9_isNamed 22 = .ok (.ireturn, 1) := by decide +kernel
theorem dX9_isNamed_23 : decode cX9_isNamed 23 = .ok (.iinc 3 1, 3) := by decide +kernel
theorem dX9_isNamed_26 : decode cX9_isNamed 26 = .ok (.goto (-24), 3) := by decide +kernel
theorem dX9_isNamed_29 : decode cX9_isNamed 29 = .ok (.iconst 0, 1) := by decide +kernel
theorem dX9_isNamed_30 : decode cX9_isNamed 30 = .ok (.ireturn, 1) := by decide +kernel
abbrev rm_X9_isNamed : Room := { frames := 0, cells := 0, slots := 0, locals := 0 }
def f_X9_isNamed_2 (N : Nat) : Nat → Int64 → Int32 → St → Option Int32
  | 0, _, _, _ => none
  | n + 1, x1, x3, σ => (if (σ.1 7600 0) ≤ x3 then some 0 else grd (ib x3 40) ((if (lg_cmp (σ.2 34 x3.toNatClampNeg) x1) = 0 then some 1 else f_X9_isNamed_2 N n x1 (x3 + 1) σ)))
def f_X9_isNamed (N : Nat) (x1 : Int64) (σ : St) : Option Int32 := f_X9_isNamed_2 N N x1 0 σ
section
variable {p : Program} {l : Launch} {e : Env} {s : State} {m : MethodId} {args : Array Value} {below : List Frame} {meth : Method} {c : Code} {g : XG}
set_option maxRecDepth 4000 in
theorem w_X9_isNamed_2 (N : Nat) (σ : St) {r : Int32} (C : xC KX g RX9 cX9_isNamed 4 (some .boolean) p s m args meth c) : ∀ (n : Nat), ∀ (x1 : Int64) (x3 : Int32) (H : Heap) (locs : List Loc) (ls : Array Slot), xW KX g s σ H locs → lv_has ls 4 [(0, .ref (g.q 33)), (1, .long x1), (3, .int x3)] → f_X9_isNamed_2 N n x1 x3 σ = some r → W p l e rm_X9_isNamed s m args below meth c H locs 0 0 (MQ below (xPost KX g (some (.int r)) σ) args s 0 0 (xA KX g.q)) (F0 m 2 ls []) := by
  have hx := C.1
  have hb := C.2.1
  intro n
  induction n with
  | zero => intro x1 x3 H locs ls hW hl h; rw [f_X9_isNamed_2] at h; cases h
  | succ n ih =>
    intro x1 x3 H locs ls hW hl h
    rw [f_X9_isNamed_2] at h
    refine lv_iload_n hx hb dX9_isNamed_2 rfl (lv_at hl 2 rfl) ?_
    refine lv_aload_n hx hb dX9_isNamed_3 rfl (lv_at hl 0 rfl) ?_
    refine xg_i C hW fg_9_25 KX_33 rfl (v := 7600) rfl (x := σ.1 7600 0) rfl dX9_isNamed_4 ?_
    refine lv_icmp_ge (tgt := 29) hx hb dX9_isNamed_7 (by decide) (fun c1 => ?_) (fun c1 => ?_)
    · have h := xit c1 h
      refine lv_iconst (v := 0) hx hb dX9_isNamed_29 rfl ?_
      cases h
      exact xr_z C hW (by decide) dX9_isNamed_30
    · have h := xif c1 h
      refine lv_aload_n hx hb dX9_isNamed_10 rfl (lv_at hl 0 rfl) ?_
      refine xg_r C hW fg_9_11 KX_33 rfl dX9_isNamed_11 ?_
      refine lv_iload_n hx hb dX9_isNamed_14 rfl (lv_at hl 2 rfl) ?_
      obtain ⟨g2, h⟩ := xgd h
      refine xa_l C hW KX_34 g2 (x := σ.2 34 x3.toNatClampNeg) rfl dX9_isNamed_15 ?_
      refine lv_lload_n hx hb dX9_isNamed_16 rfl (lv_at hl 1 rfl) ?_
      refine W.lcmp hx hb dX9_isNamed_17 ?_
      refine lv_if_ne (tgt := 23) hx hb dX9_isNamed_18 (by decide) (fun c3 => ?_) (fun c3 => ?_)
      · have h := xif c3 h
        refine lv_iinc (v := x3 + 1) (lv' := [(3, .int (x3 + 1)), (0, .ref (g.q 33)), (1, .long x1)]) hx hb dX9_isNamed_23 hl (k := 2) rfl rfl (Nat.le_of_ble_eq_true rfl) rfl (fun ls hl => ?_)
        refine lv_goto (tgt := 2) hx hb dX9_isNamed_26 (by decide) ?_
        exact ih x1 (x3 + 1) _ _ _ hW (lv_sub hl [1, 2, 0] rfl) h
      · have h := xit c3 h
        refine lv_iconst (v := 1) hx hb dX9_isNamed_21 rfl ?_
        cases h
        exact xr_z C hW (by decide) dX9_isNamed_22
set_option maxRecDepth 4000 in
theorem m_X9_isNamed (N : Nat) (x1 : Int64) (σ : St) {r : Int32} (h : f_X9_isNamed N x1 σ = some r) : xM l KX g yX9_isNamed cX9_isNamed 4 (some .boolean) rm_X9_isNamed [.ref (g.q 33), .long x1] σ (some (.int r)) σ := by
  refine xmet pn_X9 rfl (Nat.le_of_ble_eq_true rfl) (lv := [(0, .ref (g.q 33)), (1, .long x1)]) rfl (fun p e s m args below meth c ls C hW hl => ?_)
  have hx := C.1
  have hb := C.2.1
  unfold f_X9_isNamed at h
  refine lv_iconst (v := 0) hx hb dX9_isNamed_0 rfl ?_
  refine lv_istore_n (lv' := [(3, .int 0), (0, .ref (g.q 33)), (1, .long x1)]) hx hb dX9_isNamed_1 rfl hl (Nat.le_of_ble_eq_true rfl) rfl (fun ls hl => ?_)
  exact w_X9_isNamed_2 N σ C N x1 0 _ _ _ hW (lv_sub hl [1, 2, 0] rfl) h
end
theorem dX9_put_0 : decode cX9_put 0 = .ok (.aload_n 0, 1) := by decide +kernel
theorem dX9_put_1 : decode cX9_put 1 = .ok (.getfield 11, 3) := by decide +kernel
theorem dX9_put_4 : decode cX9_put 4 = .ok (.aload_n 0, 1) := by decide +kernel
theorem dX9_put_5 : decode cX9_put 5 = .ok (.getfield 25, 3) := by decide +kernel
theorem dX9_put_8 : decode cX9_put 8 = .ok (.lload_n 1, 1) := by decide +kernel
theorem dX9_put_9 : decode cX9_put 9 = .ok (.lastore, 1) := by decide +kernel
theorem dX9_put_10 : decode cX9_put 10 = .ok (.aload_n 0, 1) := by decide +kernel
theorem dX9_put_11 : decode cX9_put 11 = .ok (.getfield 15, 3) := by decide +kernel
theorem dX9_put_14 : decode cX9_put 14 = .ok (.aload_n 0, 1) := by decide +kernel
theorem dX9_put_15 : decode cX9_put 15 = .ok (.getfield 25, 3) := by decide +kernel
theorem dX9_put_18 : decode cX9_put 18 = .ok (.iload_n 3, 1) := by decide +kernel
theorem dX9_put_19 : decode cX9_put 19 = .ok (.iastore, 1) := by decide +kernel
theorem dX9_put_20 : decode cX9_put 20 = .ok (.aload_n 0, 1) := by decide +kernel
theorem dX9_put_21 : decode cX9_put 21 = .ok (.getfield 19, 3) := by decide +kernel
theorem dX9_put_24 : decode cX9_put 24 = .ok (.aload_n 0, 1) := by decide +kernel
theorem dX9_put_25 : decode cX9_put 25 = .ok (.getfield 25, 3) := by decide +kernel
theorem dX9_put_28 : decode cX9_put 28 = .ok (.iload 4, 2) := by decide +kernel
theorem dX9_put_30 : decode cX9_put 30 = .ok (.iastore, 1) := by decide +kernel
theorem dX9_put_31 : decode cX9_put 31 = .ok (.aload_n 0, 1) := by decide +kernel
theorem dX9_put_32 : decode cX9_put 32 = .ok (.getfield 22, 3) := by decide +kernel
theorem dX9_put_35 : decode cX9_put 35 = .ok (.aload_n 0, 1) := by decide +kernel
theorem dX9_put_36 : decode cX9_put 36 = .ok (.getfield 25, 3) := by decide +kernel
theorem dX9_put_39 : decode cX9_put 39 = .ok (.lload 5, 2) := by decide +kernel
theorem dX9_put_41 : decode cX9_put 41 = .ok (.lastore, 1) := by decide +kernel
theorem dX9_put_42 : decode cX9_put 42 = .ok (.aload_n 0, 1) := by decide +kernel
theorem dX9_put_43 : decode cX9_put 43 = .ok (.dup, 1) := by decide +kernel
theorem dX9_put_44 : decode cX9_put 44 = .ok (.getfield 25, 3) := by decide +kernel
theorem dX9_put_47 : decode cX9_put 47 = .ok (.iconst 1, 1) := by decide +kernel
theorem dX9_put_48 : decode cX9_put 48 = .ok (.iadd, 1) := by decide +kernel
theorem dX9_put_49 : decode cX9_put 49 = .ok (.putfield 25, 3) := by decide +kernel
theorem dX9_put_52 : decode cX9_put 52 = .ok (.aload_n 0, 1) := by decide +kernel
theorem dX9_put_53 : decode cX9_put 53 = .ok (.getfield 25, 3) := by decide +kernel
theorem dX9_put_56 : decode cX9_put 56 = .ok (.iconst 1, 1) := by decide +kernel
theorem dX9_put_57 : decode cX9_put 57 = .ok (.isub, 1) := by decide +kernel
theorem dX9_put_58 : decode cX9_put 58 = .ok (.ireturn, 1) := by decide +kernel
abbrev rm_X9_put : Room := { frames := 0, cells := 0, slots := 0, locals := 0 }
def f_X9_put (x1 : Int64) (x3 : Int32) (x4 : Int32) (x5 : Int64) (σ : St) : Option (Int32 × St) := grd (ib (σ.1 7600 0) 40) (grd (ib (σ.1 7600 0) 40) (grd (ib (σ.1 7600 0) 40) (grd (ib (σ.1 7600 0) 40) (some (((σ.1 7600 0) + 1) - 1, (si (sl (si (si (sl σ 34 (σ.1 7600 0).toNatClampNeg x1) 35 (σ.1 7600 0).toNatClampNeg x3) 36 (σ.1 7600 0).toNatClampNeg x4) 37 (σ.1 7600 0).toNatClampNeg x5) 7600 0 ((σ.1 7600 0) + 1)))))))
section
variable {p : Program} {l : Launch} {e : Env} {s : State} {m : MethodId} {args : Array Value} {below : List Frame} {meth : Method} {c : Code} {g : XG}
set_option maxRecDepth 4000 in
theorem m_X9_put (x1 : Int64) (x3 : Int32) (x4 : Int32) (x5 : Int64) (σ : St) {r : Int32} {σ' : St} (h : f_X9_put x1 x3 x4 x5 σ = some (r, σ')) : xM l KX g yX9_put cX9_put 7 (some .int) rm_X9_put [.ref (g.q 33), .long x1, .int x3, .int x4, .long x5] σ (some (.int r)) σ' := by
  refine xmet pn_X9 rfl (Nat.le_of_ble_eq_true rfl) (lv := [(0, .ref (g.q 33)), (1, .long x1), (3, .int x3), (4, .int x4), (5, .long x5)]) rfl (fun p e s m args below meth c ls C hW hl => ?_)
  have hx := C.1
  have hb := C.2.1
  unfold f_X9_put at h
  refine lv_aload_n hx hb dX9_put_0 rfl (lv_at hl 0 rfl) ?_
  refine xg_r C hW fg_9_11 KX_33 rfl dX9_put_1 ?_
  refine lv_aload_n hx hb dX9_put_4 rfl (lv_at hl 0 rfl) ?_
  refine xg_i C hW fg_9_25 KX_33 rfl (v := 7600) rfl (x := σ.1 7600 0) rfl dX9_put_5 ?_
  refine lv_lload_n hx hb dX9_put_8 rfl (lv_at hl 1 rfl) ?_
  obtain ⟨g1, h⟩ := xgd h
  refine xs_l C hW KX_34 g1 dX9_put_9 (fun H locs hW => ?_)
  refine lv_aload_n hx hb dX9_put_10 rfl (lv_at hl 0 rfl) ?_
  refine xg_r C hW fg_9_15 KX_33 rfl dX9_put_11 ?_
  refine lv_aload_n hx hb dX9_put_14 rfl (lv_at hl 0 rfl) ?_
  refine xg_i C hW fg_9_25 KX_33 rfl (v := 7600) rfl (x := σ.1 7600 0) rfl dX9_put_15 ?_
  refine lv_iload_n hx hb dX9_put_18 rfl (lv_at hl 2 rfl) ?_
  obtain ⟨g2, h⟩ := xgd h
  refine xs_i C hW KX_35 g2 dX9_put_19 (fun H locs hW => ?_)
  refine lv_aload_n hx hb dX9_put_20 rfl (lv_at hl 0 rfl) ?_
  refine xg_r C hW fg_9_19 KX_33 rfl dX9_put_21 ?_
  refine lv_aload_n hx hb dX9_put_24 rfl (lv_at hl 0 rfl) ?_
  refine xg_i C hW fg_9_25 KX_33 rfl (v := 7600) rfl (x := σ.1 7600 0) rfl dX9_put_25 ?_
  refine lv_iload hx hb dX9_put_28 (lv_at hl 3 rfl) ?_
  obtain ⟨g3, h⟩ := xgd h
  refine xs_i C hW KX_36 g3 dX9_put_30 (fun H locs hW => ?_)
  refine lv_aload_n hx hb dX9_put_31 rfl (lv_at hl 0 rfl) ?_
  refine xg_r C hW fg_9_22 KX_33 rfl dX9_put_32 ?_
  refine lv_aload_n hx hb dX9_put_35 rfl (lv_at hl 0 rfl) ?_
  refine xg_i C hW fg_9_25 KX_33 rfl (v := 7600) rfl (x := σ.1 7600 0) rfl dX9_put_36 ?_
  refine lv_lload hx hb dX9_put_39 (lv_at hl 4 rfl) ?_
  obtain ⟨g4, h⟩ := xgd h
  refine xs_l C hW KX_37 g4 dX9_put_41 (fun H locs hW => ?_)
  refine lv_aload_n hx hb dX9_put_42 rfl (lv_at hl 0 rfl) ?_
  refine lv_dup hx hb dX9_put_43 rfl ?_
  refine xg_i C hW fg_9_25 KX_33 rfl (v := 7600) rfl (x := σ.1 7600 0) rfl dX9_put_44 ?_
  refine lv_iconst (v := 1) hx hb dX9_put_47 rfl ?_
  refine lv_iadd hx hb dX9_put_48 ?_
  refine xp_i C hW fp_9_25 KX_33 rfl (v := 7600) rfl rfl rfl dX9_put_49 (fun H locs hW => ?_)
  refine lv_aload_n hx hb dX9_put_52 rfl (lv_at hl 0 rfl) ?_
  refine xg_i C hW fg_9_25 KX_33 rfl (v := 7600) rfl (x := (σ.1 7600 0) + 1) rfl dX9_put_53 ?_
  refine lv_iconst (v := 1) hx hb dX9_put_56 rfl ?_
  refine lv_isub hx hb dX9_put_57 ?_
  cases h
  exact xr_i C hW dX9_put_58
end
