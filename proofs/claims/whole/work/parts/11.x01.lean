theorem dX8_isMark_0 : decode cX8_isMark 0 = .ok (.iload_n 0, 1) := by decide +kernel
theorem dX8_isMark_1 : decode cX8_isMark 1 = .ok (.bipush 59, 2) := by decide +kernel
theorem dX8_isMark_3 : decode cX8_isMark 3 = .ok (.if_icmp .eq 39, 3) := by decide +kernel
theorem dX8_isMark_6 : decode cX8_isMark 6 = .ok (.iload_n 0, 1) := by decide +kernel
theorem dX8_isMark_7 : decode cX8_isMark 7 = .ok (.bipush 58, 2) := by decide +kernel
theorem dX8_isMark_9 : decode cX8_isMark 9 = .ok (.if_icmp .eq 33, 3) := by decide +kernel
theorem dX8_isMark_12 : decode cX8_isMark 12 = .ok (.iload_n 0, 1) := by decide +kernel
theorem dX8_isMark_13 : decode cX8_isMark 13 = .ok (.bipush 42, 2) := by decide +kernel
theorem dX8_isMark_15 : decode cX8_isMark 15 = .ok (.if_icmp .eq 27, 3) := by decide +kernel
theorem dX8_isMark_18 : decode cX8_isMark 18 = .ok (.iload_n 0, 1) := by decide +kernel
theorem dX8_isMark_19 : decode cX8_isMark 19 = .ok (.bipush 38, 2) := by decide +kernel
theorem dX8_isMark_21 : decode cX8_isMark 21 = .ok (.if_icmp .eq 21, 3) := by decide +kernel
theorem dX8_isMark_24 : decode cX8_isMark 24 = .ok (.iload_n 0, 1) := by decide +kernel
theorem dX8_isMark_25 : decode cX8_isMark 25 = .ok (.bipush 45, 2) := by decide +kernel
theorem dX8_isMark_27 : decode cX8_isMark 27 = .ok (.if_icmp .eq 15, 3) := by decide +kernel
theorem dX8_isMark_30 : decode cX8_isMark 30 = .ok (.iload_n 0, 1) := by decide +kernel
theorem dX8_isMark_31 : decode cX8_isMark 31 = .ok (.bipush 40, 2) := by decide +kernel
theorem dX8_isMark_33 : decode cX8_isMark 33 = .ok (.if_icmp .eq 9, 3) := by decide +kernel
theorem dX8_isMark_36 : decode cX8_isMark 36 = .ok (.iload_n 0, 1) := by decide +kernel
theorem dX8_isMark_37 : decode cX8_isMark 37 = .ok (.bipush 41, 2) := by decide +kernel
theorem dX8_isMark_39 : decode cX8_isMark 39 = .ok (.if_icmp .ne 7, 3) := by decide +kernel
theorem dX8_isMark_42 : decode cX8_isMark 42 = .ok (.iconst 1, 1) := by decide +kernel
theorem dX8_isMark_43 : decode cX8_isMark 43 = .ok (.goto 4, 3) := by decide +kernel
theorem dX8_isMark_46 : decode cX8_isMark 46 = .ok (.iconst 0, 1) := by decide +kernel
theorem dX8_isMark_47 : decode cX8_isMark 47 = .ok (.ireturn, 1) := by decide +kernel
abbrev rm_X8_isMark : Room := { frames := 0, cells := 0, slots := 0, locals := 0 }
def f_X8_isMark (x0 : Int32) (σ : St) : Int32 := (if x0 = 59 then 1 else (if x0 = 58 then 1 else (if x0 = 42 then 1 else (if x0 = 38 then 1 else (if x0 = 45 then 1 else (if x0 = 40 then 1 else (if x0 = 41 then 1 else 0)))))))
section
variable {p : Program} {l : Launch} {e : Env} {s : State} {m : MethodId} {args : Array Value} {below : List Frame} {meth : Method} {c : Code} {g : XG}
set_option maxRecDepth 4000 in
theorem m_X8_isMark (x0 : Int32) (σ : St) {r : Int32} (h : f_X8_isMark x0 σ = r) : xM l KX g yX8_isMark cX8_isMark 1 (some .boolean) rm_X8_isMark [.int x0] σ (some (.int r)) σ := by
  refine xmet pn_X8 rfl (Nat.le_of_ble_eq_true rfl) (lv := [(0, .int x0)]) rfl (fun p e s m args below meth c ls C hW hl => ?_)
  have hx := C.1
  have hb := C.2.1
  unfold f_X8_isMark at h
  refine lv_iload_n hx hb dX8_isMark_0 rfl (lv_at hl 0 rfl) ?_
  refine lv_bipush (v := 59) hx hb dX8_isMark_1 rfl ?_
  refine lv_icmp_eq (tgt := 42) hx hb dX8_isMark_3 (by decide) (fun c1 => ?_) (fun c1 => ?_)
  · have h := xit c1 h
    refine lv_iconst (v := 1) hx hb dX8_isMark_42 rfl ?_
    refine lv_goto (tgt := 47) hx hb dX8_isMark_43 (by decide) ?_
    cases h
    exact xr_z C hW (by decide) dX8_isMark_47
  · have h := xif c1 h
    refine lv_iload_n hx hb dX8_isMark_6 rfl (lv_at hl 0 rfl) ?_
    refine lv_bipush (v := 58) hx hb dX8_isMark_7 rfl ?_
    refine lv_icmp_eq (tgt := 42) hx hb dX8_isMark_9 (by decide) (fun c2 => ?_) (fun c2 => ?_)
    · have h := xit c2 h
      refine lv_iconst (v := 1) hx hb dX8_isMark_42 rfl ?_
      refine lv_goto (tgt := 47) hx hb dX8_isMark_43 (by decide) ?_
      cases h
      exact xr_z C hW (by decide) dX8_isMark_47
    · have h := xif c2 h
      refine lv_iload_n hx hb dX8_isMark_12 rfl (lv_at hl 0 rfl) ?_
      refine lv_bipush (v := 42) hx hb dX8_isMark_13 rfl ?_
      refine lv_icmp_eq (tgt := 42) hx hb dX8_isMark_15 (by decide) (fun c3 => ?_) (fun c3 => ?_)
      · have h := xit c3 h
        refine lv_iconst (v := 1) hx hb dX8_isMark_42 rfl ?_
        refine lv_goto (tgt := 47) hx hb dX8_isMark_43 (by decide) ?_
        cases h
        exact xr_z C hW (by decide) dX8_isMark_47
      · have h := xif c3 h
        refine lv_iload_n hx hb dX8_isMark_18 rfl (lv_at hl 0 rfl) ?_
        refine lv_bipush (v := 38) hx hb dX8_isMark_19 rfl ?_
        refine lv_icmp_eq (tgt := 42) hx hb dX8_isMark_21 (by decide) (fun c4 => ?_) (fun c4 => ?_)
        · have h := xit c4 h
          refine lv_iconst (v := 1) hx hb dX8_isMark_42 rfl ?_
          refine lv_goto (tgt := 47) hx hb dX8_isMark_43 (by decide) ?_
          cases h
          exact xr_z C hW (by decide) dX8_isMark_47
        · have h := xif c4 h
          refine lv_iload_n hx hb dX8_isMark_24 rfl (lv_at hl 0 rfl) ?_
          refine lv_bipush (v := 45) hx hb dX8_isMark_25 rfl ?_
          refine lv_icmp_eq (tgt := 42) hx hb dX8_isMark_27 (by decide) (fun c5 => ?_) (fun c5 => ?_)
          · have h := xit c5 h
            refine lv_iconst (v := 1) hx hb dX8_isMark_42 rfl ?_
            refine lv_goto (tgt := 47) hx hb dX8_isMark_43 (by decide) ?_
            cases h
            exact xr_z C hW (by decide) dX8_isMark_47
          · have h := xif c5 h
            refine lv_iload_n hx hb dX8_isMark_30 rfl (lv_at hl 0 rfl) ?_
            refine lv_bipush (v := 40) hx hb dX8_isMark_31 rfl ?_
            refine lv_icmp_eq (tgt := 42) hx hb dX8_isMark_33 (by decide) (fun c6 => ?_) (fun c6 => ?_)
            · have h := xit c6 h
              refine lv_iconst (v := 1) hx hb dX8_isMark_42 rfl ?_
              refine lv_goto (tgt := 47) hx hb dX8_isMark_43 (by decide) ?_
              cases h
              exact xr_z C hW (by decide) dX8_isMark_47
            · have h := xif c6 h
              refine lv_iload_n hx hb dX8_isMark_36 rfl (lv_at hl 0 rfl) ?_
              refine lv_bipush (v := 41) hx hb dX8_isMark_37 rfl ?_
              refine lv_icmp_ne (tgt := 46) hx hb dX8_isMark_39 (by decide) (fun c7 => ?_) (fun c7 => ?_)
              · have h := xif c7 h
                refine lv_iconst (v := 0) hx hb dX8_isMark_46 rfl ?_
                cases h
                exact xr_z C hW (by decide) dX8_isMark_47
              · have h := xit c7 h
                refine lv_iconst (v := 1) hx hb dX8_isMark_42 rfl ?_
                refine lv_goto (tgt := 47) hx hb dX8_isMark_43 (by decide) ?_
                cases h
                exact xr_z C hW (by decide) dX8_isMark_47
end
theorem dX8_takeMark_0 : decode cX8_takeMark 0 = .ok (.aload_n 0, 1) := by decide +kernel
theorem dX8_takeMark_1 : decode cX8_takeMark 1 = .ok (.aload_n 0, 1) := by decide +kernel
theorem dX8_takeMark_2 : decode cX8_takeMark 2 = .ok (.getfield 11, 3) := by decide +kernel
theorem dX8_takeMark_5 : decode cX8_takeMark 5 = .ok (.aload_n 0, 1) := by decide +kernel
theorem dX8_takeMark_6 : decode cX8_takeMark 6 = .ok (.getfield 22, 3) := by decide +kernel
theorem dX8_takeMark_9 : decode cX8_takeMark 9 = .ok (.baload, 1) := by decide +kernel
theorem dX8_takeMark_10 : decode cX8_takeMark 10 = .ok (.putfield 71, 3) := by decide +kernel
theorem dX8_takeMark_13 : decode cX8_takeMark 13 = .ok (.aload_n 0, 1) := by decide +kernel
theorem dX8_takeMark_14 : decode cX8_takeMark 14 = .ok (.dup, 1) := by decide +kernel
theorem dX8_takeMark_15 : decode cX8_takeMark 15 = .ok (.getfield 22, 3) := by decide +kernel
theorem dX8_takeMark_18 : decode cX8_takeMark 18 = .ok (.iconst 1, 1) := by decide +kernel
theorem dX8_takeMark_19 : decode cX8_takeMark 19 = .ok (.iadd, 1) := by decide +kernel
theorem dX8_takeMark_20 : decode cX8_takeMark 20 = .ok (.putfield 22, 3) := by decide +kernel
theorem dX8_takeMark_23 : decode cX8_takeMark 23 = .ok (.aload_n 0, 1) := by decide +kernel
theorem dX8_takeMark_24 : decode cX8_takeMark 24 = .ok (.aload_n 0, 1) := by decide +kernel
theorem dX8_takeMark_25 : decode cX8_takeMark 25 = .ok (.getfield 71, 3) := by decide +kernel
theorem dX8_takeMark_28 : decode cX8_takeMark 28 = .ok (.invokestatic 74, 3) := by decide +kernel
theorem dX8_takeMark_31 : decode cX8_takeMark 31 = .ok (.ifCond .eq 7, 3) := by decide +kernel
theorem dX8_takeMark_34 : decode cX8_takeMark 34 = .ok (.iconst 3, 1) := by decide +kernel
theorem dX8_takeMark_35 : decode cX8_takeMark 35 = .ok (.goto 4, 3) := by decide +kernel
theorem dX8_takeMark_38 : decode cX8_takeMark 38 = .ok (.iconst 4, 1) := by decide +kernel
theorem dX8_takeMark_39 : decode cX8_takeMark 39 = .ok (.putfield 31, 3) := by decide +kernel
theorem dX8_takeMark_42 : decode cX8_takeMark 42 = .ok (.return_, 1) := by decide +kernel
abbrev rm_X8_takeMark : Room := { frames := 1, cells := 0, slots := 0, locals := 20 }
def f_X8_takeMark_39 (t1 : Int32) (σ : St) : Option St := some ((si σ 4803 0 t1))
def f_X8_takeMark (σ : St) : Option St := grd (ib (σ.1 4802 0) 800) ((if (f_X8_isMark (σ.1 20 (σ.1 4802 0).toNatClampNeg) (si (si σ 4810 0 (σ.1 20 (σ.1 4802 0).toNatClampNeg)) 4802 0 ((σ.1 4802 0) + 1))) = 0 then f_X8_takeMark_39 4 (si (si σ 4810 0 (σ.1 20 (σ.1 4802 0).toNatClampNeg)) 4802 0 ((σ.1 4802 0) + 1)) else f_X8_takeMark_39 3 (si (si σ 4810 0 (σ.1 20 (σ.1 4802 0).toNatClampNeg)) 4802 0 ((σ.1 4802 0) + 1))))
section
variable {p : Program} {l : Launch} {e : Env} {s : State} {m : MethodId} {args : Array Value} {below : List Frame} {meth : Method} {c : Code} {g : XG}
set_option maxRecDepth 4000 in
theorem w_X8_takeMark_39 {σ' : St} (C : xC KX g RX8 cX8_takeMark 1 none p s m args meth c) : ∀ (t1 : Int32) (σ : St) (H : Heap) (locs : List Loc) (ls : Array Slot), xW KX g s σ H locs → lv_has ls 1 [] → f_X8_takeMark_39 t1 σ = some σ' → W p l e rm_X8_takeMark s m args below meth c H locs 0 0 (MQ below (xPost KX g none σ') args s 0 0 (xA KX g.q)) (F0 m 39 ls [.int t1, .ref (g.q 19)]) := by
  have hx := C.1
  have hb := C.2.1
  intro t1 σ H locs ls hW hl h
  unfold f_X8_takeMark_39 at h
  refine xp_i C hW fp_8_31 KX_19 rfl (v := 4803) rfl rfl rfl dX8_takeMark_39 (fun H locs hW => ?_)
  cases h
  exact xr_v C hW dX8_takeMark_42
set_option maxRecDepth 4000 in
theorem m_X8_takeMark (σ : St) {σ' : St} (h : f_X8_takeMark σ = some σ') : xM l KX g yX8_takeMark cX8_takeMark 1 none rm_X8_takeMark [.ref (g.q 19)] σ none σ' := by
  refine xmet pn_X8 rfl (Nat.le_of_ble_eq_true rfl) (lv := [(0, .ref (g.q 19))]) rfl (fun p e s m args below meth c ls C hW hl => ?_)
  have hx := C.1
  have hb := C.2.1
  unfold f_X8_takeMark at h
  refine lv_aload_n hx hb dX8_takeMark_0 rfl (lv_at hl 0 rfl) ?_
  refine lv_aload_n hx hb dX8_takeMark_1 rfl (lv_at hl 0 rfl) ?_
  refine xg_r C hW fg_8_11 KX_19 rfl dX8_takeMark_2 ?_
  refine lv_aload_n hx hb dX8_takeMark_5 rfl (lv_at hl 0 rfl) ?_
  refine xg_i C hW fg_8_22 KX_19 rfl (v := 4802) rfl (x := σ.1 4802 0) rfl dX8_takeMark_6 ?_
  obtain ⟨g1, h⟩ := xgd h
  refine xa_b C hW KX_20 g1 (x := σ.1 20 (σ.1 4802 0).toNatClampNeg) rfl dX8_takeMark_9 ?_
  refine xp_i C hW fp_8_71 KX_19 rfl (v := 4810) rfl rfl rfl dX8_takeMark_10 (fun H locs hW => ?_)
  refine lv_aload_n hx hb dX8_takeMark_13 rfl (lv_at hl 0 rfl) ?_
  refine lv_dup hx hb dX8_takeMark_14 rfl ?_
  refine xg_i C hW fg_8_22 KX_19 rfl (v := 4802) rfl (x := σ.1 4802 0) rfl dX8_takeMark_15 ?_
  refine lv_iconst (v := 1) hx hb dX8_takeMark_18 rfl ?_
  refine lv_iadd hx hb dX8_takeMark_19 ?_
  refine xp_i C hW fp_8_22 KX_19 rfl (v := 4802) rfl rfl rfl dX8_takeMark_20 (fun H locs hW => ?_)
  refine lv_aload_n hx hb dX8_takeMark_23 rfl (lv_at hl 0 rfl) ?_
  refine lv_aload_n hx hb dX8_takeMark_24 rfl (lv_at hl 0 rfl) ?_
  refine xg_i C hW fg_8_71 KX_19 rfl (v := 4810) rfl (x := σ.1 20 (σ.1 4802 0).toNatClampNeg) rfl dX8_takeMark_25 ?_
  refine xc_S (As := [.int (σ.1 20 (σ.1 4802 0).toNatClampNeg)]) (rest := [.ref (g.q 19)]) C hW (m_X8_isMark (σ.1 20 (σ.1 4802 0).toNatClampNeg) _ rfl) mf_X8_isMark mt_X8_isMark ml_X8_74 ⟨rfl, rfl⟩ ⟨Nat.le_of_ble_eq_true rfl, Nat.le_of_ble_eq_true rfl⟩ hl.1 rfl rfl (Nat.le_of_ble_eq_true rfl) dX8_takeMark_28 (fun H locs hW => W.eq (g2 := F0 m 31 ls [.int (f_X8_isMark (σ.1 20 (σ.1 4802 0).toNatClampNeg) (si (si σ 4810 0 (σ.1 20 (σ.1 4802 0).toNatClampNeg)) 4802 0 ((σ.1 4802 0) + 1))), .ref (g.q 19)]) rfl ?_)
  refine lv_if_eq (tgt := 38) hx hb dX8_takeMark_31 (by decide) (fun c2 => ?_) (fun c2 => ?_)
  · have h := xit c2 h
    refine lv_iconst (v := 4) hx hb dX8_takeMark_38 rfl ?_
    exact w_X8_takeMark_39 C 4 _ _ _ _ hW (lv_sub hl [] rfl) h
  · have h := xif c2 h
    refine lv_iconst (v := 3) hx hb dX8_takeMark_34 rfl ?_
    refine lv_goto (tgt := 39) hx hb dX8_takeMark_35 (by decide) ?_
    exact w_X8_takeMark_39 C 3 _ _ _ _ hW (lv_sub hl [] rfl) h
end
theorem dX8_takeNumber_0 : decode cX8_takeNumber 0 = .ok (.iconst 0, 1) := by decide +kernel
theorem dX8_takeNumber_1 : decode cX8_takeNumber 1 = .ok (.istore_n 1, 1) := by decide +kernel
theorem dX8_takeNumber_2 : decode cX8_takeNumber 2 = .ok (.aload_n 0, 1) := by decide +kernel
theorem dX8_takeNumber_3 : decode cX8_takeNumber 3 = .ok (.iconst 0, 1) := by decide +kernel
theorem dX8_takeNumber_4 : decode cX8_takeNumber 4 = .ok (.putfield 68, 3) := by decide +kernel
theorem dX8_takeNumber_7 : decode cX8_takeNumber 7 = .ok (.aload_n 0, 1) := by decide +kernel
theorem dX8_takeNumber_8 : decode cX8_takeNumber 8 = .ok (.getfield 22, 3) := by decide +kernel
theorem dX8_takeNumber_11 : decode cX8_takeNumber 11 = .ok (.aload_n 0, 1) := by decide +kernel
theorem dX8_takeNumber_12 : decode cX8_takeNumber 12 = .ok (.getfield 19, 3) := by decide +kernel
theorem dX8_takeNumber_15 : decode cX8_takeNumber 15 = .ok (.if_icmp .ge 63, 3) := by decide +kernel
theorem dX8_takeNumber_18 : decode cX8_takeNumber 18 = .ok (.aload_n 0, 1) := by decide +kernel
theorem dX8_takeNumber_19 : decode cX8_takeNumber 19 = .ok (.getfield 11, 3) := by decide +kernel
theorem dX8_takeNumber_22 : decode cX8_takeNumber 22 = .ok (.aload_n 0, 1) := by decide +kernel
theorem dX8_takeNumber_23 : decode cX8_takeNumber 23 = .ok (.getfield 22, 3) := by decide +kernel
theorem dX8_takeNumber_26 : decode cX8_takeNumber 26 = .ok (.baload, 1) := by decide +kernel
theorem dX8_takeNumber_27 : decode cX8_takeNumber 27 = .ok (.invokestatic 41, 3) := by decide +kernel
theorem dX8_takeNumber_30 : decode cX8_takeNumber 30 = .ok (.ifCond .eq 48, 3) := by decide +kernel
theorem dX8_takeNumber_33 : decode cX8_takeNumber 33 = .ok (.iload_n 1, 1) := by decide +kernel
theorem dX8_takeNumber_34 : decode cX8_takeNumber 34 = .ok (.iconst 4, 1) := by decide +kernel
theorem dX8_takeNumber_35 : decode cX8_takeNumber 35 = .ok (.if_icmp .ge 27, 3) := by decide +kernel
theorem dX8_takeNumber_38 : decode cX8_takeNumber 38 = .ok (.aload_n 0, 1) := by decide +kernel
theorem dX8_takeNumber_39 : decode cX8_takeNumber 39 = .ok (.aload_n 0, 1) := by decide +kernel
theorem dX8_takeNumber_40 : decode cX8_takeNumber 40 = .ok (.getfield 68, 3) := by decide +kernel
theorem dX8_takeNumber_43 : decode cX8_takeNumber 43 = .ok (.bipush 10, 2) := by decide +kernel
theorem dX8_takeNumber_45 : decode cX8_takeNumber 45 = .ok (.imul, 1) := by decide +kernel
theorem dX8_takeNumber_46 : decode cX8_takeNumber 46 = .ok (.aload_n 0, 1) := by decide +kernel
theorem dX8_takeNumber_47 : decode cX8_takeNumber 47 = .ok (.getfield 11, 3) := by decide +kernel
theorem dX8_takeNumber_50 : decode cX8_takeNumber 50 = .ok (.aload_n 0, 1) := by decide +kernel
theorem dX8_takeNumber_51 : decode cX8_takeNumber 51 = .ok (.getfield 22, 3) := by decide +kernel
theorem dX8_takeNumber_54 : decode cX8_takeNumber 54 = .ok (.baload, 1) := by decide +kernel
theorem dX8_takeNumber_55 : decode cX8_takeNumber 55 = .ok (.iadd, 1) := by decide +kernel
theorem dX8_takeNumber_56 : decode cX8_takeNumber 56 = .ok (.bipush 48, 2) := by decide +kernel
theorem dX8_takeNumber_58 : decode cX8_takeNumber 58 = .ok (.isub, 1) := by decide +kernel
theorem dX8_takeNumber_59 : decode cX8_takeNumber 59 = .ok (.putfield 68, 3) := by decide +kernel
theorem dX8_takeNumber_62 : decode cX8_takeNumber 62 = .ok (.iinc 1 1, 3) := by decide +kernel
theorem dX8_takeNumber_65 : decode cX8_takeNumber 65 = .ok (.aload_n 0, 1) := by decide +kernel
theorem dX8_takeNumber_66 : decode cX8_takeNumber 66 = .ok (.dup, 1) := by decide +kernel
theorem dX8_takeNumber_67 : decode cX8_takeNumber 67 = .ok (.getfield 22, 3) := by decide +kernel
theorem dX8_takeNumber_70 : decode cX8_takeNumber 70 = .ok (.iconst 1, 1) := by decide +kernel
theorem dX8_takeNumber_71 : decode cX8_takeNumber 71 = .ok (.iadd, 1) := by decide +kernel
theorem dX8_takeNumber_72 : decode cX8_takeNumber 72 = .ok (.putfield 22, 3) := by decide +kernel
theorem dX8_takeNumber_75 : decode cX8_takeNumber 75 = .ok (.goto (-68), 3) := by decide +kernel
theorem dX8_takeNumber_78 : decode cX8_takeNumber 78 = .ok (.aload_n 0, 1) := by decide +kernel
theorem dX8_takeNumber_79 : decode cX8_takeNumber 79 = .ok (.iload_n 1, 1) := by decide +kernel
theorem dX8_takeNumber_80 : decode cX8_takeNumber 80 = .ok (.iconst 4, 1) := by decide +kernel
theorem dX8_takeNumber_81 : decode cX8_takeNumber 81 = .ok (.if_icmp .le 7, 3) := by decide +kernel
theorem dX8_takeNumber_84 : decode cX8_takeNumber 84 = .ok (.iconst 4, 1) := by decide +kernel
theorem dX8_takeNumber_85 : decode cX8_takeNumber 85 = .ok (.goto 4, 3) := by decide +kernel
theorem dX8_takeNumber_88 : decode cX8_takeNumber 88 = .ok (.iconst 2, 1) := by decide +kernel
theorem dX8_takeNumber_89 : decode cX8_takeNumber 89 = .ok (.putfield 31, 3) := by decide +kernel
theorem dX8_takeNumber_92 : decode cX8_takeNumber 92 = .ok (.return_, 1) := by decide +kernel
abbrev rm_X8_takeNumber : Room := { frames := 1, cells := 0, slots := 0, locals := 20 }
def f_X8_takeNumber_62 (N : Nat) (k7 : Int32 → St → Option St) (x1 : Int32) (σ : St) : Option St := k7 (x1 + 1) (si σ 4802 0 ((σ.1 4802 0) + 1))
def f_X8_takeNumber_89 (N : Nat) (t1 : Int32) (σ : St) : Option St := some ((si σ 4803 0 t1))
def f_X8_takeNumber_78 (N : Nat) (x1 : Int32) (σ : St) : Option St := (if x1 ≤ 4 then f_X8_takeNumber_89 N 2 σ else f_X8_takeNumber_89 N 4 σ)
def f_X8_takeNumber_7 (N : Nat) : Nat → Int32 → St → Option St
  | 0, _, _ => none
  | n + 1, x1, σ => (if (σ.1 4801 0) ≤ (σ.1 4802 0) then f_X8_takeNumber_78 N x1 σ else grd (ib (σ.1 4802 0) 800) ((if (f_X8_isDigit (σ.1 20 (σ.1 4802 0).toNatClampNeg) σ) = 0 then f_X8_takeNumber_78 N x1 σ else (if 4 ≤ x1 then f_X8_takeNumber_62 N (f_X8_takeNumber_7 N n) x1 σ else grd (ib (σ.1 4802 0) 800) (f_X8_takeNumber_62 N (f_X8_takeNumber_7 N n) x1 (si σ 4809 0 ((((σ.1 4809 0) * 10) + (σ.1 20 (σ.1 4802 0).toNatClampNeg)) - 48)))))))
def f_X8_takeNumber (N : Nat) (σ : St) : Option St := f_X8_takeNumber_7 N N 0 (si σ 4809 0 0)
section
variable {p : Program} {l : Launch} {e : Env} {s : State} {m : MethodId} {args : Array Value} {below : List Frame} {meth : Method} {c : Code} {g : XG}
set_option maxRecDepth 4000 in
theorem w_X8_takeNumber_62 (N : Nat) (k7 : Int32 → St → Option St) {σ' : St} (C : xC KX g RX8 cX8_takeNumber 2 none p s m args meth c) (hk7 : ∀ (x1 : Int32) (σ : St) (H : Heap) (locs : List Loc) (ls : Array Slot), xW KX g s σ H locs → lv_has ls 2 [(0, .ref (g.q 19)), (1, .int x1)] → k7 x1 σ = some σ' → W p l e rm_X8_takeNumber s m args below meth c H locs 0 0 (MQ below (xPost KX g none σ') args s 0 0 (xA KX g.q)) (F0 m 7 ls [])) : ∀ (x1 : Int32) (σ : St) (H : Heap) (locs : List Loc) (ls : Array Slot), xW KX g s σ H locs → lv_has ls 2 [(0, .ref (g.q 19)), (1, .int x1)] → f_X8_takeNumber_62 N k7 x1 σ = some σ' → W p l e rm_X8_takeNumber s m args below meth c H locs 0 0 (MQ below (xPost KX g none σ') args s 0 0 (xA KX g.q)) (F0 m 62 ls []) := by
  have hx := C.1
  have hb := C.2.1
  intro x1 σ H locs ls hW hl h
  unfold f_X8_takeNumber_62 at h
  refine lv_iinc (v := x1 + 1) (lv' := [(1, .int (x1 + 1)), (0, .ref (g.q 19))]) hx hb dX8_takeNumber_62 hl (k := 1) rfl rfl (Nat.le_of_ble_eq_true rfl) rfl (fun ls hl => ?_)
  refine lv_aload_n hx hb dX8_takeNumber_65 rfl (lv_at hl 1 rfl) ?_
  refine lv_dup hx hb dX8_takeNumber_66 rfl ?_
  refine xg_i C hW fg_8_22 KX_19 rfl (v := 4802) rfl (x := σ.1 4802 0) rfl dX8_takeNumber_67 ?_
  refine lv_iconst (v := 1) hx hb dX8_takeNumber_70 rfl ?_
  refine lv_iadd hx hb dX8_takeNumber_71 ?_
  refine xp_i C hW fp_8_22 KX_19 rfl (v := 4802) rfl rfl rfl dX8_takeNumber_72 (fun H locs hW => ?_)
  refine lv_goto (tgt := 7) hx hb dX8_takeNumber_75 (by decide) ?_
  exact hk7 (x1 + 1) _ _ _ _ hW (lv_sub hl [1, 0] rfl) h
set_option maxRecDepth 4000 in
theorem w_X8_takeNumber_89 (N : Nat) {σ' : St} (C : xC KX g RX8 cX8_takeNumber 2 none p s m args meth c) : ∀ (t1 : Int32) (σ : St) (H : Heap) (locs : List Loc) (ls : Array Slot), xW KX g s σ H locs → lv_has ls 2 [] → f_X8_takeNumber_89 N t1 σ = some σ' → W p l e rm_X8_takeNumber s m args below meth c H locs 0 0 (MQ below (xPost KX g none σ') args s 0 0 (xA KX g.q)) (F0 m 89 ls [.int t1, .ref (g.q 19)]) := by
  have hx := C.1
  have hb := C.2.1
  intro t1 σ H locs ls hW hl h
  unfold f_X8_takeNumber_89 at h
  refine xp_i C hW fp_8_31 KX_19 rfl (v := 4803) rfl rfl rfl dX8_takeNumber_89 (fun H locs hW => ?_)
  cases h
  exact xr_v C hW dX8_takeNumber_92
set_option maxRecDepth 4000 in
theorem w_X8_takeNumber_78 (N : Nat) {σ' : St} (C : xC KX g RX8 cX8_takeNumber 2 none p s m args meth c) : ∀ (x1 : Int32) (σ : St) (H : Heap) (locs : List Loc) (ls : Array Slot), xW KX g s σ H locs → lv_has ls 2 [(0, .ref (g.q 19)), (1, .int x1)] → f_X8_takeNumber_78 N x1 σ = some σ' → W p l e rm_X8_takeNumber s m args below meth c H locs 0 0 (MQ below (xPost KX g none σ') args s 0 0 (xA KX g.q)) (F0 m 78 ls []) := by
  have hx := C.1
  have hb := C.2.1
  intro x1 σ H locs ls hW hl h
  unfold f_X8_takeNumber_78 at h
  refine lv_aload_n hx hb dX8_takeNumber_78 rfl (lv_at hl 0 rfl) ?_
  refine lv_iload_n hx hb dX8_takeNumber_79 rfl (lv_at hl 1 rfl) ?_
  refine lv_iconst (v := 4) hx hb dX8_takeNumber_80 rfl ?_
  refine lv_icmp_le (tgt := 88) hx hb dX8_takeNumber_81 (by decide) (fun c6 => ?_) (fun c6 => ?_)
  · have h := xit c6 h
    refine lv_iconst (v := 2) hx hb dX8_takeNumber_88 rfl ?_
    exact w_X8_takeNumber_89 N C 2 _ _ _ _ hW (lv_sub hl [] rfl) h
  · have h := xif c6 h
    refine lv_iconst (v := 4) hx hb dX8_takeNumber_84 rfl ?_
    refine lv_goto (tgt := 89) hx hb dX8_takeNumber_85 (by decide) ?_
    exact w_X8_takeNumber_89 N C 4 _ _ _ _ hW (lv_sub hl [] rfl) h
set_option maxRecDepth 4000 in
theorem w_X8_takeNumber_7 (N : Nat) {σ' : St} (C : xC KX g RX8 cX8_takeNumber 2 none p s m args meth c) : ∀ (n : Nat), ∀ (x1 : Int32) (σ : St) (H : Heap) (locs : List Loc) (ls : Array Slot), xW KX g s σ H locs → lv_has ls 2 [(0, .ref (g.q 19)), (1, .int x1)] → f_X8_takeNumber_7 N n x1 σ = some σ' → W p l e rm_X8_takeNumber s m args below meth c H locs 0 0 (MQ below (xPost KX g none σ') args s 0 0 (xA KX g.q)) (F0 m 7 ls []) := by
  have hx := C.1
  have hb := C.2.1
  intro n
  induction n with
  | zero => intro x1 σ H locs ls hW hl h; rw [f_X8_takeNumber_7] at h; cases h
  | succ n ih =>
    intro x1 σ H locs ls hW hl h
    rw [f_X8_takeNumber_7] at h
    refine lv_aload_n hx hb dX8_takeNumber_7 rfl (lv_at hl 0 rfl) ?_
    refine xg_i C hW fg_8_22 KX_19 rfl (v := 4802) rfl (x := σ.1 4802 0) rfl dX8_takeNumber_8 ?_
    refine lv_aload_n hx hb dX8_takeNumber_11 rfl (lv_at hl 0 rfl) ?_
    refine xg_i C hW fg_8_19 KX_19 rfl (v := 4801) rfl (x := σ.1 4801 0) rfl dX8_takeNumber_12 ?_
    refine lv_icmp_ge (tgt := 78) hx hb dX8_takeNumber_15 (by decide) (fun c1 => ?_) (fun c1 => ?_)
    · have h := xit c1 h
      exact w_X8_takeNumber_78 N C x1 _ _ _ _ hW (lv_sub hl [0, 1] rfl) h
    · have h := xif c1 h
      refine lv_aload_n hx hb dX8_takeNumber_18 rfl (lv_at hl 0 rfl) ?_
      refine xg_r C hW fg_8_11 KX_19 rfl dX8_takeNumber_19 ?_
      refine lv_aload_n hx hb dX8_takeNumber_22 rfl (lv_at hl 0 rfl) ?_
      refine xg_i C hW fg_8_22 KX_19 rfl (v := 4802) rfl (x := σ.1 4802 0) rfl dX8_takeNumber_23 ?_
      obtain ⟨g2, h⟩ := xgd h
      refine xa_b C hW KX_20 g2 (x := σ.1 20 (σ.1 4802 0).toNatClampNeg) rfl dX8_takeNumber_26 ?_
      refine xc_S (As := [.int (σ.1 20 (σ.1 4802 0).toNatClampNeg)]) (rest := []) C hW (m_X8_isDigit (σ.1 20 (σ.1 4802 0).toNatClampNeg) _ rfl) mf_X8_isDigit mt_X8_isDigit ml_X8_41 ⟨rfl, rfl⟩ ⟨Nat.le_of_ble_eq_true rfl, Nat.le_of_ble_eq_true rfl⟩ hl.1 rfl rfl (Nat.le_of_ble_eq_true rfl) dX8_takeNumber_27 (fun H locs hW => W.eq (g2 := F0 m 30 ls [.int (f_X8_isDigit (σ.1 20 (σ.1 4802 0).toNatClampNeg) σ)]) rfl ?_)
      refine lv_if_eq (tgt := 78) hx hb dX8_takeNumber_30 (by decide) (fun c3 => ?_) (fun c3 => ?_)
      · have h := xit c3 h
        exact w_X8_takeNumber_78 N C x1 _ _ _ _ hW (lv_sub hl [0, 1] rfl) h
      · have h := xif c3 h
        refine lv_iload_n hx hb dX8_takeNumber_33 rfl (lv_at hl 1 rfl) ?_
        refine lv_iconst (v := 4) hx hb dX8_takeNumber_34 rfl ?_
        refine lv_icmp_ge (tgt := 62) hx hb dX8_takeNumber_35 (by decide) (fun c4 => ?_) (fun c4 => ?_)
        · have h := xit c4 h
          exact w_X8_takeNumber_62 N (f_X8_takeNumber_7 N n) C ih x1 _ _ _ _ hW (lv_sub hl [0, 1] rfl) h
        · have h := xif c4 h
          refine lv_aload_n hx hb dX8_takeNumber_38 rfl (lv_at hl 0 rfl) ?_
          refine lv_aload_n hx hb dX8_takeNumber_39 rfl (lv_at hl 0 rfl) ?_
          refine xg_i C hW fg_8_68 KX_19 rfl (v := 4809) rfl (x := σ.1 4809 0) rfl dX8_takeNumber_40 ?_
          refine lv_bipush (v := 10) hx hb dX8_takeNumber_43 rfl ?_
          refine lv_imul hx hb dX8_takeNumber_45 ?_
          refine lv_aload_n hx hb dX8_takeNumber_46 rfl (lv_at hl 0 rfl) ?_
          refine xg_r C hW fg_8_11 KX_19 rfl dX8_takeNumber_47 ?_
          refine lv_aload_n hx hb dX8_takeNumber_50 rfl (lv_at hl 0 rfl) ?_
          refine xg_i C hW fg_8_22 KX_19 rfl (v := 4802) rfl (x := σ.1 4802 0) rfl dX8_takeNumber_51 ?_
          obtain ⟨g5, h⟩ := xgd h
          refine xa_b C hW KX_20 g5 (x := σ.1 20 (σ.1 4802 0).toNatClampNeg) rfl dX8_takeNumber_54 ?_
          refine lv_iadd hx hb dX8_takeNumber_55 ?_
          refine lv_bipush (v := 48) hx hb dX8_takeNumber_56 rfl ?_
          refine lv_isub hx hb dX8_takeNumber_58 ?_
          refine xp_i C hW fp_8_68 KX_19 rfl (v := 4809) rfl rfl rfl dX8_takeNumber_59 (fun H locs hW => ?_)
          exact w_X8_takeNumber_62 N (f_X8_takeNumber_7 N n) C ih x1 _ _ _ _ hW (lv_sub hl [0, 1] rfl) h
set_option maxRecDepth 4000 in
theorem m_X8_takeNumber (N : Nat) (σ : St) {σ' : St} (h : f_X8_takeNumber N σ = some σ') : xM l KX g yX8_takeNumber cX8_takeNumber 2 none rm_X8_takeNumber [.ref (g.q 19)] σ none σ' := by
  refine xmet pn_X8 rfl (Nat.le_of_ble_eq_true rfl) (lv := [(0, .ref (g.q 19))]) rfl (fun p e s m args below meth c ls C hW hl => ?_)
  have hx := C.1
  have hb := C.2.1
  unfold f_X8_takeNumber at h
  refine lv_iconst (v := 0) hx hb dX8_takeNumber_0 rfl ?_
  refine lv_istore_n (lv' := [(1, .int 0), (0, .ref (g.q 19))]) hx hb dX8_takeNumber_1 rfl hl (Nat.le_of_ble_eq_true rfl) rfl (fun ls hl => ?_)
  refine lv_aload_n hx hb dX8_takeNumber_2 rfl (lv_at hl 1 rfl) ?_
  refine lv_iconst (v := 0) hx hb dX8_takeNumber_3 rfl ?_
  refine xp_i C hW fp_8_68 KX_19 rfl (v := 4809) rfl rfl rfl dX8_takeNumber_4 (fun H locs hW => ?_)
  exact w_X8_takeNumber_7 N C N 0 _ _ _ _ hW (lv_sub hl [1, 0] rfl) h
end
theorem dX8_takeWord_0 : decode cX8_takeWord 0 = .ok (.aload_n 0, 1) := by decide +kernel
theorem dX8_takeWord_1 : decode cX8_takeWord 1 = .ok (.iconst 0, 1) := by decide +kernel
theorem dX8_takeWord_2 : decode cX8_takeWord 2 = .ok (.putfield 50, 3) := by decide +kernel
theorem dX8_takeWord_5 : decode cX8_takeWord 5 = .ok (.aload_n 0, 1) := by decide +kernel
theorem dX8_takeWord_6 : decode cX8_takeWord 6 = .ok (.lconst 0, 1) := by decide +kernel
theorem dX8_takeWord_7 : decode cX8_takeWord 7 = .ok (.putfield 53, 3) := by decide +kernel
theorem dX8_takeWord_10 : decode cX8_takeWord 10 = .ok (.aload_n 0, 1) := by decide +kernel
theorem dX8_takeWord_11 : decode cX8_takeWord 11 = .ok (.iconst 0, 1) := by decide +kernel
theorem dX8_takeWord_12 : decode cX8_takeWord 12 = .ok (.putfield 57, 3) := by decide +kernel
theorem dX8_takeWord_15 : decode cX8_takeWord 15 = .ok (.aload_n 0, 1) := by decide +kernel
theorem dX8_takeWord_16 : decode cX8_takeWord 16 = .ok (.iconst 1, 1) := by decide +kernel
theorem dX8_takeWord_17 : decode cX8_takeWord 17 = .ok (.putfield 60, 3) := by decide +kernel
theorem dX8_takeWord_20 : decode cX8_takeWord 20 = .ok (.aload_n 0, 1) := by decide +kernel
theorem dX8_takeWord_21 : decode cX8_takeWord 21 = .ok (.getfield 22, 3) := by decide +kernel
theorem dX8_takeWord_24 : decode cX8_takeWord 24 = .ok (.aload_n 0, 1) := by decide +kernel
theorem dX8_takeWord_25 : decode cX8_takeWord 25 = .ok (.getfield 19, 3) := by decide +kernel
theorem dX8_takeWord_28 : decode cX8_takeWord 28 = .ok (.if_icmp .ge 120, 3) := by decide +kernel
theorem dX8_takeWord_31 : decode cX8_takeWord 31 = .ok (.aload_n 0, 1) := by decide +kernel
theorem dX8_takeWord_32 : decode cX8_takeWord 32 = .ok (.getfield 11, 3) := by decide +kernel
theorem dX8_takeWord_35 : decode cX8_takeWord 35 = .ok (.aload_n 0, 1) := by decide +kernel
theorem dX8_takeWord_36 : decode cX8_takeWord 36 = .ok (.getfield 22, 3) := by decide +kernel
theorem dX8_takeWord_39 : decode cX8_takeWord 39 = .ok (.baload, 1) := by decide +kernel
theorem dX8_takeWord_40 : decode cX8_takeWord 40 = .ok (.invokestatic 34, 3) := by decide +kernel
theorem dX8_takeWord_43 : decode cX8_takeWord 43 = .ok (.ifCond .eq 105, 3) := by decide +kernel
theorem dX8_takeWord_46 : decode cX8_takeWord 46 = .ok (.aload_n 0, 1) := by decide +kernel
theorem dX8_takeWord_47 : decode cX8_takeWord 47 = .ok (.getfield 11, 3) := by decide +kernel
theorem dX8_takeWord_50 : decode cX8_takeWord 50 = .ok (.aload_n 0, 1) := by decide +kernel
theorem dX8_takeWord_51 : decode cX8_takeWord 51 = .ok (.getfield 22, 3) := by decide +kernel
theorem dX8_takeWord_54 : decode cX8_takeWord 54 = .ok (.baload, 1) := by decide +kernel
theorem dX8_takeWord_55 : decode cX8_takeWord 55 = .ok (.bipush 97, 2) := by decide +kernel
theorem dX8_takeWord_57 : decode cX8_takeWord 57 = .ok (.isub, 1) := by decide +kernel
theorem dX8_takeWord_58 : decode cX8_takeWord 58 = .ok (.istore_n 1, 1) := by decide +kernel
theorem dX8_takeWord_59 : decode cX8_takeWord 59 = .ok (.aload_n 0, 1) := by decide +kernel
theorem dX8_takeWord_60 : decode cX8_takeWord 60 = .ok (.getfield 50, 3) := by decide +kernel
theorem dX8_takeWord_63 : decode cX8_takeWord 63 = .ok (.bipush 12, 2) := by decide +kernel
theorem dX8_takeWord_65 : decode cX8_takeWord 65 = .ok (.if_icmp .ge 20, 3) := by decide +kernel
theorem dX8_takeWord_68 : decode cX8_takeWord 68 = .ok (.aload_n 0, 1) := by decide +kernel
theorem dX8_takeWord_69 : decode cX8_takeWord 69 = .ok (.aload_n 0, 1) := by decide +kernel
theorem dX8_takeWord_70 : decode cX8_takeWord 70 = .ok (.getfield 53, 3) := by decide +kernel
theorem dX8_takeWord_73 : decode cX8_takeWord 73 = .ok (.ldc2_w 64, 3) := by decide +kernel
theorem dX8_takeWord_76 : decode cX8_takeWord 76 = .ok (.lmul, 1) := by decide +kernel
theorem dX8_takeWord_77 : decode cX8_takeWord 77 = .ok (.iload_n 1, 1) := by decide +kernel
theorem dX8_takeWord_78 : decode cX8_takeWord 78 = .ok (.i2l, 1) := by decide +kernel
theorem dX8_takeWord_79 : decode cX8_takeWord 79 = .ok (.ladd, 1) := by decide +kernel
theorem dX8_takeWord_80 : decode cX8_takeWord 80 = .ok (.lconst 1, 1) := by decide +kernel
theorem dX8_takeWord_81 : decode cX8_takeWord 81 = .ok (.ladd, 1) := by decide +kernel
theorem dX8_takeWord_82 : decode cX8_takeWord 82 = .ok (.putfield 53, 3) := by decide +kernel
theorem dX8_takeWord_85 : decode cX8_takeWord 85 = .ok (.iload_n 1, 1) := by decide +kernel
theorem dX8_takeWord_86 : decode cX8_takeWord 86 = .ok (.bipush 15, 2) := by decide +kernel
theorem dX8_takeWord_88 : decode cX8_takeWord 88 = .ok (.if_icmp .le 11, 3) := by decide +kernel
theorem dX8_takeWord_91 : decode cX8_takeWord 91 = .ok (.aload_n 0, 1) := by decide +kernel
theorem dX8_takeWord_92 : decode cX8_takeWord 92 = .ok (.iconst 0, 1) := by decide +kernel
theorem dX8_takeWord_93 : decode cX8_takeWord 93 = .ok (.putfield 60, 3) := by decide +kernel
theorem dX8_takeWord_96 : decode cX8_takeWord 96 = .ok (.goto 29, 3) := by decide +kernel
theorem dX8_takeWord_99 : decode cX8_takeWord 99 = .ok (.aload_n 0, 1) := by decide +kernel
theorem dX8_takeWord_100 : decode cX8_takeWord 100 = .ok (.getfield 50, 3) := by decide +kernel
theorem dX8_takeWord_103 : decode cX8_takeWord 103 = .ok (.bipush 8, 2) := by decide +kernel
theorem dX8_takeWord_105 : decode cX8_takeWord 105 = .ok (.if_icmp .ge 20, 3) := by decide +kernel
theorem dX8_takeWord_108 : decode cX8_takeWord 108 = .ok (.aload_n 0, 1) := by decide +kernel
theorem dX8_takeWord_109 : decode cX8_takeWord 109 = .ok (.dup, 1) := by decide +kernel
theorem dX8_takeWord_110 : decode cX8_takeWord 110 = .ok (.getfield 57, 3) := by decide +kernel
theorem dX8_takeWord_113 : decode cX8_takeWord 113 = .ok (.iload_n 1, 1) := by decide +kernel
theorem dX8_takeWord_114 : decode cX8_takeWord 114 = .ok (.iconst 4, 1) := by decide +kernel
theorem dX8_takeWord_115 : decode cX8_takeWord 115 = .ok (.aload_n 0, 1) := by decide +kernel
theorem dX8_takeWord_116 : decode cX8_takeWord 116 = .ok (.getfield 50, 3) := by decide +kernel
theorem dX8_takeWord_119 : decode cX8_takeWord 119 = .ok (.imul, 1) := by decide +kernel
theorem dX8_takeWord_120 : decode cX8_takeWord 120 = .ok (.ishl, 1) := by decide +kernel
theorem dX8_takeWord_121 : decode cX8_takeWord 121 = .ok (.ior, 1) := by decide +kernel
theorem dX8_takeWord_122 : decode cX8_takeWord 122 = .ok (.putfield 57, 3) := by decide +kernel
theorem dX8_takeWord_125 : decode cX8_takeWord 125 = .ok (.aload_n 0, 1) := by decide +kernel
theorem dX8_takeWord_126 : decode cX8_takeWord 126 = .ok (.dup, 1) := by decide +kernel
theorem dX8_takeWord_127 : decode cX8_takeWord 127 = .ok (.getfield 50, 3) := by decide +kernel
theorem dX8_takeWord_130 : decode cX8_takeWord 130 = .ok (.iconst 1, 1) := by decide +kernel
theorem dX8_takeWord_131 : decode cX8_takeWord 131 = .ok (.iadd, 1) := by decide +kernel
theorem dX8_takeWord_132 : decode cX8_takeWord 132 = .ok (.putfield 50, 3) := by decide +kernel
theorem dX8_takeWord_135 : decode cX8_takeWord 135 = .ok (.aload_n 0, 1) := by decide +kernel
theorem dX8_takeWord_136 : decode cX8_takeWord 136 = .ok (.dup, 1) := by decide +kernel
theorem dX8_takeWord_137 : decode cX8_takeWord 137 = .ok (.getfield 22, 3) := by decide +kernel
theorem dX8_takeWord_140 : decode cX8_takeWord 140 = .ok (.iconst 1, 1) := by decide +kernel
theorem dX8_takeWord_141 : decode cX8_takeWord 141 = .ok (.iadd, 1) := by decide +kernel
theorem dX8_takeWord_142 : decode cX8_takeWord 142 = .ok (.putfield 22, 3) := by decide +kernel
theorem dX8_takeWord_145 : decode cX8_takeWord 145 = .ok (.goto (-125), 3) := by decide +kernel
theorem dX8_takeWord_148 : decode cX8_takeWord 148 = .ok (.aload_n 0, 1) := by decide +kernel
theorem dX8_takeWord_149 : decode cX8_takeWord 149 = .ok (.aload_n 0, 1) := by decide +kernel
theorem dX8_takeWord_150 : decode cX8_takeWord 150 = .ok (.getfield 50, 3) := by decide +kernel
theorem dX8_takeWord_153 : decode cX8_takeWord 153 = .ok (.bipush 12, 2) := by decide +kernel
theorem dX8_takeWord_155 : decode cX8_takeWord 155 = .ok (.if_icmp .le 7, 3) := by decide +kernel
theorem dX8_takeWord_158 : decode cX8_takeWord 158 = .ok (.iconst 4, 1) := by decide +kernel
theorem dX8_takeWord_159 : decode cX8_takeWord 159 = .ok (.goto 4, 3) := by decide +kernel
theorem dX8_takeWord_162 : decode cX8_takeWord 162 = .ok (.iconst 1, 1) := by decide +kernel
theorem dX8_takeWord_163 : decode cX8_takeWord 163 = .ok (.putfield 31, 3) := by decide +kernel
theorem dX8_takeWord_166 : decode cX8_takeWord 166 = .ok (.return_, 1) := by decide +kernel
abbrev rm_X8_takeWord : Room := { frames := 1, cells := 0, slots := 0, locals := 20 }
def f_X8_takeWord_125 (N : Nat) (k20 : St → Option St) (σ : St) : Option St := k20 (si (si σ 4805 0 ((σ.1 4805 0) + 1)) 4802 0 ((σ.1 4802 0) + 1))
def f_X8_takeWord_85 (N : Nat) (k20 : St → Option St) (x1 : Int32) (σ : St) : Option St := (if x1 ≤ 15 then (if 8 ≤ (σ.1 4805 0) then f_X8_takeWord_125 N k20 σ else f_X8_takeWord_125 N k20 (si σ 4807 0 ((σ.1 4807 0) ||| (x1 <<< ((4 * (σ.1 4805 0)) &&& 31))))) else f_X8_takeWord_125 N k20 (si σ 4808 0 0))
def f_X8_takeWord_163 (N : Nat) (t1 : Int32) (σ : St) : Option St := some ((si σ 4803 0 t1))
def f_X8_takeWord_148 (N : Nat) (σ : St) : Option St := (if (σ.1 4805 0) ≤ 12 then f_X8_takeWord_163 N 1 σ else f_X8_takeWord_163 N 4 σ)
def f_X8_takeWord_20 (N : Nat) : Nat → St → Option St
  | 0, _ => none
  | n + 1, σ => (if (σ.1 4801 0) ≤ (σ.1 4802 0) then f_X8_takeWord_148 N σ else grd (ib (σ.1 4802 0) 800) ((if (f_X8_isLetter (σ.1 20 (σ.1 4802 0).toNatClampNeg) σ) = 0 then f_X8_takeWord_148 N σ else grd (ib (σ.1 4802 0) 800) ((if 12 ≤ (σ.1 4805 0) then f_X8_takeWord_85 N (f_X8_takeWord_20 N n) ((σ.1 20 (σ.1 4802 0).toNatClampNeg) - 97) σ else f_X8_takeWord_85 N (f_X8_takeWord_20 N n) ((σ.1 20 (σ.1 4802 0).toNatClampNeg) - 97) (sl σ 4806 0 ((((σ.2 4806 0) * 32) + (((σ.1 20 (σ.1 4802 0).toNatClampNeg) - 97).toInt64)) + 1)))))))
def f_X8_takeWord (N : Nat) (σ : St) : Option St := f_X8_takeWord_20 N N (si (si (sl (si σ 4805 0 0) 4806 0 0) 4807 0 0) 4808 0 1)
section
variable {p : Program} {l : Launch} {e : Env} {s : State} {m : MethodId} {args : Array Value} {below : List Frame} {meth : Method} {c : Code} {g : XG}
set_option maxRecDepth 4000 in
theorem w_X8_takeWord_125 (N : Nat) (k20 : St → Option St) {σ' : St} (C : xC KX g RX8 cX8_takeWord 2 none p s m args meth c) (hk20 : ∀ (σ : St) (H : Heap) (locs : List Loc) (ls : Array Slot), xW KX g s σ H locs → lv_has ls 2 [(0, .ref (g.q 19))] → k20 σ = some σ' → W p l e rm_X8_takeWord s m args below meth c H locs 0 0 (MQ below (xPost KX g none σ') args s 0 0 (xA KX g.q)) (F0 m 20 ls [])) : ∀ (σ : St) (H : Heap) (locs : List Loc) (ls : Array Slot), xW KX g s σ H locs → lv_has ls 2 [(0, .ref (g.q 19))] → f_X8_takeWord_125 N k20 σ = some σ' → W p l e rm_X8_takeWord s m args below meth c H locs 0 0 (MQ below (xPost KX g none σ') args s 0 0 (xA KX g.q)) (F0 m 125 ls []) := by
  have hx := C.1
  have hb := C.2.1
  intro σ H locs ls hW hl h
  unfold f_X8_takeWord_125 at h
  refine lv_aload_n hx hb dX8_takeWord_125 rfl (lv_at hl 0 rfl) ?_
  refine lv_dup hx hb dX8_takeWord_126 rfl ?_
  refine xg_i C hW fg_8_50 KX_19 rfl (v := 4805) rfl (x := σ.1 4805 0) rfl dX8_takeWord_127 ?_
  refine lv_iconst (v := 1) hx hb dX8_takeWord_130 rfl ?_
  refine lv_iadd hx hb dX8_takeWord_131 ?_
  refine xp_i C hW fp_8_50 KX_19 rfl (v := 4805) rfl rfl rfl dX8_takeWord_132 (fun H locs hW => ?_)
  refine lv_aload_n hx hb dX8_takeWord_135 rfl (lv_at hl 0 rfl) ?_
  refine lv_dup hx hb dX8_takeWord_136 rfl ?_
  refine xg_i C hW fg_8_22 KX_19 rfl (v := 4802) rfl (x := σ.1 4802 0) rfl dX8_takeWord_137 ?_
  refine lv_iconst (v := 1) hx hb dX8_takeWord_140 rfl ?_
  refine lv_iadd hx hb dX8_takeWord_141 ?_
  refine xp_i C hW fp_8_22 KX_19 rfl (v := 4802) rfl rfl rfl dX8_takeWord_142 (fun H locs hW => ?_)
  refine lv_goto (tgt := 20) hx hb dX8_takeWord_145 (by decide) ?_
  exact hk20 _ _ _ _ hW (lv_sub hl [0] rfl) h
set_option maxRecDepth 4000 in
theorem w_X8_takeWord_85 (N : Nat) (k20 : St → Option St) {σ' : St} (C : xC KX g RX8 cX8_takeWord 2 none p s m args meth c) (hk20 : ∀ (σ : St) (H : Heap) (locs : List Loc) (ls : Array Slot), xW KX g s σ H locs → lv_has ls 2 [(0, .ref (g.q 19))] → k20 σ = some σ' → W p l e rm_X8_takeWord s m args below meth c H locs 0 0 (MQ below (xPost KX g none σ') args s 0 0 (xA KX g.q)) (F0 m 20 ls [])) : ∀ (x1 : Int32) (σ : St) (H : Heap) (locs : List Loc) (ls : Array Slot), xW KX g s σ H locs → lv_has ls 2 [(0, .ref (g.q 19)), (1, .int x1)] → f_X8_takeWord_85 N k20 x1 σ = some σ' → W p l e rm_X8_takeWord s m args below meth c H locs 0 0 (MQ below (xPost KX g none σ') args s 0 0 (xA KX g.q)) (F0 m 85 ls []) := by
  have hx := C.1
  have hb := C.2.1
  intro x1 σ H locs ls hW hl h
  unfold f_X8_takeWord_85 at h
  refine lv_iload_n hx hb dX8_takeWord_85 rfl (lv_at hl 1 rfl) ?_
  refine lv_bipush (v := 15) hx hb dX8_takeWord_86 rfl ?_
  refine lv_icmp_le (tgt := 99) hx hb dX8_takeWord_88 (by decide) (fun c6 => ?_) (fun c6 => ?_)
  · have h := xit c6 h
    refine lv_aload_n hx hb dX8_takeWord_99 rfl (lv_at hl 0 rfl) ?_
    refine xg_i C hW fg_8_50 KX_19 rfl (v := 4805) rfl (x := σ.1 4805 0) rfl dX8_takeWord_100 ?_
    refine lv_bipush (v := 8) hx hb dX8_takeWord_103 rfl ?_
    refine lv_icmp_ge (tgt := 125) hx hb dX8_takeWord_105 (by decide) (fun c7 => ?_) (fun c7 => ?_)
    · have h := xit c7 h
      exact w_X8_takeWord_125 N k20 C hk20 _ _ _ _ hW (lv_sub hl [0] rfl) h
    · have h := xif c7 h
      refine lv_aload_n hx hb dX8_takeWord_108 rfl (lv_at hl 0 rfl) ?_
      refine lv_dup hx hb dX8_takeWord_109 rfl ?_
      refine xg_i C hW fg_8_57 KX_19 rfl (v := 4807) rfl (x := σ.1 4807 0) rfl dX8_takeWord_110 ?_
      refine lv_iload_n hx hb dX8_takeWord_113 rfl (lv_at hl 1 rfl) ?_
      refine lv_iconst (v := 4) hx hb dX8_takeWord_114 rfl ?_
      refine lv_aload_n hx hb dX8_takeWord_115 rfl (lv_at hl 0 rfl) ?_
      refine xg_i C hW fg_8_50 KX_19 rfl (v := 4805) rfl (x := σ.1 4805 0) rfl dX8_takeWord_116 ?_
      refine lv_imul hx hb dX8_takeWord_119 ?_
      refine lv_ishl hx hb dX8_takeWord_120 ?_
      refine lv_ior hx hb dX8_takeWord_121 ?_
      refine xp_i C hW fp_8_57 KX_19 rfl (v := 4807) rfl rfl rfl dX8_takeWord_122 (fun H locs hW => ?_)
      exact w_X8_takeWord_125 N k20 C hk20 _ _ _ _ hW (lv_sub hl [0] rfl) h
  · have h := xif c6 h
    refine lv_aload_n hx hb dX8_takeWord_91 rfl (lv_at hl 0 rfl) ?_
    refine lv_iconst (v := 0) hx hb dX8_takeWord_92 rfl ?_
    refine xp_i C hW fp_8_60 KX_19 rfl (v := 4808) rfl (by decide) (by decide) dX8_takeWord_93 (fun H locs hW => ?_)
    refine lv_goto (tgt := 125) hx hb dX8_takeWord_96 (by decide) ?_
    exact w_X8_takeWord_125 N k20 C hk20 _ _ _ _ hW (lv_sub hl [0] rfl) h
set_option maxRecDepth 4000 in
theorem w_X8_takeWord_163 (N : Nat) {σ' : St} (C : xC KX g RX8 cX8_takeWord 2 none p s m args meth c) : ∀ (t1 : Int32) (σ : St) (H : Heap) (locs : List Loc) (ls : Array Slot), xW KX g s σ H locs → lv_has ls 2 [] → f_X8_takeWord_163 N t1 σ = some σ' → W p l e rm_X8_takeWord s m args below meth c H locs 0 0 (MQ below (xPost KX g none σ') args s 0 0 (xA KX g.q)) (F0 m 163 ls [.int t1, .ref (g.q 19)]) := by
  have hx := C.1
  have hb := C.2.1
  intro t1 σ H locs ls hW hl h
  unfold f_X8_takeWord_163 at h
  refine xp_i C hW fp_8_31 KX_19 rfl (v := 4803) rfl rfl rfl dX8_takeWord_163 (fun H locs hW => ?_)
  cases h
  exact xr_v C hW dX8_takeWord_166
set_option maxRecDepth 4000 in
theorem w_X8_takeWord_148 (N : Nat) {σ' : St} (C : xC KX g RX8 cX8_takeWord 2 none p s m args meth c) : ∀ (σ : St) (H : Heap) (locs : List Loc) (ls : Array Slot), xW KX g s σ H locs → lv_has ls 2 [(0, .ref (g.q 19))] → f_X8_takeWord_148 N σ = some σ' → W p l e rm_X8_takeWord s m args below meth c H locs 0 0 (MQ below (xPost KX g none σ') args s 0 0 (xA KX g.q)) (F0 m 148 ls []) := by
  have hx := C.1
  have hb := C.2.1
  intro σ H locs ls hW hl h
  unfold f_X8_takeWord_148 at h
  refine lv_aload_n hx hb dX8_takeWord_148 rfl (lv_at hl 0 rfl) ?_
  refine lv_aload_n hx hb dX8_takeWord_149 rfl (lv_at hl 0 rfl) ?_
  refine xg_i C hW fg_8_50 KX_19 rfl (v := 4805) rfl (x := σ.1 4805 0) rfl dX8_takeWord_150 ?_
  refine lv_bipush (v := 12) hx hb dX8_takeWord_153 rfl ?_
  refine lv_icmp_le (tgt := 162) hx hb dX8_takeWord_155 (by decide) (fun c8 => ?_) (fun c8 => ?_)
  · have h := xit c8 h
    refine lv_iconst (v := 1) hx hb dX8_takeWord_162 rfl ?_
    exact w_X8_takeWord_163 N C 1 _ _ _ _ hW (lv_sub hl [] rfl) h
  · have h := xif c8 h
    refine lv_iconst (v := 4) hx hb dX8_takeWord_158 rfl ?_
    refine lv_goto (tgt := 163) hx hb dX8_takeWord_159 (by decide) ?_
    exact w_X8_takeWord_163 N C 4 _ _ _ _ hW (lv_sub hl [] rfl) h
set_option maxRecDepth 4000 in
theorem w_X8_takeWord_20 (N : Nat) {σ' : St} (C : xC KX g RX8 cX8_takeWord 2 none p s m args meth c) : ∀ (n : Nat), ∀ (σ : St) (H : Heap) (locs : List Loc) (ls : Array Slot), xW KX g s σ H locs → lv_has ls 2 [(0, .ref (g.q 19))] → f_X8_takeWord_20 N n σ = some σ' → W p l e rm_X8_takeWord s m args below meth c H locs 0 0 (MQ below (xPost KX g none σ') args s 0 0 (xA KX g.q)) (F0 m 20 ls []) := by
  have hx := C.1
  have hb := C.2.1
  intro n
  induction n with
  | zero => intro σ H locs ls hW hl h; rw [f_X8_takeWord_20] at h; cases h
  | succ n ih =>
    intro σ H locs ls hW hl h
    rw [f_X8_takeWord_20] at h
    refine lv_aload_n hx hb dX8_takeWord_20 rfl (lv_at hl 0 rfl) ?_
    refine xg_i C hW fg_8_22 KX_19 rfl (v := 4802) rfl (x := σ.1 4802 0) rfl dX8_takeWord_21 ?_
    refine lv_aload_n hx hb dX8_takeWord_24 rfl (lv_at hl 0 rfl) ?_
    refine xg_i C hW fg_8_19 KX_19 rfl (v := 4801) rfl (x := σ.1 4801 0) rfl dX8_takeWord_25 ?_
    refine lv_icmp_ge (tgt := 148) hx hb dX8_takeWord_28 (by decide) (fun c1 => ?_) (fun c1 => ?_)
    · have h := xit c1 h
      exact w_X8_takeWord_148 N C _ _ _ _ hW (lv_sub hl [0] rfl) h
    · have h := xif c1 h
      refine lv_aload_n hx hb dX8_takeWord_31 rfl (lv_at hl 0 rfl) ?_
      refine xg_r C hW fg_8_11 KX_19 rfl dX8_takeWord_32 ?_
      refine lv_aload_n hx hb dX8_takeWord_35 rfl (lv_at hl 0 rfl) ?_
      refine xg_i C hW fg_8_22 KX_19 rfl (v := 4802) rfl (x := σ.1 4802 0) rfl dX8_takeWord_36 ?_
      obtain ⟨g2, h⟩ := xgd h
      refine xa_b C hW KX_20 g2 (x := σ.1 20 (σ.1 4802 0).toNatClampNeg) rfl dX8_takeWord_39 ?_
      refine xc_S (As := [.int (σ.1 20 (σ.1 4802 0).toNatClampNeg)]) (rest := []) C hW (m_X8_isLetter (σ.1 20 (σ.1 4802 0).toNatClampNeg) _ rfl) mf_X8_isLetter mt_X8_isLetter ml_X8_34 ⟨rfl, rfl⟩ ⟨Nat.le_of_ble_eq_true rfl, Nat.le_of_ble_eq_true rfl⟩ hl.1 rfl rfl (Nat.le_of_ble_eq_true rfl) dX8_takeWord_40 (fun H locs hW => W.eq (g2 := F0 m 43 ls [.int (f_X8_isLetter (σ.1 20 (σ.1 4802 0).toNatClampNeg) σ)]) rfl ?_)
      refine lv_if_eq (tgt := 148) hx hb dX8_takeWord_43 (by decide) (fun c3 => ?_) (fun c3 => ?_)
      · have h := xit c3 h
        exact w_X8_takeWord_148 N C _ _ _ _ hW (lv_sub hl [0] rfl) h
      · have h := xif c3 h
        refine lv_aload_n hx hb dX8_takeWord_46 rfl (lv_at hl 0 rfl) ?_
        refine xg_r C hW fg_8_11 KX_19 rfl dX8_takeWord_47 ?_
        refine lv_aload_n hx hb dX8_takeWord_50 rfl (lv_at hl 0 rfl) ?_
        refine xg_i C hW fg_8_22 KX_19 rfl (v := 4802) rfl (x := σ.1 4802 0) rfl dX8_takeWord_51 ?_
        obtain ⟨g4, h⟩ := xgd h
        refine xa_b C hW KX_20 g4 (x := σ.1 20 (σ.1 4802 0).toNatClampNeg) rfl dX8_takeWord_54 ?_
        refine lv_bipush (v := 97) hx hb dX8_takeWord_55 rfl ?_
        refine lv_isub hx hb dX8_takeWord_57 ?_
        refine lv_istore_n (lv' := [(1, .int ((σ.1 20 (σ.1 4802 0).toNatClampNeg) - 97)), (0, .ref (g.q 19))]) hx hb dX8_takeWord_58 rfl hl (Nat.le_of_ble_eq_true rfl) rfl (fun ls hl => ?_)
        refine lv_aload_n hx hb dX8_takeWord_59 rfl (lv_at hl 1 rfl) ?_
        refine xg_i C hW fg_8_50 KX_19 rfl (v := 4805) rfl (x := σ.1 4805 0) rfl dX8_takeWord_60 ?_
        refine lv_bipush (v := 12) hx hb dX8_takeWord_63 rfl ?_
        refine lv_icmp_ge (tgt := 85) hx hb dX8_takeWord_65 (by decide) (fun c5 => ?_) (fun c5 => ?_)
        · have h := xit c5 h
          exact w_X8_takeWord_85 N (f_X8_takeWord_20 N n) C ih ((σ.1 20 (σ.1 4802 0).toNatClampNeg) - 97) _ _ _ _ hW (lv_sub hl [1, 0] rfl) h
        · have h := xif c5 h
          refine lv_aload_n hx hb dX8_takeWord_68 rfl (lv_at hl 1 rfl) ?_
          refine lv_aload_n hx hb dX8_takeWord_69 rfl (lv_at hl 1 rfl) ?_
          refine xg_l C hW fg_8_53 KX_19 rfl (v := 4806) rfl (x := σ.2 4806 0) rfl dX8_takeWord_70 ?_
          refine lv_ldc2 (v := 32) hx hb C.ow (C.hts _ kl_X8_64) dX8_takeWord_73 ?_
          refine lv_lmul hx hb dX8_takeWord_76 ?_
          refine lv_iload_n hx hb dX8_takeWord_77 rfl (lv_at hl 0 rfl) ?_
          refine lv_i2l (v := ((σ.1 20 (σ.1 4802 0).toNatClampNeg) - 97).toInt64) hx hb dX8_takeWord_78 rfl ?_
          refine lv_ladd hx hb dX8_takeWord_79 ?_
          refine lv_lconst (v := 1) hx hb dX8_takeWord_80 rfl ?_
          refine lv_ladd hx hb dX8_takeWord_81 ?_
          refine xp_l C hW fp_8_53 KX_19 rfl (v := 4806) rfl dX8_takeWord_82 (fun H locs hW => ?_)
          exact w_X8_takeWord_85 N (f_X8_takeWord_20 N n) C ih ((σ.1 20 (σ.1 4802 0).toNatClampNeg) - 97) _ _ _ _ hW (lv_sub hl [1, 0] rfl) h
set_option maxRecDepth 4000 in
theorem m_X8_takeWord (N : Nat) (σ : St) {σ' : St} (h : f_X8_takeWord N σ = some σ') : xM l KX g yX8_takeWord cX8_takeWord 2 none rm_X8_takeWord [.ref (g.q 19)] σ none σ' := by
  refine xmet pn_X8 rfl (Nat.le_of_ble_eq_true rfl) (lv := [(0, .ref (g.q 19))]) rfl (fun p e s m args below meth c ls C hW hl => ?_)
  have hx := C.1
  have hb := C.2.1
  unfold f_X8_takeWord at h
  refine lv_aload_n hx hb dX8_takeWord_0 rfl (lv_at hl 0 rfl) ?_
  refine lv_iconst (v := 0) hx hb dX8_takeWord_1 rfl ?_
  refine xp_i C hW fp_8_50 KX_19 rfl (v := 4805) rfl rfl rfl dX8_takeWord_2 (fun H locs hW => ?_)
  refine lv_aload_n hx hb dX8_takeWord_5 rfl (lv_at hl 0 rfl) ?_
  refine lv_lconst (v := 0) hx hb dX8_takeWord_6 rfl ?_
  refine xp_l C hW fp_8_53 KX_19 rfl (v := 4806) rfl dX8_takeWord_7 (fun H locs hW => ?_)
  refine lv_aload_n hx hb dX8_takeWord_10 rfl (lv_at hl 0 rfl) ?_
  refine lv_iconst (v := 0) hx hb dX8_takeWord_11 rfl ?_
  refine xp_i C hW fp_8_57 KX_19 rfl (v := 4807) rfl rfl rfl dX8_takeWord_12 (fun H locs hW => ?_)
  refine lv_aload_n hx hb dX8_takeWord_15 rfl (lv_at hl 0 rfl) ?_
  refine lv_iconst (v := 1) hx hb dX8_takeWord_16 rfl ?_
  refine xp_i C hW fp_8_60 KX_19 rfl (v := 4808) rfl (by decide) (by decide) dX8_takeWord_17 (fun H locs hW => ?_)
  exact w_X8_takeWord_20 N C N _ _ _ _ hW (lv_sub hl [0] rfl) h
end
theorem dX8_next_0 : decode cX8_next 0 = .ok (.aload_n 0, 1) := by decide +kernel
theorem dX8_next_1 : decode cX8_next 1 = .ok (.getfield 22, 3) := by decide +kernel
theorem dX8_next_4 : decode cX8_next 4 = .ok (.aload_n 0, 1) := by decide +kernel
theorem dX8_next_5 : decode cX8_next 5 = .ok (.getfield 19, 3) := by decide +kernel
theorem dX8_next_8 : decode cX8_next 8 = .ok (.if_icmp .ge 44, 3) := by decide +kernel
theorem dX8_next_11 : decode cX8_next 11 = .ok (.aload_n 0, 1) := by decide +kernel
theorem dX8_next_12 : decode cX8_next 12 = .ok (.getfield 11, 3) := by decide +kernel
theorem dX8_next_15 : decode cX8_next 15 = .ok (.aload_n 0, 1) := by decide +kernel
theorem dX8_next_16 : decode cX8_next 16 = .ok (.getfield 22, 3) := by decide +kernel
theorem dX8_next_19 : decode cX8_next 19 = .ok (.baload, 1) := by decide +kernel
theorem dX8_next_20 : decode cX8_next 20 = .ok (.bipush 32, 2) := by decide +kernel
theorem dX8_next_22 : decode cX8_next 22 = .ok (.if_icmp .eq 17, 3) := by decide +kernel
theorem dX8_next_25 : decode cX8_next 25 = .ok (.aload_n 0, 1) := by decide +kernel
theorem dX8_next_26 : decode cX8_next 26 = .ok (.getfield 11, 3) := by decide +kernel
theorem dX8_next_29 : decode cX8_next 29 = .ok (.aload_n 0, 1) := by decide +kernel
theorem dX8_next_30 : decode cX8_next 30 = .ok (.getfield 22, 3) := by decide +kernel
theorem dX8_next_33 : decode cX8_next 33 = .ok (.baload, 1) := by decide +kernel
theorem dX8_next_34 : decode cX8_next 34 = .ok (.bipush 10, 2) := by decide +kernel
theorem dX8_next_36 : decode cX8_next 36 = .ok (.if_icmp .ne 16, 3) := by decide +kernel
theorem dX8_next_39 : decode cX8_next 39 = .ok (.aload_n 0, 1) := by decide +kernel
theorem dX8_next_40 : decode cX8_next 40 = .ok (.dup, 1) := by decide +kernel
theorem dX8_next_41 : decode cX8_next 41 = .ok (.getfield 22, 3) := by decide +kernel
theorem dX8_next_44 : decode cX8_next 44 = .ok (.iconst 1, 1) := by decide +kernel
theorem dX8_next_45 : decode cX8_next 45 = .ok (.iadd, 1) := by decide +kernel
theorem dX8_next_46 : decode cX8_next 46 = .ok (.putfield 22, 3) := by decide +kernel
theorem dX8_next_49 : decode cX8_next 49 = .ok (.goto (-49), 3) := by decide +kernel
theorem dX8_next_52 : decode cX8_next 52 = .ok (.aload_n 0, 1) := by decide +kernel
theorem dX8_next_53 : decode cX8_next 53 = .ok (.aload_n 0, 1) := by decide +kernel
theorem dX8_next_54 : decode cX8_next 54 = .ok (.getfield 22, 3) := by decide +kernel
theorem dX8_next_57 : decode cX8_next 57 = .ok (.putfield 28, 3) := by decide +kernel
theorem dX8_next_60 : decode cX8_next 60 = .ok (.aload_n 0, 1) := by decide +kernel
theorem dX8_next_61 : decode cX8_next 61 = .ok (.getfield 22, 3) := by decide +kernel
theorem dX8_next_64 : decode cX8_next 64 = .ok (.aload_n 0, 1) := by decide +kernel
theorem dX8_next_65 : decode cX8_next 65 = .ok (.getfield 19, 3) := by decide +kernel
theorem dX8_next_68 : decode cX8_next 68 = .ok (.if_icmp .lt 11, 3) := by decide +kernel
theorem dX8_next_71 : decode cX8_next 71 = .ok (.aload_n 0, 1) := by decide +kernel
theorem dX8_next_72 : decode cX8_next 72 = .ok (.iconst 0, 1) := by decide +kernel
theorem dX8_next_73 : decode cX8_next 73 = .ok (.putfield 31, 3) := by decide +kernel
theorem dX8_next_76 : decode cX8_next 76 = .ok (.goto 51, 3) := by decide +kernel
theorem dX8_next_79 : decode cX8_next 79 = .ok (.aload_n 0, 1) := by decide +kernel
theorem dX8_next_80 : decode cX8_next 80 = .ok (.getfield 11, 3) := by decide +kernel
theorem dX8_next_83 : decode cX8_next 83 = .ok (.aload_n 0, 1) := by decide +kernel
theorem dX8_next_84 : decode cX8_next 84 = .ok (.getfield 22, 3) := by decide +kernel
theorem dX8_next_87 : decode cX8_next 87 = .ok (.baload, 1) := by decide +kernel
theorem dX8_next_88 : decode cX8_next 88 = .ok (.invokestatic 34, 3) := by decide +kernel
theorem dX8_next_91 : decode cX8_next 91 = .ok (.ifCond .eq 10, 3) := by decide +kernel
theorem dX8_next_94 : decode cX8_next 94 = .ok (.aload_n 0, 1) := by decide +kernel
theorem dX8_next_95 : decode cX8_next 95 = .ok (.invokevirtual 38, 3) := by decide +kernel
theorem dX8_next_98 : decode cX8_next 98 = .ok (.goto 29, 3) := by decide +kernel
theorem dX8_next_101 : decode cX8_next 101 = .ok (.aload_n 0, 1) := by decide +kernel
theorem dX8_next_102 : decode cX8_next 102 = .ok (.getfield 11, 3) := by decide +kernel
theorem dX8_next_105 : decode cX8_next 105 = .ok (.aload_n 0, 1) := by decide +kernel
theorem dX8_next_106 : decode cX8_next 106 = .ok (.getfield 22, 3) := by decide +kernel
theorem dX8_next_109 : decode cX8_next 109 = .ok (.baload, 1) := by decide +kernel
theorem dX8_next_110 : decode cX8_next 110 = .ok (.invokestatic 41, 3) := by decide +kernel
theorem dX8_next_113 : decode cX8_next 113 = .ok (.ifCond .eq 10, 3) := by decide +kernel
theorem dX8_next_116 : decode cX8_next 116 = .ok (.aload_n 0, 1) := by decide +kernel
theorem dX8_next_117 : decode cX8_next 117 = .ok (.invokevirtual 44, 3) := by decide +kernel
theorem dX8_next_120 : decode cX8_next 120 = .ok (.goto 7, 3) := by decide +kernel
theorem dX8_next_123 : decode cX8_next 123 = .ok (.aload_n 0, 1) := by decide +kernel
theorem dX8_next_124 : decode cX8_next 124 = .ok (.invokevirtual 47, 3) := by decide +kernel
theorem dX8_next_127 : decode cX8_next 127 = .ok (.return_, 1) := by decide +kernel
abbrev rm_X8_next : Room := { frames := 2, cells := 0, slots := 0, locals := 41 }
def f_X8_next_39 (N : Nat) (k0 : St → Option St) (σ : St) : Option St := k0 (si σ 4802 0 ((σ.1 4802 0) + 1))
def f_X8_next_52 (N : Nat) (σ : St) : Option St := (if (σ.1 4802 0) < (σ.1 4801 0) then grd (ib (σ.1 4802 0) 800) ((if (f_X8_isLetter (σ.1 20 (σ.1 4802 0).toNatClampNeg) (si σ 4804 0 (σ.1 4802 0))) = 0 then grd (ib (σ.1 4802 0) 800) ((if (f_X8_isDigit (σ.1 20 (σ.1 4802 0).toNatClampNeg) (si σ 4804 0 (σ.1 4802 0))) = 0 then bo (f_X8_takeMark (si σ 4804 0 (σ.1 4802 0))) (fun σ11 => some σ11) else bo (f_X8_takeNumber N (si σ 4804 0 (σ.1 4802 0))) (fun σ12 => some σ12))) else bo (f_X8_takeWord N (si σ 4804 0 (σ.1 4802 0))) (fun σ13 => some σ13))) else some ((si (si σ 4804 0 (σ.1 4802 0)) 4803 0 0)))
def f_X8_next_0 (N : Nat) : Nat → St → Option St
  | 0, _ => none
  | n + 1, σ => (if (σ.1 4801 0) ≤ (σ.1 4802 0) then f_X8_next_52 N σ else grd (ib (σ.1 4802 0) 800) ((if (σ.1 20 (σ.1 4802 0).toNatClampNeg) = 32 then f_X8_next_39 N (f_X8_next_0 N n) σ else grd (ib (σ.1 4802 0) 800) ((if (σ.1 20 (σ.1 4802 0).toNatClampNeg) = 10 then f_X8_next_39 N (f_X8_next_0 N n) σ else f_X8_next_52 N σ)))))
def f_X8_next (N : Nat) (σ : St) : Option St := f_X8_next_0 N N σ
section
variable {p : Program} {l : Launch} {e : Env} {s : State} {m : MethodId} {args : Array Value} {below : List Frame} {meth : Method} {c : Code} {g : XG}
set_option maxRecDepth 4000 in
theorem w_X8_next_39 (N : Nat) (k0 : St → Option St) {σ' : St} (C : xC KX g RX8 cX8_next 1 none p s m args meth c) (hk0 : ∀ (σ : St) (H : Heap) (locs : List Loc) (ls : Array Slot), xW KX g s σ H locs → lv_has ls 1 [(0, .ref (g.q 19))] → k0 σ = some σ' → W p l e rm_X8_next s m args below meth c H locs 0 0 (MQ below (xPost KX g none σ') args s 0 0 (xA KX g.q)) (F0 m 0 ls [])) : ∀ (σ : St) (H : Heap) (locs : List Loc) (ls : Array Slot), xW KX g s σ H locs → lv_has ls 1 [(0, .ref (g.q 19))] → f_X8_next_39 N k0 σ = some σ' → W p l e rm_X8_next s m args below meth c H locs 0 0 (MQ below (xPost KX g none σ') args s 0 0 (xA KX g.q)) (F0 m 39 ls []) := by
  have hx := C.1
  have hb := C.2.1
  intro σ H locs ls hW hl h
  unfold f_X8_next_39 at h
  refine lv_aload_n hx hb dX8_next_39 rfl (lv_at hl 0 rfl) ?_
  refine lv_dup hx hb dX8_next_40 rfl ?_
  refine xg_i C hW fg_8_22 KX_19 rfl (v := 4802) rfl (x := σ.1 4802 0) rfl dX8_next_41 ?_
  refine lv_iconst (v := 1) hx hb dX8_next_44 rfl ?_
  refine lv_iadd hx hb dX8_next_45 ?_
  refine xp_i C hW fp_8_22 KX_19 rfl (v := 4802) rfl rfl rfl dX8_next_46 (fun H locs hW => ?_)
  refine lv_goto (tgt := 0) hx hb dX8_next_49 (by decide) ?_
  exact hk0 _ _ _ _ hW (lv_sub hl [0] rfl) h
set_option maxRecDepth 4000 in
theorem w_X8_next_52 (N : Nat) {σ' : St} (C : xC KX g RX8 cX8_next 1 none p s m args meth c) : ∀ (σ : St) (H : Heap) (locs : List Loc) (ls : Array Slot), xW KX g s σ H locs → lv_has ls 1 [(0, .ref (g.q 19))] → f_X8_next_52 N σ = some σ' → W p l e rm_X8_next s m args below meth c H locs 0 0 (MQ below (xPost KX g none σ') args s 0 0 (xA KX g.q)) (F0 m 52 ls []) := by
  have hx := C.1
  have hb := C.2.1
  intro σ H locs ls hW hl h
  unfold f_X8_next_52 at h
  refine lv_aload_n hx hb dX8_next_52 rfl (lv_at hl 0 rfl) ?_
  refine lv_aload_n hx hb dX8_next_53 rfl (lv_at hl 0 rfl) ?_
  refine xg_i C hW fg_8_22 KX_19 rfl (v := 4802) rfl (x := σ.1 4802 0) rfl dX8_next_54 ?_
  refine xp_i C hW fp_8_28 KX_19 rfl (v := 4804) rfl rfl rfl dX8_next_57 (fun H locs hW => ?_)
  refine lv_aload_n hx hb dX8_next_60 rfl (lv_at hl 0 rfl) ?_
  refine xg_i C hW fg_8_22 KX_19 rfl (v := 4802) rfl (x := σ.1 4802 0) rfl dX8_next_61 ?_
  refine lv_aload_n hx hb dX8_next_64 rfl (lv_at hl 0 rfl) ?_
  refine xg_i C hW fg_8_19 KX_19 rfl (v := 4801) rfl (x := σ.1 4801 0) rfl dX8_next_65 ?_
  refine lv_icmp_lt (tgt := 79) hx hb dX8_next_68 (by decide) (fun c6 => ?_) (fun c6 => ?_)
  · have h := xit c6 h
    refine lv_aload_n hx hb dX8_next_79 rfl (lv_at hl 0 rfl) ?_
    refine xg_r C hW fg_8_11 KX_19 rfl dX8_next_80 ?_
    refine lv_aload_n hx hb dX8_next_83 rfl (lv_at hl 0 rfl) ?_
    refine xg_i C hW fg_8_22 KX_19 rfl (v := 4802) rfl (x := σ.1 4802 0) rfl dX8_next_84 ?_
    obtain ⟨g7, h⟩ := xgd h
    refine xa_b C hW KX_20 g7 (x := σ.1 20 (σ.1 4802 0).toNatClampNeg) rfl dX8_next_87 ?_
    refine xc_S (As := [.int (σ.1 20 (σ.1 4802 0).toNatClampNeg)]) (rest := []) C hW (m_X8_isLetter (σ.1 20 (σ.1 4802 0).toNatClampNeg) _ rfl) mf_X8_isLetter mt_X8_isLetter ml_X8_34 ⟨rfl, rfl⟩ ⟨Nat.le_of_ble_eq_true rfl, Nat.le_of_ble_eq_true rfl⟩ hl.1 rfl rfl (Nat.le_of_ble_eq_true rfl) dX8_next_88 (fun H locs hW => W.eq (g2 := F0 m 91 ls [.int (f_X8_isLetter (σ.1 20 (σ.1 4802 0).toNatClampNeg) (si σ 4804 0 (σ.1 4802 0)))]) rfl ?_)
    refine lv_if_eq (tgt := 101) hx hb dX8_next_91 (by decide) (fun c8 => ?_) (fun c8 => ?_)
    · have h := xit c8 h
      refine lv_aload_n hx hb dX8_next_101 rfl (lv_at hl 0 rfl) ?_
      refine xg_r C hW fg_8_11 KX_19 rfl dX8_next_102 ?_
      refine lv_aload_n hx hb dX8_next_105 rfl (lv_at hl 0 rfl) ?_
      refine xg_i C hW fg_8_22 KX_19 rfl (v := 4802) rfl (x := σ.1 4802 0) rfl dX8_next_106 ?_
      obtain ⟨g9, h⟩ := xgd h
      refine xa_b C hW KX_20 g9 (x := σ.1 20 (σ.1 4802 0).toNatClampNeg) rfl dX8_next_109 ?_
      refine xc_S (As := [.int (σ.1 20 (σ.1 4802 0).toNatClampNeg)]) (rest := []) C hW (m_X8_isDigit (σ.1 20 (σ.1 4802 0).toNatClampNeg) _ rfl) mf_X8_isDigit mt_X8_isDigit ml_X8_41 ⟨rfl, rfl⟩ ⟨Nat.le_of_ble_eq_true rfl, Nat.le_of_ble_eq_true rfl⟩ hl.1 rfl rfl (Nat.le_of_ble_eq_true rfl) dX8_next_110 (fun H locs hW => W.eq (g2 := F0 m 113 ls [.int (f_X8_isDigit (σ.1 20 (σ.1 4802 0).toNatClampNeg) (si σ 4804 0 (σ.1 4802 0)))]) rfl ?_)
      refine lv_if_eq (tgt := 123) hx hb dX8_next_113 (by decide) (fun c10 => ?_) (fun c10 => ?_)
      · have h := xit c10 h
        refine lv_aload_n hx hb dX8_next_123 rfl (lv_at hl 0 rfl) ?_
        obtain ⟨σ11, e11, h⟩ := xbo h
        refine xc_V (As := []) (rest := []) C hW (m_X8_takeMark _ e11) mf_X8_takeMark mv_X8_takeMark ml_X8_47 ⟨rfl, rfl⟩ ⟨Nat.le_of_ble_eq_true rfl, Nat.le_of_ble_eq_true rfl⟩ KX_19 rfl hl.1 rfl rfl (Nat.le_of_ble_eq_true rfl) dX8_next_124 (fun H locs hW => W.eq (g2 := F0 m 127 ls []) rfl ?_)
        cases h
        exact xr_v C hW dX8_next_127
      · have h := xif c10 h
        refine lv_aload_n hx hb dX8_next_116 rfl (lv_at hl 0 rfl) ?_
        obtain ⟨σ12, e12, h⟩ := xbo h
        refine xc_V (As := []) (rest := []) C hW (m_X8_takeNumber N _ e12) mf_X8_takeNumber mv_X8_takeNumber ml_X8_44 ⟨rfl, rfl⟩ ⟨Nat.le_of_ble_eq_true rfl, Nat.le_of_ble_eq_true rfl⟩ KX_19 rfl hl.1 rfl rfl (Nat.le_of_ble_eq_true rfl) dX8_next_117 (fun H locs hW => W.eq (g2 := F0 m 120 ls []) rfl ?_)
        refine lv_goto (tgt := 127) hx hb dX8_next_120 (by decide) ?_
        cases h
        exact xr_v C hW dX8_next_127
    · have h := xif c8 h
      refine lv_aload_n hx hb dX8_next_94 rfl (lv_at hl 0 rfl) ?_
      obtain ⟨σ13, e13, h⟩ := xbo h
      refine xc_V (As := []) (rest := []) C hW (m_X8_takeWord N _ e13) mf_X8_takeWord mv_X8_takeWord ml_X8_38 ⟨rfl, rfl⟩ ⟨Nat.le_of_ble_eq_true rfl, Nat.le_of_ble_eq_true rfl⟩ KX_19 rfl hl.1 rfl rfl (Nat.le_of_ble_eq_true rfl) dX8_next_95 (fun H locs hW => W.eq (g2 := F0 m 98 ls []) rfl ?_)
      refine lv_goto (tgt := 127) hx hb dX8_next_98 (by decide) ?_
      cases h
      exact xr_v C hW dX8_next_127
  · have h := xif c6 h
    refine lv_aload_n hx hb dX8_next_71 rfl (lv_at hl 0 rfl) ?_
    refine lv_iconst (v := 0) hx hb dX8_next_72 rfl ?_
    refine xp_i C hW fp_8_31 KX_19 rfl (v := 4803) rfl rfl rfl dX8_next_73 (fun H locs hW => ?_)
    refine lv_goto (tgt := 127) hx hb dX8_next_76 (by decide) ?_
    cases h
    exact xr_v C hW dX8_next_127
set_option maxRecDepth 4000 in
theorem w_X8_next_0 (N : Nat) {σ' : St} (C : xC KX g RX8 cX8_next 1 none p s m args meth c) : ∀ (n : Nat), ∀ (σ : St) (H : Heap) (locs : List Loc) (ls : Array Slot), xW KX g s σ H locs → lv_has ls 1 [(0, .ref (g.q 19))] → f_X8_next_0 N n σ = some σ' → W p l e rm_X8_next s m args below meth c H locs 0 0 (MQ below (xPost KX g none σ') args s 0 0 (xA KX g.q)) (F0 m 0 ls []) := by
  have hx := C.1
  have hb := C.2.1
  intro n
  induction n with
  | zero => intro σ H locs ls hW hl h; rw [f_X8_next_0] at h; cases h
  | succ n ih =>
    intro σ H locs ls hW hl h
    rw [f_X8_next_0] at h
    refine lv_aload_n hx hb dX8_next_0 rfl (lv_at hl 0 rfl) ?_
    refine xg_i C hW fg_8_22 KX_19 rfl (v := 4802) rfl (x := σ.1 4802 0) rfl dX8_next_1 ?_
    refine lv_aload_n hx hb dX8_next_4 rfl (lv_at hl 0 rfl) ?_
    refine xg_i C hW fg_8_19 KX_19 rfl (v := 4801) rfl (x := σ.1 4801 0) rfl dX8_next_5 ?_
    refine lv_icmp_ge (tgt := 52) hx hb dX8_next_8 (by decide) (fun c1 => ?_) (fun c1 => ?_)
    · have h := xit c1 h
      exact w_X8_next_52 N C _ _ _ _ hW (lv_sub hl [0] rfl) h
    · have h := xif c1 h
      refine lv_aload_n hx hb dX8_next_11 rfl (lv_at hl 0 rfl) ?_
      refine xg_r C hW fg_8_11 KX_19 rfl dX8_next_12 ?_
      refine lv_aload_n hx hb dX8_next_15 rfl (lv_at hl 0 rfl) ?_
      refine xg_i C hW fg_8_22 KX_19 rfl (v := 4802) rfl (x := σ.1 4802 0) rfl dX8_next_16 ?_
      obtain ⟨g2, h⟩ := xgd h
      refine xa_b C hW KX_20 g2 (x := σ.1 20 (σ.1 4802 0).toNatClampNeg) rfl dX8_next_19 ?_
      refine lv_bipush (v := 32) hx hb dX8_next_20 rfl ?_
      refine lv_icmp_eq (tgt := 39) hx hb dX8_next_22 (by decide) (fun c3 => ?_) (fun c3 => ?_)
      · have h := xit c3 h
        exact w_X8_next_39 N (f_X8_next_0 N n) C ih _ _ _ _ hW (lv_sub hl [0] rfl) h
      · have h := xif c3 h
        refine lv_aload_n hx hb dX8_next_25 rfl (lv_at hl 0 rfl) ?_
        refine xg_r C hW fg_8_11 KX_19 rfl dX8_next_26 ?_
        refine lv_aload_n hx hb dX8_next_29 rfl (lv_at hl 0 rfl) ?_
        refine xg_i C hW fg_8_22 KX_19 rfl (v := 4802) rfl (x := σ.1 4802 0) rfl dX8_next_30 ?_
        obtain ⟨g4, h⟩ := xgd h
        refine xa_b C hW KX_20 g4 (x := σ.1 20 (σ.1 4802 0).toNatClampNeg) rfl dX8_next_33 ?_
        refine lv_bipush (v := 10) hx hb dX8_next_34 rfl ?_
        refine lv_icmp_ne (tgt := 52) hx hb dX8_next_36 (by decide) (fun c5 => ?_) (fun c5 => ?_)
        · have h := xif c5 h
          exact w_X8_next_52 N C _ _ _ _ hW (lv_sub hl [0] rfl) h
        · have h := xit c5 h
          exact w_X8_next_39 N (f_X8_next_0 N n) C ih _ _ _ _ hW (lv_sub hl [0] rfl) h
set_option maxRecDepth 4000 in
theorem m_X8_next (N : Nat) (σ : St) {σ' : St} (h : f_X8_next N σ = some σ') : xM l KX g yX8_next cX8_next 1 none rm_X8_next [.ref (g.q 19)] σ none σ' := by
  refine xmet pn_X8 rfl (Nat.le_of_ble_eq_true rfl) (lv := [(0, .ref (g.q 19))]) rfl (fun p e s m args below meth c ls C hW hl => ?_)
  have hx := C.1
  have hb := C.2.1
  unfold f_X8_next at h
  exact w_X8_next_0 N C N _ _ _ _ hW (lv_sub hl [0] rfl) h
end
theorem dX0_take_0 : decode cX0_take 0 = .ok (.aload_n 0, 1) := by decide +kernel
theorem dX0_take_1 : decode cX0_take 1 = .ok (.iconst 0, 1) := by decide +kernel
theorem dX0_take_2 : decode cX0_take 2 = .ok (.putfield 19, 3) := by decide +kernel
theorem dX0_take_5 : decode cX0_take 5 = .ok (.aload_n 0, 1) := by decide +kernel
theorem dX0_take_6 : decode cX0_take 6 = .ok (.iconst 0, 1) := by decide +kernel
theorem dX0_take_7 : decode cX0_take 7 = .ok (.putfield 23, 3) := by decide +kernel
theorem dX0_take_10 : decode cX0_take 10 = .ok (.aload_n 0, 1) := by decide +kernel
theorem dX0_take_11 : decode cX0_take 11 = .ok (.iconst 0, 1) := by decide +kernel
theorem dX0_take_12 : decode cX0_take 12 = .ok (.putfield 26, 3) := by decide +kernel
theorem dX0_take_15 : decode cX0_take 15 = .ok (.aload_n 0, 1) := by decide +kernel
theorem dX0_take_16 : decode cX0_take 16 = .ok (.iconst 0, 1) := by decide +kernel
theorem dX0_take_17 : decode cX0_take 17 = .ok (.putfield 29, 3) := by decide +kernel
theorem dX0_take_20 : decode cX0_take 20 = .ok (.aload_n 0, 1) := by decide +kernel
theorem dX0_take_21 : decode cX0_take 21 = .ok (.iconst 0, 1) := by decide +kernel
theorem dX0_take_22 : decode cX0_take 22 = .ok (.putfield 32, 3) := by decide +kernel
theorem dX0_take_25 : decode cX0_take 25 = .ok (.iconst 0, 1) := by decide +kernel
theorem dX0_take_26 : decode cX0_take 26 = .ok (.istore_n 2, 1) := by decide +kernel
theorem dX0_take_27 : decode cX0_take 27 = .ok (.iload_n 2, 1) := by decide +kernel
theorem dX0_take_28 : decode cX0_take 28 = .ok (.sipush 800, 3) := by decide +kernel
theorem dX0_take_31 : decode cX0_take 31 = .ok (.if_icmp .gt 58, 3) := by decide +kernel
theorem dX0_take_34 : decode cX0_take 34 = .ok (.aload_n 1, 1) := by decide +kernel
theorem dX0_take_35 : decode cX0_take 35 = .ok (.invokevirtual 37, 3) := by decide +kernel
theorem dX0_take_38 : decode cX0_take 38 = .ok (.aload_n 1, 1) := by decide +kernel
theorem dX0_take_39 : decode cX0_take 39 = .ok (.getfield 40, 3) := by decide +kernel
theorem dX0_take_42 : decode cX0_take 42 = .ok (.ifCond .ne 31, 3) := by decide +kernel
theorem dX0_take_45 : decode cX0_take 45 = .ok (.aload_n 0, 1) := by decide +kernel
theorem dX0_take_46 : decode cX0_take 46 = .ok (.invokevirtual 43, 3) := by decide +kernel
theorem dX0_take_49 : decode cX0_take 49 = .ok (.ifCond .eq 10, 3) := by decide +kernel
theorem dX0_take_52 : decode cX0_take 52 = .ok (.aload_n 0, 1) := by decide +kernel
theorem dX0_take_53 : decode cX0_take 53 = .ok (.getfield 26, 3) := by decide +kernel
theorem dX0_take_56 : decode cX0_take 56 = .ok (.ifCond .eq 11, 3) := by decide +kernel
theorem dX0_take_59 : decode cX0_take 59 = .ok (.aload_n 1, 1) := by decide +kernel
theorem dX0_take_60 : decode cX0_take 60 = .ok (.iconst 1, 1) := by decide +kernel
theorem dX0_take_61 : decode cX0_take 61 = .ok (.invokevirtual 47, 3) := by decide +kernel
theorem dX0_take_64 : decode cX0_take 64 = .ok (.ifCond .eq 7, 3) := by decide +kernel
theorem dX0_take_67 : decode cX0_take 67 = .ok (.iconst 1, 1) := by decide +kernel
theorem dX0_take_68 : decode cX0_take 68 = .ok (.goto 4, 3) := by decide +kernel
theorem dX0_take_71 : decode cX0_take 71 = .ok (.iconst 0, 1) := by decide +kernel
theorem dX0_take_72 : decode cX0_take 72 = .ok (.ireturn, 1) := by decide +kernel
theorem dX0_take_73 : decode cX0_take 73 = .ok (.aload_n 0, 1) := by decide +kernel
theorem dX0_take_74 : decode cX0_take 74 = .ok (.aload_n 1, 1) := by decide +kernel
theorem dX0_take_75 : decode cX0_take 75 = .ok (.invokevirtual 51, 3) := by decide +kernel
theorem dX0_take_78 : decode cX0_take 78 = .ok (.ifCond .ne 5, 3) := by decide +kernel
theorem dX0_take_81 : decode cX0_take 81 = .ok (.iconst 0, 1) := by decide +kernel
theorem dX0_take_82 : decode cX0_take 82 = .ok (.ireturn, 1) := by decide +kernel
theorem dX0_take_83 : decode cX0_take 83 = .ok (.iinc 2 1, 3) := by decide +kernel
theorem dX0_take_86 : decode cX0_take 86 = .ok (.goto (-59), 3) := by decide +kernel
theorem dX0_take_89 : decode cX0_take 89 = .ok (.iconst 0, 1) := by decide +kernel
theorem dX0_take_90 : decode cX0_take 90 = .ok (.ireturn, 1) := by decide +kernel
abbrev rm_X0_take : Room := { frames := 3, cells := 0, slots := 0, locals := 66 }
def f_X0_take_59 (N : Nat) (σ : St) : Option (Int32 × St) := bd (f_X8_refuse 1 σ) (fun r8_ σ8 => (if r8_ = 0 then some (0, σ8) else some (1, σ8)))
def f_X0_take_27 (N : Nat) : Nat → Int32 → St → Option (Int32 × St)
  | 0, _, _ => none
  | n + 1, x2, σ => (if 800 < x2 then some (0, σ) else bo (f_X8_next N σ) (fun σ2 => (if (σ2.1 4803 0) = 0 then (if (f_X0_isWhole σ2) = 0 then f_X0_take_59 N σ2 else (if (σ2.1 5204 0) = 0 then some (1, σ2) else f_X0_take_59 N σ2)) else bd (f_X0_takeToken N σ2) (fun r4_ σ4 => (if r4_ = 0 then some (0, σ4) else f_X0_take_27 N n (x2 + 1) σ4)))))
def f_X0_take (N : Nat) (σ : St) : Option (Int32 × St) := f_X0_take_27 N N 0 (si (si (si (si (si σ 5202 0 0) 5203 0 0) 5204 0 0) 5205 0 0) 5206 0 0)
section
variable {p : Program} {l : Launch} {e : Env} {s : State} {m : MethodId} {args : Array Value} {below : List Frame} {meth : Method} {c : Code} {g : XG}
set_option maxRecDepth 4000 in
theorem w_X0_take_59 (N : Nat) {r : Int32} {σ' : St} (C : xC KX g RX0 cX0_take 3 (some .boolean) p s m args meth c) : ∀ (σ : St) (H : Heap) (locs : List Loc) (ls : Array Slot), xW KX g s σ H locs → lv_has ls 3 [(1, .ref (g.q 19))] → f_X0_take_59 N σ = some (r, σ') → W p l e rm_X0_take s m args below meth c H locs 0 0 (MQ below (xPost KX g (some (.int r)) σ') args s 0 0 (xA KX g.q)) (F0 m 59 ls []) := by
  have hx := C.1
  have hb := C.2.1
  intro σ H locs ls hW hl h
  unfold f_X0_take_59 at h
  refine lv_aload_n hx hb dX0_take_59 rfl (lv_at hl 0 rfl) ?_
  refine lv_iconst (v := 1) hx hb dX0_take_60 rfl ?_
  obtain ⟨r8_, σ8, e8, h⟩ := xbd h
  refine xc_V (As := [.int 1]) (rest := []) C hW (m_X8_refuse 1 _ e8) mf_X8_refuse mv_X8_refuse ml_X0_47 ⟨rfl, rfl⟩ ⟨Nat.le_of_ble_eq_true rfl, Nat.le_of_ble_eq_true rfl⟩ KX_19 rfl hl.1 rfl rfl (Nat.le_of_ble_eq_true rfl) dX0_take_61 (fun H locs hW => W.eq (g2 := F0 m 64 ls [.int r8_]) rfl ?_)
  refine lv_if_eq (tgt := 71) hx hb dX0_take_64 (by decide) (fun c9 => ?_) (fun c9 => ?_)
  · have h := xit c9 h
    refine lv_iconst (v := 0) hx hb dX0_take_71 rfl ?_
    cases h
    exact xr_z C hW (by decide) dX0_take_72
  · have h := xif c9 h
    refine lv_iconst (v := 1) hx hb dX0_take_67 rfl ?_
    refine lv_goto (tgt := 72) hx hb dX0_take_68 (by decide) ?_
    cases h
    exact xr_z C hW (by decide) dX0_take_72
set_option maxRecDepth 4000 in
theorem w_X0_take_27 (N : Nat) {r : Int32} {σ' : St} (C : xC KX g RX0 cX0_take 3 (some .boolean) p s m args meth c) : ∀ (n : Nat), ∀ (x2 : Int32) (σ : St) (H : Heap) (locs : List Loc) (ls : Array Slot), xW KX g s σ H locs → lv_has ls 3 [(0, .ref (g.q 21)), (1, .ref (g.q 19)), (2, .int x2)] → f_X0_take_27 N n x2 σ = some (r, σ') → W p l e rm_X0_take s m args below meth c H locs 0 0 (MQ below (xPost KX g (some (.int r)) σ') args s 0 0 (xA KX g.q)) (F0 m 27 ls []) := by
  have hx := C.1
  have hb := C.2.1
  intro n
  induction n with
  | zero => intro x2 σ H locs ls hW hl h; rw [f_X0_take_27] at h; cases h
  | succ n ih =>
    intro x2 σ H locs ls hW hl h
    rw [f_X0_take_27] at h
    refine lv_iload_n hx hb dX0_take_27 rfl (lv_at hl 2 rfl) ?_
    refine lv_sipush (v := 800) hx hb dX0_take_28 rfl ?_
    refine lv_icmp_gt (tgt := 89) hx hb dX0_take_31 (by decide) (fun c1 => ?_) (fun c1 => ?_)
    · have h := xit c1 h
      refine lv_iconst (v := 0) hx hb dX0_take_89 rfl ?_
      cases h
      exact xr_z C hW (by decide) dX0_take_90
    · have h := xif c1 h
      refine lv_aload_n hx hb dX0_take_34 rfl (lv_at hl 1 rfl) ?_
      obtain ⟨σ2, e2, h⟩ := xbo h
      refine xc_V (As := []) (rest := []) C hW (m_X8_next N _ e2) mf_X8_next mv_X8_next ml_X0_37 ⟨rfl, rfl⟩ ⟨Nat.le_of_ble_eq_true rfl, Nat.le_of_ble_eq_true rfl⟩ KX_19 rfl hl.1 rfl rfl (Nat.le_of_ble_eq_true rfl) dX0_take_35 (fun H locs hW => W.eq (g2 := F0 m 38 ls []) rfl ?_)
      refine lv_aload_n hx hb dX0_take_38 rfl (lv_at hl 1 rfl) ?_
      refine xg_i C hW fg_0_40 KX_19 rfl (v := 4803) rfl (x := σ2.1 4803 0) rfl dX0_take_39 ?_
      refine lv_if_ne (tgt := 73) hx hb dX0_take_42 (by decide) (fun c3 => ?_) (fun c3 => ?_)
      · have h := xif c3 h
        refine lv_aload_n hx hb dX0_take_73 rfl (lv_at hl 0 rfl) ?_
        refine lv_aload_n hx hb dX0_take_74 rfl (lv_at hl 1 rfl) ?_
        obtain ⟨r4_, σ4, e4, h⟩ := xbd h
        refine xc_V (As := [.ref (g.q 19)]) (rest := []) C hW (m_X0_takeToken N _ e4) mf_X0_takeToken mv_X0_takeToken ml_X0_51 ⟨rfl, rfl⟩ ⟨Nat.le_of_ble_eq_true rfl, Nat.le_of_ble_eq_true rfl⟩ KX_21 rfl hl.1 rfl rfl (Nat.le_of_ble_eq_true rfl) dX0_take_75 (fun H locs hW => W.eq (g2 := F0 m 78 ls [.int r4_]) rfl ?_)
        refine lv_if_ne (tgt := 83) hx hb dX0_take_78 (by decide) (fun c5 => ?_) (fun c5 => ?_)
        · have h := xif c5 h
          refine lv_iinc (v := x2 + 1) (lv' := [(2, .int (x2 + 1)), (0, .ref (g.q 21)), (1, .ref (g.q 19))]) hx hb dX0_take_83 hl (k := 2) rfl rfl (Nat.le_of_ble_eq_true rfl) rfl (fun ls hl => ?_)
          refine lv_goto (tgt := 27) hx hb dX0_take_86 (by decide) ?_
          exact ih (x2 + 1) _ _ _ _ hW (lv_sub hl [1, 2, 0] rfl) h
        · have h := xit c5 h
          refine lv_iconst (v := 0) hx hb dX0_take_81 rfl ?_
          cases h
          exact xr_z C hW (by decide) dX0_take_82
      · have h := xit c3 h
        refine lv_aload_n hx hb dX0_take_45 rfl (lv_at hl 0 rfl) ?_
        refine xc_V (As := []) (rest := []) C hW (m_X0_isWhole _ rfl) mf_X0_isWhole mv_X0_isWhole ml_X0_43 ⟨rfl, rfl⟩ ⟨Nat.le_of_ble_eq_true rfl, Nat.le_of_ble_eq_true rfl⟩ KX_21 rfl hl.1 rfl rfl (Nat.le_of_ble_eq_true rfl) dX0_take_46 (fun H locs hW => W.eq (g2 := F0 m 49 ls [.int (f_X0_isWhole σ2)]) rfl ?_)
        refine lv_if_eq (tgt := 59) hx hb dX0_take_49 (by decide) (fun c6 => ?_) (fun c6 => ?_)
        · have h := xit c6 h
          exact w_X0_take_59 N C _ _ _ _ hW (lv_sub hl [1] rfl) h
        · have h := xif c6 h
          refine lv_aload_n hx hb dX0_take_52 rfl (lv_at hl 0 rfl) ?_
          refine xg_i C hW fg_0_26 KX_21 rfl (v := 5204) rfl (x := σ2.1 5204 0) rfl dX0_take_53 ?_
          refine lv_if_eq (tgt := 67) hx hb dX0_take_56 (by decide) (fun c7 => ?_) (fun c7 => ?_)
          · have h := xit c7 h
            refine lv_iconst (v := 1) hx hb dX0_take_67 rfl ?_
            refine lv_goto (tgt := 72) hx hb dX0_take_68 (by decide) ?_
            cases h
            exact xr_z C hW (by decide) dX0_take_72
          · have h := xif c7 h
            exact w_X0_take_59 N C _ _ _ _ hW (lv_sub hl [1] rfl) h
set_option maxRecDepth 4000 in
theorem m_X0_take (N : Nat) (σ : St) {r : Int32} {σ' : St} (h : f_X0_take N σ = some (r, σ')) : xM l KX g yX0_take cX0_take 3 (some .boolean) rm_X0_take [.ref (g.q 21), .ref (g.q 19)] σ (some (.int r)) σ' := by
  refine xmet pn_X0 rfl (Nat.le_of_ble_eq_true rfl) (lv := [(0, .ref (g.q 21)), (1, .ref (g.q 19))]) rfl (fun p e s m args below meth c ls C hW hl => ?_)
  have hx := C.1
  have hb := C.2.1
  unfold f_X0_take at h
  refine lv_aload_n hx hb dX0_take_0 rfl (lv_at hl 0 rfl) ?_
  refine lv_iconst (v := 0) hx hb dX0_take_1 rfl ?_
  refine xp_i C hW fp_0_19 KX_21 rfl (v := 5202) rfl rfl rfl dX0_take_2 (fun H locs hW => ?_)
  refine lv_aload_n hx hb dX0_take_5 rfl (lv_at hl 0 rfl) ?_
  refine lv_iconst (v := 0) hx hb dX0_take_6 rfl ?_
  refine xp_i C hW fp_0_23 KX_21 rfl (v := 5203) rfl rfl rfl dX0_take_7 (fun H locs hW => ?_)
  refine lv_aload_n hx hb dX0_take_10 rfl (lv_at hl 0 rfl) ?_
  refine lv_iconst (v := 0) hx hb dX0_take_11 rfl ?_
  refine xp_i C hW fp_0_26 KX_21 rfl (v := 5204) rfl rfl rfl dX0_take_12 (fun H locs hW => ?_)
  refine lv_aload_n hx hb dX0_take_15 rfl (lv_at hl 0 rfl) ?_
  refine lv_iconst (v := 0) hx hb dX0_take_16 rfl ?_
  refine xp_i C hW fp_0_29 KX_21 rfl (v := 5205) rfl rfl rfl dX0_take_17 (fun H locs hW => ?_)
  refine lv_aload_n hx hb dX0_take_20 rfl (lv_at hl 0 rfl) ?_
  refine lv_iconst (v := 0) hx hb dX0_take_21 rfl ?_
  refine xp_i C hW fp_0_32 KX_21 rfl (v := 5206) rfl rfl rfl dX0_take_22 (fun H locs hW => ?_)
  refine lv_iconst (v := 0) hx hb dX0_take_25 rfl ?_
  refine lv_istore_n (lv' := [(2, .int 0), (0, .ref (g.q 21)), (1, .ref (g.q 19))]) hx hb dX0_take_26 rfl hl (Nat.le_of_ble_eq_true rfl) rfl (fun ls hl => ?_)
  exact w_X0_take_27 N C N 0 _ _ _ _ hW (lv_sub hl [1, 2, 0] rfl) h
end
theorem dX0_codeAt_0 : decode cX0_codeAt 0 = .ok (.iload_n 1, 1) := by decide +kernel
theorem dX0_codeAt_1 : decode cX0_codeAt 1 = .ok (.ifCond .lt 11, 3) := by decide +kernel
theorem dX0_codeAt_4 : decode cX0_codeAt 4 = .ok (.iload_n 1, 1) := by decide +kernel
theorem dX0_codeAt_5 : decode cX0_codeAt 5 = .ok (.aload_n 0, 1) := by decide +kernel
theorem dX0_codeAt_6 : decode cX0_codeAt 6 = .ok (.getfield 19, 3) := by decide +kernel
theorem dX0_codeAt_9 : decode cX0_codeAt 9 = .ok (.if_icmp .lt 8, 3) := by decide +kernel
theorem dX0_codeAt_12 : decode cX0_codeAt 12 = .ok (.bipush (-45), 2) := by decide +kernel
theorem dX0_codeAt_14 : decode cX0_codeAt 14 = .ok (.goto 9, 3) := by decide +kernel
theorem dX0_codeAt_17 : decode cX0_codeAt 17 = .ok (.aload_n 0, 1) := by decide +kernel
theorem dX0_codeAt_18 : decode cX0_codeAt 18 = .ok (.getfield 11, 3) := by decide +kernel
theorem dX0_codeAt_21 : decode cX0_codeAt 21 = .ok (.iload_n 1, 1) := by decide +kernel
theorem dX0_codeAt_22 : decode cX0_codeAt 22 = .ok (.iaload, 1) := by decide +kernel
theorem dX0_codeAt_23 : decode cX0_codeAt 23 = .ok (.ireturn, 1) := by decide +kernel
abbrev rm_X0_codeAt : Room := { frames := 0, cells := 0, slots := 0, locals := 0 }
def f_X0_codeAt (x1 : Int32) (σ : St) : Option Int32 := (if x1 < 0 then some ((-45)) else (if x1 < (σ.1 5202 0) then grd (ib x1 240) (some (σ.1 22 x1.toNatClampNeg)) else some ((-45))))
section
variable {p : Program} {l : Launch} {e : Env} {s : State} {m : MethodId} {args : Array Value} {below : List Frame} {meth : Method} {c : Code} {g : XG}
set_option maxRecDepth 4000 in
theorem m_X0_codeAt (x1 : Int32) (σ : St) {r : Int32} (h : f_X0_codeAt x1 σ = some r) : xM l KX g yX0_codeAt cX0_codeAt 2 (some .int) rm_X0_codeAt [.ref (g.q 21), .int x1] σ (some (.int r)) σ := by
  refine xmet pn_X0 rfl (Nat.le_of_ble_eq_true rfl) (lv := [(0, .ref (g.q 21)), (1, .int x1)]) rfl (fun p e s m args below meth c ls C hW hl => ?_)
  have hx := C.1
  have hb := C.2.1
  unfold f_X0_codeAt at h
  refine lv_iload_n hx hb dX0_codeAt_0 rfl (lv_at hl 1 rfl) ?_
  refine lv_if_lt (tgt := 12) hx hb dX0_codeAt_1 (by decide) (fun c1 => ?_) (fun c1 => ?_)
  · have h := xit c1 h
    refine lv_bipush (v := (-45)) hx hb dX0_codeAt_12 rfl ?_
    refine lv_goto (tgt := 23) hx hb dX0_codeAt_14 (by decide) ?_
    cases h
    exact xr_i C hW dX0_codeAt_23
  · have h := xif c1 h
    refine lv_iload_n hx hb dX0_codeAt_4 rfl (lv_at hl 1 rfl) ?_
    refine lv_aload_n hx hb dX0_codeAt_5 rfl (lv_at hl 0 rfl) ?_
    refine xg_i C hW fg_0_19 KX_21 rfl (v := 5202) rfl (x := σ.1 5202 0) rfl dX0_codeAt_6 ?_
    refine lv_icmp_lt (tgt := 17) hx hb dX0_codeAt_9 (by decide) (fun c2 => ?_) (fun c2 => ?_)
    · have h := xit c2 h
      refine lv_aload_n hx hb dX0_codeAt_17 rfl (lv_at hl 0 rfl) ?_
      refine xg_r C hW fg_0_11 KX_21 rfl dX0_codeAt_18 ?_
      refine lv_iload_n hx hb dX0_codeAt_21 rfl (lv_at hl 1 rfl) ?_
      obtain ⟨g3, h⟩ := xgd h
      refine xa_i C hW KX_22 g3 (x := σ.1 22 x1.toNatClampNeg) rfl dX0_codeAt_22 ?_
      cases h
      exact xr_i C hW dX0_codeAt_23
    · have h := xif c2 h
      refine lv_bipush (v := (-45)) hx hb dX0_codeAt_12 rfl ?_
      refine lv_goto (tgt := 23) hx hb dX0_codeAt_14 (by decide) ?_
      cases h
      exact xr_i C hW dX0_codeAt_23
end
theorem dX1_forget_0 : decode cX1_forget 0 = .ok (.aload_n 0, 1) := by decide +kernel
theorem dX1_forget_1 : decode cX1_forget 1 = .ok (.iconst 0, 1) := by decide +kernel
theorem dX1_forget_2 : decode cX1_forget 2 = .ok (.putfield 49, 3) := by decide +kernel
theorem dX1_forget_5 : decode cX1_forget 5 = .ok (.aload_n 0, 1) := by decide +kernel
theorem dX1_forget_6 : decode cX1_forget 6 = .ok (.iconst 0, 1) := by decide +kernel
theorem dX1_forget_7 : decode cX1_forget 7 = .ok (.putfield 53, 3) := by decide +kernel
theorem dX1_forget_10 : decode cX1_forget 10 = .ok (.return_, 1) := by decide +kernel
abbrev rm_X1_forget : Room := { frames := 0, cells := 0, slots := 0, locals := 0 }
def f_X1_forget (σ : St) : Option St := some ((si (si σ 5602 0 0) 5605 0 0))
section
variable {p : Program} {l : Launch} {e : Env} {s : State} {m : MethodId} {args : Array Value} {below : List Frame} {meth : Method} {c : Code} {g : XG}
set_option maxRecDepth 4000 in
theorem m_X1_forget (σ : St) {σ' : St} (h : f_X1_forget σ = some σ') : xM l KX g yX1_forget cX1_forget 1 none rm_X1_forget [.ref (g.q 23)] σ none σ' := by
  refine xmet pn_X1 rfl (Nat.le_of_ble_eq_true rfl) (lv := [(0, .ref (g.q 23))]) rfl (fun p e s m args below meth c ls C hW hl => ?_)
  have hx := C.1
  have hb := C.2.1
  unfold f_X1_forget at h
  refine lv_aload_n hx hb dX1_forget_0 rfl (lv_at hl 0 rfl) ?_
  refine lv_iconst (v := 0) hx hb dX1_forget_1 rfl ?_
  refine xp_i C hW fp_1_49 KX_23 rfl (v := 5602) rfl rfl rfl dX1_forget_2 (fun H locs hW => ?_)
  refine lv_aload_n hx hb dX1_forget_5 rfl (lv_at hl 0 rfl) ?_
  refine lv_iconst (v := 0) hx hb dX1_forget_6 rfl ?_
  refine xp_i C hW fp_1_53 KX_23 rfl (v := 5605) rfl rfl rfl dX1_forget_7 (fun H locs hW => ?_)
  cases h
  exact xr_v C hW dX1_forget_10
end
theorem dX11_sizeOf_0 : decode cX11_sizeOf 0 = .ok (.iload_n 0, 1) := by decide +kernel
theorem dX11_sizeOf_1 : decode cX11_sizeOf 1 = .ok (.ldc_w 383, 3) := by decide +kernel
theorem dX11_sizeOf_4 : decode cX11_sizeOf 4 = .ok (.imul, 1) := by decide +kernel
theorem dX11_sizeOf_5 : decode cX11_sizeOf 5 = .ok (.iload_n 1, 1) := by decide +kernel
theorem dX11_sizeOf_6 : decode cX11_sizeOf 6 = .ok (.iadd, 1) := by decide +kernel
theorem dX11_sizeOf_7 : decode cX11_sizeOf 7 = .ok (.ireturn, 1) := by decide +kernel
abbrev rm_X11_sizeOf : Room := { frames := 0, cells := 0, slots := 0, locals := 0 }
def f_X11_sizeOf (x0 : Int32) (x1 : Int32) (σ : St) : Int32 := (x0 * 65536) + x1
section
variable {p : Program} {l : Launch} {e : Env} {s : State} {m : MethodId} {args : Array Value} {below : List Frame} {meth : Method} {c : Code} {g : XG}
set_option maxRecDepth 4000 in
theorem m_X11_sizeOf (x0 : Int32) (x1 : Int32) (σ : St) {r : Int32} (h : f_X11_sizeOf x0 x1 σ = r) : xM l KX g yX11_sizeOf cX11_sizeOf 2 (some .int) rm_X11_sizeOf [.int x0, .int x1] σ (some (.int r)) σ := by
  refine xmet pn_X11 rfl (Nat.le_of_ble_eq_true rfl) (lv := [(0, .int x0), (1, .int x1)]) rfl (fun p e s m args below meth c ls C hW hl => ?_)
  have hx := C.1
  have hb := C.2.1
  unfold f_X11_sizeOf at h
  refine lv_iload_n hx hb dX11_sizeOf_0 rfl (lv_at hl 0 rfl) ?_
  refine lv_ldcw (v := 65536) hx hb C.ow (C.hts _ kc_X11_383) dX11_sizeOf_1 ?_
  refine lv_imul hx hb dX11_sizeOf_4 ?_
  refine lv_iload_n hx hb dX11_sizeOf_5 rfl (lv_at hl 1 rfl) ?_
  refine lv_iadd hx hb dX11_sizeOf_6 ?_
  cases h
  exact xr_i C hW dX11_sizeOf_7
end
