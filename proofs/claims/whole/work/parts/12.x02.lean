theorem dX1_putSign_0 : decode cX1_putSign 0 = .ok (.aload_n 0, 1) := by decide +kernel
theorem dX1_putSign_1 : decode cX1_putSign 1 = .ok (.getfield 53, 3) := by decide +kernel
theorem dX1_putSign_4 : decode cX1_putSign 4 = .ok (.bipush 24, 2) := by decide +kernel
theorem dX1_putSign_6 : decode cX1_putSign 6 = .ok (.if_icmp .lt 4, 3) := by decide +kernel
theorem dX1_putSign_9 : decode cX1_putSign 9 = .ok (.return_, 1) := by decide +kernel
theorem dX1_putSign_10 : decode cX1_putSign 10 = .ok (.aload_n 0, 1) := by decide +kernel
theorem dX1_putSign_11 : decode cX1_putSign 11 = .ok (.getfield 20, 3) := by decide +kernel
theorem dX1_putSign_14 : decode cX1_putSign 14 = .ok (.aload_n 0, 1) := by decide +kernel
theorem dX1_putSign_15 : decode cX1_putSign 15 = .ok (.getfield 53, 3) := by decide +kernel
theorem dX1_putSign_18 : decode cX1_putSign 18 = .ok (.iload_n 1, 1) := by decide +kernel
theorem dX1_putSign_19 : decode cX1_putSign 19 = .ok (.iastore, 1) := by decide +kernel
theorem dX1_putSign_20 : decode cX1_putSign 20 = .ok (.aload_n 0, 1) := by decide +kernel
theorem dX1_putSign_21 : decode cX1_putSign 21 = .ok (.getfield 23, 3) := by decide +kernel
theorem dX1_putSign_24 : decode cX1_putSign 24 = .ok (.aload_n 0, 1) := by decide +kernel
theorem dX1_putSign_25 : decode cX1_putSign 25 = .ok (.getfield 53, 3) := by decide +kernel
theorem dX1_putSign_28 : decode cX1_putSign 28 = .ok (.aload_n 0, 1) := by decide +kernel
theorem dX1_putSign_29 : decode cX1_putSign 29 = .ok (.getfield 49, 3) := by decide +kernel
theorem dX1_putSign_32 : decode cX1_putSign 32 = .ok (.iastore, 1) := by decide +kernel
theorem dX1_putSign_33 : decode cX1_putSign 33 = .ok (.aload_n 0, 1) := by decide +kernel
theorem dX1_putSign_34 : decode cX1_putSign 34 = .ok (.getfield 26, 3) := by decide +kernel
theorem dX1_putSign_37 : decode cX1_putSign 37 = .ok (.aload_n 0, 1) := by decide +kernel
theorem dX1_putSign_38 : decode cX1_putSign 38 = .ok (.getfield 53, 3) := by decide +kernel
theorem dX1_putSign_41 : decode cX1_putSign 41 = .ok (.iload_n 2, 1) := by decide +kernel
theorem dX1_putSign_42 : decode cX1_putSign 42 = .ok (.iastore, 1) := by decide +kernel
theorem dX1_putSign_43 : decode cX1_putSign 43 = .ok (.aload_n 0, 1) := by decide +kernel
theorem dX1_putSign_44 : decode cX1_putSign 44 = .ok (.getfield 29, 3) := by decide +kernel
theorem dX1_putSign_47 : decode cX1_putSign 47 = .ok (.aload_n 0, 1) := by decide +kernel
theorem dX1_putSign_48 : decode cX1_putSign 48 = .ok (.getfield 53, 3) := by decide +kernel
theorem dX1_putSign_51 : decode cX1_putSign 51 = .ok (.iconst 0, 1) := by decide +kernel
theorem dX1_putSign_52 : decode cX1_putSign 52 = .ok (.iastore, 1) := by decide +kernel
theorem dX1_putSign_53 : decode cX1_putSign 53 = .ok (.aload_n 0, 1) := by decide +kernel
theorem dX1_putSign_54 : decode cX1_putSign 54 = .ok (.getfield 32, 3) := by decide +kernel
theorem dX1_putSign_57 : decode cX1_putSign 57 = .ok (.aload_n 0, 1) := by decide +kernel
theorem dX1_putSign_58 : decode cX1_putSign 58 = .ok (.getfield 53, 3) := by decide +kernel
theorem dX1_putSign_61 : decode cX1_putSign 61 = .ok (.iload_n 3, 1) := by decide +kernel
theorem dX1_putSign_62 : decode cX1_putSign 62 = .ok (.iastore, 1) := by decide +kernel
theorem dX1_putSign_63 : decode cX1_putSign 63 = .ok (.aload_n 0, 1) := by decide +kernel
theorem dX1_putSign_64 : decode cX1_putSign 64 = .ok (.dup, 1) := by decide +kernel
theorem dX1_putSign_65 : decode cX1_putSign 65 = .ok (.getfield 53, 3) := by decide +kernel
theorem dX1_putSign_68 : decode cX1_putSign 68 = .ok (.iconst 1, 1) := by decide +kernel
theorem dX1_putSign_69 : decode cX1_putSign 69 = .ok (.iadd, 1) := by decide +kernel
theorem dX1_putSign_70 : decode cX1_putSign 70 = .ok (.putfield 53, 3) := by decide +kernel
theorem dX1_putSign_73 : decode cX1_putSign 73 = .ok (.return_, 1) := by decide +kernel
abbrev rm_X1_putSign : Room := { frames := 0, cells := 0, slots := 0, locals := 0 }
def f_X1_putSign (x1 : Int32) (x2 : Int32) (x3 : Int32) (σ : St) : Option St := (if (σ.1 5605 0) < 24 then grd (ib (σ.1 5605 0) 24) (grd (ib (σ.1 5605 0) 24) (grd (ib (σ.1 5605 0) 24) (grd (ib (σ.1 5605 0) 24) (grd (ib (σ.1 5605 0) 24) (some ((si (si (si (si (si (si σ 26 (σ.1 5605 0).toNatClampNeg x1) 27 (σ.1 5605 0).toNatClampNeg (σ.1 5602 0)) 28 (σ.1 5605 0).toNatClampNeg x2) 29 (σ.1 5605 0).toNatClampNeg 0) 30 (σ.1 5605 0).toNatClampNeg x3) 5605 0 ((σ.1 5605 0) + 1)))))))) else some σ)
section
variable {p : Program} {l : Launch} {e : Env} {s : State} {m : MethodId} {args : Array Value} {below : List Frame} {meth : Method} {c : Code} {g : XG}
set_option maxRecDepth 4000 in
theorem m_X1_putSign (x1 : Int32) (x2 : Int32) (x3 : Int32) (σ : St) {σ' : St} (h : f_X1_putSign x1 x2 x3 σ = some σ') : xM l KX g yX1_putSign cX1_putSign 4 none rm_X1_putSign [.ref (g.q 23), .int x1, .int x2, .int x3] σ none σ' := by
  refine xmet pn_X1 rfl (Nat.le_of_ble_eq_true rfl) (lv := [(0, .ref (g.q 23)), (1, .int x1), (2, .int x2), (3, .int x3)]) rfl (fun p e s m args below meth c ls C hW hl => ?_)
  have hx := C.1
  have hb := C.2.1
  unfold f_X1_putSign at h
  refine lv_aload_n hx hb dX1_putSign_0 rfl (lv_at hl 0 rfl) ?_
  refine xg_i C hW fg_1_53 KX_23 rfl (v := 5605) rfl (x := σ.1 5605 0) rfl dX1_putSign_1 ?_
  refine lv_bipush (v := 24) hx hb dX1_putSign_4 rfl ?_
  refine lv_icmp_lt (tgt := 10) hx hb dX1_putSign_6 (by decide) (fun c1 => ?_) (fun c1 => ?_)
  · have h := xit c1 h
    refine lv_aload_n hx hb dX1_putSign_10 rfl (lv_at hl 0 rfl) ?_
    refine xg_r C hW fg_1_20 KX_23 rfl dX1_putSign_11 ?_
    refine lv_aload_n hx hb dX1_putSign_14 rfl (lv_at hl 0 rfl) ?_
    refine xg_i C hW fg_1_53 KX_23 rfl (v := 5605) rfl (x := σ.1 5605 0) rfl dX1_putSign_15 ?_
    refine lv_iload_n hx hb dX1_putSign_18 rfl (lv_at hl 1 rfl) ?_
    obtain ⟨g2, h⟩ := xgd h
    refine xs_i C hW KX_26 g2 dX1_putSign_19 (fun H locs hW => ?_)
    refine lv_aload_n hx hb dX1_putSign_20 rfl (lv_at hl 0 rfl) ?_
    refine xg_r C hW fg_1_23 KX_23 rfl dX1_putSign_21 ?_
    refine lv_aload_n hx hb dX1_putSign_24 rfl (lv_at hl 0 rfl) ?_
    refine xg_i C hW fg_1_53 KX_23 rfl (v := 5605) rfl (x := σ.1 5605 0) rfl dX1_putSign_25 ?_
    refine lv_aload_n hx hb dX1_putSign_28 rfl (lv_at hl 0 rfl) ?_
    refine xg_i C hW fg_1_49 KX_23 rfl (v := 5602) rfl (x := σ.1 5602 0) rfl dX1_putSign_29 ?_
    obtain ⟨g3, h⟩ := xgd h
    refine xs_i C hW KX_27 g3 dX1_putSign_32 (fun H locs hW => ?_)
    refine lv_aload_n hx hb dX1_putSign_33 rfl (lv_at hl 0 rfl) ?_
    refine xg_r C hW fg_1_26 KX_23 rfl dX1_putSign_34 ?_
    refine lv_aload_n hx hb dX1_putSign_37 rfl (lv_at hl 0 rfl) ?_
    refine xg_i C hW fg_1_53 KX_23 rfl (v := 5605) rfl (x := σ.1 5605 0) rfl dX1_putSign_38 ?_
    refine lv_iload_n hx hb dX1_putSign_41 rfl (lv_at hl 2 rfl) ?_
    obtain ⟨g4, h⟩ := xgd h
    refine xs_i C hW KX_28 g4 dX1_putSign_42 (fun H locs hW => ?_)
    refine lv_aload_n hx hb dX1_putSign_43 rfl (lv_at hl 0 rfl) ?_
    refine xg_r C hW fg_1_29 KX_23 rfl dX1_putSign_44 ?_
    refine lv_aload_n hx hb dX1_putSign_47 rfl (lv_at hl 0 rfl) ?_
    refine xg_i C hW fg_1_53 KX_23 rfl (v := 5605) rfl (x := σ.1 5605 0) rfl dX1_putSign_48 ?_
    refine lv_iconst (v := 0) hx hb dX1_putSign_51 rfl ?_
    obtain ⟨g5, h⟩ := xgd h
    refine xs_i C hW KX_29 g5 dX1_putSign_52 (fun H locs hW => ?_)
    refine lv_aload_n hx hb dX1_putSign_53 rfl (lv_at hl 0 rfl) ?_
    refine xg_r C hW fg_1_32 KX_23 rfl dX1_putSign_54 ?_
    refine lv_aload_n hx hb dX1_putSign_57 rfl (lv_at hl 0 rfl) ?_
    refine xg_i C hW fg_1_53 KX_23 rfl (v := 5605) rfl (x := σ.1 5605 0) rfl dX1_putSign_58 ?_
    refine lv_iload_n hx hb dX1_putSign_61 rfl (lv_at hl 3 rfl) ?_
    obtain ⟨g6, h⟩ := xgd h
    refine xs_i C hW KX_30 g6 dX1_putSign_62 (fun H locs hW => ?_)
    refine lv_aload_n hx hb dX1_putSign_63 rfl (lv_at hl 0 rfl) ?_
    refine lv_dup hx hb dX1_putSign_64 rfl ?_
    refine xg_i C hW fg_1_53 KX_23 rfl (v := 5605) rfl (x := σ.1 5605 0) rfl dX1_putSign_65 ?_
    refine lv_iconst (v := 1) hx hb dX1_putSign_68 rfl ?_
    refine lv_iadd hx hb dX1_putSign_69 ?_
    refine xp_i C hW fp_1_53 KX_23 rfl (v := 5605) rfl rfl rfl dX1_putSign_70 (fun H locs hW => ?_)
    cases h
    exact xr_v C hW dX1_putSign_73
  · have h := xif c1 h
    cases h
    exact xr_v C hW dX1_putSign_9
end
theorem dX6_has_0 : decode cX6_has 0 = .ok (.iload_n 1, 1) := by decide +kernel
theorem dX6_has_1 : decode cX6_has 1 = .ok (.ifCond .lt 15, 3) := by decide +kernel
theorem dX6_has_4 : decode cX6_has 4 = .ok (.iload_n 1, 1) := by decide +kernel
theorem dX6_has_5 : decode cX6_has 5 = .ok (.aload_n 0, 1) := by decide +kernel
theorem dX6_has_6 : decode cX6_has 6 = .ok (.getfield 46, 3) := by decide +kernel
theorem dX6_has_9 : decode cX6_has 9 = .ok (.if_icmp .ge 7, 3) := by decide +kernel
theorem dX6_has_12 : decode cX6_has 12 = .ok (.iconst 1, 1) := by decide +kernel
theorem dX6_has_13 : decode cX6_has 13 = .ok (.goto 4, 3) := by decide +kernel
theorem dX6_has_16 : decode cX6_has 16 = .ok (.iconst 0, 1) := by decide +kernel
theorem dX6_has_17 : decode cX6_has 17 = .ok (.ireturn, 1) := by decide +kernel
abbrev rm_X6_has : Room := { frames := 0, cells := 0, slots := 0, locals := 0 }
def f_X6_has (o : Nat) (x1 : Int32) (σ : St) : Int32 := (if x1 < 0 then 0 else (if (σ.1 (1000 + 200 * o + 0) 0) ≤ x1 then 0 else 1))
section
variable {p : Program} {l : Launch} {e : Env} {s : State} {m : MethodId} {args : Array Value} {below : List Frame} {meth : Method} {c : Code} {g : XG}
set_option maxRecDepth 4000 in
theorem m_X6_has (o : Nat) (ho : o = 1 ∨ o = 2) (x1 : Int32) (σ : St) {r : Int32} (h : f_X6_has o x1 σ = r) : xM l KX g yX6_has cX6_has 2 (some .boolean) rm_X6_has [.ref (g.q o), .int x1] σ (some (.int r)) σ := by
  refine xmet pn_X6 rfl (Nat.le_of_ble_eq_true rfl) (lv := [(0, .ref (g.q o)), (1, .int x1)]) rfl (fun p e s m args below meth c ls C hW hl => ?_)
  have hx := C.1
  have hb := C.2.1
  unfold f_X6_has at h
  refine lv_iload_n hx hb dX6_has_0 rfl (lv_at hl 1 rfl) ?_
  refine lv_if_lt (tgt := 16) hx hb dX6_has_1 (by decide) (fun c1 => ?_) (fun c1 => ?_)
  · have h := xit c1 h
    refine lv_iconst (v := 0) hx hb dX6_has_16 rfl ?_
    cases h
    exact xr_z C hW (by decide) dX6_has_17
  · have h := xif c1 h
    refine lv_iload_n hx hb dX6_has_4 rfl (lv_at hl 1 rfl) ?_
    refine lv_aload_n hx hb dX6_has_5 rfl (lv_at hl 0 rfl) ?_
    refine xg_i C hW fg_6_46 (KX_sl ho) rfl (v := (1000 + 200 * o + 0)) rfl (x := σ.1 (1000 + 200 * o + 0) 0) rfl dX6_has_6 ?_
    refine lv_icmp_ge (tgt := 16) hx hb dX6_has_9 (by decide) (fun c2 => ?_) (fun c2 => ?_)
    · have h := xit c2 h
      refine lv_iconst (v := 0) hx hb dX6_has_16 rfl ?_
      cases h
      exact xr_z C hW (by decide) dX6_has_17
    · have h := xif c2 h
      refine lv_iconst (v := 1) hx hb dX6_has_12 rfl ?_
      refine lv_goto (tgt := 17) hx hb dX6_has_13 (by decide) ?_
      cases h
      exact xr_z C hW (by decide) dX6_has_17
end
theorem dX1_layWithInner_0 : decode cX1_layWithInner 0 = .ok (.aload_n 0, 1) := by decide +kernel
theorem dX1_layWithInner_1 : decode cX1_layWithInner 1 = .ok (.getfield 41, 3) := by decide +kernel
theorem dX1_layWithInner_4 : decode cX1_layWithInner 4 = .ok (.getfield 92, 3) := by decide +kernel
theorem dX1_layWithInner_7 : decode cX1_layWithInner 7 = .ok (.iload_n 1, 1) := by decide +kernel
theorem dX1_layWithInner_8 : decode cX1_layWithInner 8 = .ok (.iaload, 1) := by decide +kernel
theorem dX1_layWithInner_9 : decode cX1_layWithInner 9 = .ok (.istore_n 2, 1) := by decide +kernel
theorem dX1_layWithInner_10 : decode cX1_layWithInner 10 = .ok (.iload_n 2, 1) := by decide +kernel
theorem dX1_layWithInner_11 : decode cX1_layWithInner 11 = .ok (.aload_n 0, 1) := by decide +kernel
theorem dX1_layWithInner_12 : decode cX1_layWithInner 12 = .ok (.getfield 41, 3) := by decide +kernel
theorem dX1_layWithInner_15 : decode cX1_layWithInner 15 = .ok (.getfield 97, 3) := by decide +kernel
theorem dX1_layWithInner_18 : decode cX1_layWithInner 18 = .ok (.iload_n 1, 1) := by decide +kernel
theorem dX1_layWithInner_19 : decode cX1_layWithInner 19 = .ok (.iaload, 1) := by decide +kernel
theorem dX1_layWithInner_20 : decode cX1_layWithInner 20 = .ok (.invokestatic 100, 3) := by decide +kernel
theorem dX1_layWithInner_23 : decode cX1_layWithInner 23 = .ok (.istore_n 3, 1) := by decide +kernel
theorem dX1_layWithInner_24 : decode cX1_layWithInner 24 = .ok (.aload_n 0, 1) := by decide +kernel
theorem dX1_layWithInner_25 : decode cX1_layWithInner 25 = .ok (.iload_n 1, 1) := by decide +kernel
theorem dX1_layWithInner_26 : decode cX1_layWithInner 26 = .ok (.iconst 0, 1) := by decide +kernel
theorem dX1_layWithInner_27 : decode cX1_layWithInner 27 = .ok (.iload_n 3, 1) := by decide +kernel
theorem dX1_layWithInner_28 : decode cX1_layWithInner 28 = .ok (.invokevirtual 104, 3) := by decide +kernel
theorem dX1_layWithInner_31 : decode cX1_layWithInner 31 = .ok (.aload_n 0, 1) := by decide +kernel
theorem dX1_layWithInner_32 : decode cX1_layWithInner 32 = .ok (.getfield 45, 3) := by decide +kernel
theorem dX1_layWithInner_35 : decode cX1_layWithInner 35 = .ok (.aload_n 0, 1) := by decide +kernel
theorem dX1_layWithInner_36 : decode cX1_layWithInner 36 = .ok (.getfield 62, 3) := by decide +kernel
theorem dX1_layWithInner_39 : decode cX1_layWithInner 39 = .ok (.iconst 1, 1) := by decide +kernel
theorem dX1_layWithInner_40 : decode cX1_layWithInner 40 = .ok (.iadd, 1) := by decide +kernel
theorem dX1_layWithInner_41 : decode cX1_layWithInner 41 = .ok (.invokevirtual 79, 3) := by decide +kernel
theorem dX1_layWithInner_44 : decode cX1_layWithInner 44 = .ok (.istore 4, 2) := by decide +kernel
theorem dX1_layWithInner_46 : decode cX1_layWithInner 46 = .ok (.aload_n 0, 1) := by decide +kernel
theorem dX1_layWithInner_47 : decode cX1_layWithInner 47 = .ok (.getfield 45, 3) := by decide +kernel
theorem dX1_layWithInner_50 : decode cX1_layWithInner 50 = .ok (.aload_n 0, 1) := by decide +kernel
theorem dX1_layWithInner_51 : decode cX1_layWithInner 51 = .ok (.getfield 62, 3) := by decide +kernel
theorem dX1_layWithInner_54 : decode cX1_layWithInner 54 = .ok (.invokevirtual 79, 3) := by decide +kernel
theorem dX1_layWithInner_57 : decode cX1_layWithInner 57 = .ok (.bipush (-38), 2) := by decide +kernel
theorem dX1_layWithInner_59 : decode cX1_layWithInner 59 = .ok (.if_icmp .ne 78, 3) := by decide +kernel
theorem dX1_layWithInner_62 : decode cX1_layWithInner 62 = .ok (.aload_n 0, 1) := by decide +kernel
theorem dX1_layWithInner_63 : decode cX1_layWithInner 63 = .ok (.getfield 41, 3) := by decide +kernel
theorem dX1_layWithInner_66 : decode cX1_layWithInner 66 = .ok (.iload 4, 2) := by decide +kernel
theorem dX1_layWithInner_68 : decode cX1_layWithInner 68 = .ok (.invokevirtual 108, 3) := by decide +kernel
theorem dX1_layWithInner_71 : decode cX1_layWithInner 71 = .ok (.ifCond .eq 66, 3) := by decide +kernel
theorem dX1_layWithInner_74 : decode cX1_layWithInner 74 = .ok (.aload_n 0, 1) := by decide +kernel
theorem dX1_layWithInner_75 : decode cX1_layWithInner 75 = .ok (.dup, 1) := by decide +kernel
theorem dX1_layWithInner_76 : decode cX1_layWithInner 76 = .ok (.getfield 62, 3) := by decide +kernel
theorem dX1_layWithInner_79 : decode cX1_layWithInner 79 = .ok (.iconst 2, 1) := by decide +kernel
theorem dX1_layWithInner_80 : decode cX1_layWithInner 80 = .ok (.iadd, 1) := by decide +kernel
theorem dX1_layWithInner_81 : decode cX1_layWithInner 81 = .ok (.putfield 62, 3) := by decide +kernel
theorem dX1_layWithInner_84 : decode cX1_layWithInner 84 = .ok (.iconst 1, 1) := by decide +kernel
theorem dX1_layWithInner_85 : decode cX1_layWithInner 85 = .ok (.aload_n 0, 1) := by decide +kernel
theorem dX1_layWithInner_86 : decode cX1_layWithInner 86 = .ok (.getfield 41, 3) := by decide +kernel
theorem dX1_layWithInner_89 : decode cX1_layWithInner 89 = .ok (.getfield 92, 3) := by decide +kernel
theorem dX1_layWithInner_92 : decode cX1_layWithInner 92 = .ok (.iload 4, 2) := by decide +kernel
theorem dX1_layWithInner_94 : decode cX1_layWithInner 94 = .ok (.iaload, 1) := by decide +kernel
theorem dX1_layWithInner_95 : decode cX1_layWithInner 95 = .ok (.iconst 2, 1) := by decide +kernel
theorem dX1_layWithInner_96 : decode cX1_layWithInner 96 = .ok (.idiv, 1) := by decide +kernel
theorem dX1_layWithInner_97 : decode cX1_layWithInner 97 = .ok (.invokestatic 112, 3) := by decide +kernel
theorem dX1_layWithInner_100 : decode cX1_layWithInner 100 = .ok (.istore 5, 2) := by decide +kernel
theorem dX1_layWithInner_102 : decode cX1_layWithInner 102 = .ok (.iconst 1, 1) := by decide +kernel
theorem dX1_layWithInner_103 : decode cX1_layWithInner 103 = .ok (.aload_n 0, 1) := by decide +kernel
theorem dX1_layWithInner_104 : decode cX1_layWithInner 104 = .ok (.getfield 41, 3) := by decide +kernel
theorem dX1_layWithInner_107 : decode cX1_layWithInner 107 = .ok (.getfield 97, 3) := by decide +kernel
theorem dX1_layWithInner_110 : decode cX1_layWithInner 110 = .ok (.iload 4, 2) := by decide +kernel
theorem dX1_layWithInner_112 : decode cX1_layWithInner 112 = .ok (.iaload, 1) := by decide +kernel
theorem dX1_layWithInner_113 : decode cX1_layWithInner 113 = .ok (.iconst 2, 1) := by decide +kernel
theorem dX1_layWithInner_114 : decode cX1_layWithInner 114 = .ok (.idiv, 1) := by decide +kernel
theorem dX1_layWithInner_115 : decode cX1_layWithInner 115 = .ok (.invokestatic 112, 3) := by decide +kernel
theorem dX1_layWithInner_118 : decode cX1_layWithInner 118 = .ok (.istore 6, 2) := by decide +kernel
theorem dX1_layWithInner_120 : decode cX1_layWithInner 120 = .ok (.aload_n 0, 1) := by decide +kernel
theorem dX1_layWithInner_121 : decode cX1_layWithInner 121 = .ok (.iload 4, 2) := by decide +kernel
theorem dX1_layWithInner_123 : decode cX1_layWithInner 123 = .ok (.iload_n 2, 1) := by decide +kernel
theorem dX1_layWithInner_124 : decode cX1_layWithInner 124 = .ok (.iload 5, 2) := by decide +kernel
theorem dX1_layWithInner_126 : decode cX1_layWithInner 126 = .ok (.isub, 1) := by decide +kernel
theorem dX1_layWithInner_127 : decode cX1_layWithInner 127 = .ok (.iload 5, 2) := by decide +kernel
theorem dX1_layWithInner_129 : decode cX1_layWithInner 129 = .ok (.iload 6, 2) := by decide +kernel
theorem dX1_layWithInner_131 : decode cX1_layWithInner 131 = .ok (.invokestatic 100, 3) := by decide +kernel
theorem dX1_layWithInner_134 : decode cX1_layWithInner 134 = .ok (.invokevirtual 104, 3) := by decide +kernel
theorem dX1_layWithInner_137 : decode cX1_layWithInner 137 = .ok (.iload_n 3, 1) := by decide +kernel
theorem dX1_layWithInner_138 : decode cX1_layWithInner 138 = .ok (.ireturn, 1) := by decide +kernel
abbrev rm_X1_layWithInner : Room := { frames := 1, cells := 0, slots := 0, locals := 60 }
def f_X1_layWithInner (x1 : Int32) (σ : St) : Option (Int32 × St) := grd (ib x1 40) (grd (ib x1 40) (bo (f_X1_putSign x1 0 (f_X11_sizeOf (σ.1 4 x1.toNatClampNeg) (σ.1 5 x1.toNatClampNeg) σ) σ) (fun σ3 => bo (f_X0_codeAt ((σ3.1 5614 0) + 1) σ3) (fun r4_ => bo (f_X0_codeAt (σ3.1 5614 0) σ3) (fun r5_ => (if r5_ = ((-38)) then (if (f_X6_has 1 r4_ σ3) = 0 then some (f_X11_sizeOf (σ.1 4 x1.toNatClampNeg) (σ.1 5 x1.toNatClampNeg) σ, σ3) else grd (ib r4_ 40) (grd (ib r4_ 40) (bo (f_X1_putSign r4_ ((σ.1 4 x1.toNatClampNeg) - (imax 1 ((σ3.1 4 r4_.toNatClampNeg) / 2))) (f_X11_sizeOf (imax 1 ((σ3.1 4 r4_.toNatClampNeg) / 2)) (imax 1 ((σ3.1 5 r4_.toNatClampNeg) / 2)) (si σ3 5614 0 ((σ3.1 5614 0) + 2))) (si σ3 5614 0 ((σ3.1 5614 0) + 2))) (fun σ12 => some (f_X11_sizeOf (σ.1 4 x1.toNatClampNeg) (σ.1 5 x1.toNatClampNeg) σ, σ12))))) else some (f_X11_sizeOf (σ.1 4 x1.toNatClampNeg) (σ.1 5 x1.toNatClampNeg) σ, σ3)))))))
section
variable {p : Program} {l : Launch} {e : Env} {s : State} {m : MethodId} {args : Array Value} {below : List Frame} {meth : Method} {c : Code} {g : XG}
set_option maxRecDepth 4000 in
theorem m_X1_layWithInner (x1 : Int32) (σ : St) {r : Int32} {σ' : St} (h : f_X1_layWithInner x1 σ = some (r, σ')) : xM l KX g yX1_layWithInner cX1_layWithInner 7 (some .int) rm_X1_layWithInner [.ref (g.q 23), .int x1] σ (some (.int r)) σ' := by
  refine xmet pn_X1 rfl (Nat.le_of_ble_eq_true rfl) (lv := [(0, .ref (g.q 23)), (1, .int x1)]) rfl (fun p e s m args below meth c ls C hW hl => ?_)
  have hx := C.1
  have hb := C.2.1
  unfold f_X1_layWithInner at h
  refine lv_aload_n hx hb dX1_layWithInner_0 rfl (lv_at hl 0 rfl) ?_
  refine xg_r C hW fg_1_41 KX_23 rfl dX1_layWithInner_1 ?_
  refine xg_r C hW fg_1_92 KX_1 rfl dX1_layWithInner_4 ?_
  refine lv_iload_n hx hb dX1_layWithInner_7 rfl (lv_at hl 1 rfl) ?_
  obtain ⟨g1, h⟩ := xgd h
  refine xa_i C hW KX_4 g1 (x := σ.1 4 x1.toNatClampNeg) rfl dX1_layWithInner_8 ?_
  refine lv_istore_n (lv' := [(2, .int (σ.1 4 x1.toNatClampNeg)), (0, .ref (g.q 23)), (1, .int x1)]) hx hb dX1_layWithInner_9 rfl hl (Nat.le_of_ble_eq_true rfl) rfl (fun ls hl => ?_)
  refine lv_iload_n hx hb dX1_layWithInner_10 rfl (lv_at hl 0 rfl) ?_
  refine lv_aload_n hx hb dX1_layWithInner_11 rfl (lv_at hl 1 rfl) ?_
  refine xg_r C hW fg_1_41 KX_23 rfl dX1_layWithInner_12 ?_
  refine xg_r C hW fg_1_97 KX_1 rfl dX1_layWithInner_15 ?_
  refine lv_iload_n hx hb dX1_layWithInner_18 rfl (lv_at hl 2 rfl) ?_
  obtain ⟨g2, h⟩ := xgd h
  refine xa_i C hW KX_5 g2 (x := σ.1 5 x1.toNatClampNeg) rfl dX1_layWithInner_19 ?_
  refine xc_SN (As := [.int (σ.1 4 x1.toNatClampNeg), .int (σ.1 5 x1.toNatClampNeg)]) (rest := []) C hW (m_X11_sizeOf (σ.1 4 x1.toNatClampNeg) (σ.1 5 x1.toNatClampNeg) _ rfl) mf_X11_sizeOf mt_X11_sizeOf xn_X1_100 ⟨rfl, rfl⟩ ⟨Nat.le_of_ble_eq_true rfl, Nat.le_of_ble_eq_true rfl⟩ hl.1 rfl rfl (Nat.le_of_ble_eq_true rfl) dX1_layWithInner_20 (fun H locs hW => W.eq (g2 := F0 m 23 ls [.int (f_X11_sizeOf (σ.1 4 x1.toNatClampNeg) (σ.1 5 x1.toNatClampNeg) σ)]) rfl ?_)
  refine lv_istore_n (lv' := [(3, .int (f_X11_sizeOf (σ.1 4 x1.toNatClampNeg) (σ.1 5 x1.toNatClampNeg) σ)), (2, .int (σ.1 4 x1.toNatClampNeg)), (0, .ref (g.q 23)), (1, .int x1)]) hx hb dX1_layWithInner_23 rfl hl (Nat.le_of_ble_eq_true rfl) rfl (fun ls hl => ?_)
  refine lv_aload_n hx hb dX1_layWithInner_24 rfl (lv_at hl 2 rfl) ?_
  refine lv_iload_n hx hb dX1_layWithInner_25 rfl (lv_at hl 3 rfl) ?_
  refine lv_iconst (v := 0) hx hb dX1_layWithInner_26 rfl ?_
  refine lv_iload_n hx hb dX1_layWithInner_27 rfl (lv_at hl 0 rfl) ?_
  obtain ⟨σ3, e3, h⟩ := xbo h
  refine xc_V (As := [.int x1, .int 0, .int (f_X11_sizeOf (σ.1 4 x1.toNatClampNeg) (σ.1 5 x1.toNatClampNeg) σ)]) (rest := []) C hW (m_X1_putSign x1 0 (f_X11_sizeOf (σ.1 4 x1.toNatClampNeg) (σ.1 5 x1.toNatClampNeg) σ) _ e3) mf_X1_putSign mv_X1_putSign ml_X1_104 ⟨rfl, rfl⟩ ⟨Nat.le_of_ble_eq_true rfl, Nat.le_of_ble_eq_true rfl⟩ KX_23 rfl hl.1 rfl rfl (Nat.le_of_ble_eq_true rfl) dX1_layWithInner_28 (fun H locs hW => W.eq (g2 := F0 m 31 ls []) rfl ?_)
  refine lv_aload_n hx hb dX1_layWithInner_31 rfl (lv_at hl 2 rfl) ?_
  refine xg_r C hW fg_1_45 KX_23 rfl dX1_layWithInner_32 ?_
  refine lv_aload_n hx hb dX1_layWithInner_35 rfl (lv_at hl 2 rfl) ?_
  refine xg_i C hW fg_1_62 KX_23 rfl (v := 5614) rfl (x := σ3.1 5614 0) rfl dX1_layWithInner_36 ?_
  refine lv_iconst (v := 1) hx hb dX1_layWithInner_39 rfl ?_
  refine lv_iadd hx hb dX1_layWithInner_40 ?_
  obtain ⟨r4_, e4, h⟩ := xbo h
  refine xc_V (As := [.int ((σ3.1 5614 0) + 1)]) (rest := []) C hW (m_X0_codeAt ((σ3.1 5614 0) + 1) _ e4) mf_X0_codeAt mv_X0_codeAt ml_X1_79 ⟨rfl, rfl⟩ ⟨Nat.le_of_ble_eq_true rfl, Nat.le_of_ble_eq_true rfl⟩ KX_21 rfl hl.1 rfl rfl (Nat.le_of_ble_eq_true rfl) dX1_layWithInner_41 (fun H locs hW => W.eq (g2 := F0 m 44 ls [.int r4_]) rfl ?_)
  refine lv_istore (lv' := [(4, .int r4_), (3, .int (f_X11_sizeOf (σ.1 4 x1.toNatClampNeg) (σ.1 5 x1.toNatClampNeg) σ)), (2, .int (σ.1 4 x1.toNatClampNeg)), (0, .ref (g.q 23)), (1, .int x1)]) hx hb dX1_layWithInner_44 hl (Nat.le_of_ble_eq_true rfl) rfl (fun ls hl => ?_)
  refine lv_aload_n hx hb dX1_layWithInner_46 rfl (lv_at hl 3 rfl) ?_
  refine xg_r C hW fg_1_45 KX_23 rfl dX1_layWithInner_47 ?_
  refine lv_aload_n hx hb dX1_layWithInner_50 rfl (lv_at hl 3 rfl) ?_
  refine xg_i C hW fg_1_62 KX_23 rfl (v := 5614) rfl (x := σ3.1 5614 0) rfl dX1_layWithInner_51 ?_
  obtain ⟨r5_, e5, h⟩ := xbo h
  refine xc_V (As := [.int (σ3.1 5614 0)]) (rest := []) C hW (m_X0_codeAt (σ3.1 5614 0) _ e5) mf_X0_codeAt mv_X0_codeAt ml_X1_79 ⟨rfl, rfl⟩ ⟨Nat.le_of_ble_eq_true rfl, Nat.le_of_ble_eq_true rfl⟩ KX_21 rfl hl.1 rfl rfl (Nat.le_of_ble_eq_true rfl) dX1_layWithInner_54 (fun H locs hW => W.eq (g2 := F0 m 57 ls [.int r5_]) rfl ?_)
  refine lv_bipush (v := (-38)) hx hb dX1_layWithInner_57 rfl ?_
  refine lv_icmp_ne (tgt := 137) hx hb dX1_layWithInner_59 (by decide) (fun c6 => ?_) (fun c6 => ?_)
  · have h := xif c6 h
    refine lv_iload_n hx hb dX1_layWithInner_137 rfl (lv_at hl 1 rfl) ?_
    cases h
    exact xr_i C hW dX1_layWithInner_138
  · have h := xit c6 h
    refine lv_aload_n hx hb dX1_layWithInner_62 rfl (lv_at hl 3 rfl) ?_
    refine xg_r C hW fg_1_41 KX_23 rfl dX1_layWithInner_63 ?_
    refine lv_iload hx hb dX1_layWithInner_66 (lv_at hl 0 rfl) ?_
    refine xc_V (As := [.int r4_]) (rest := []) C hW (m_X6_has 1 (Or.inl rfl) r4_ _ rfl) mf_X6_has mv_X6_has ml_X1_108 ⟨rfl, rfl⟩ ⟨Nat.le_of_ble_eq_true rfl, Nat.le_of_ble_eq_true rfl⟩ (KX_sl (Or.inl rfl)) rfl hl.1 rfl rfl (Nat.le_of_ble_eq_true rfl) dX1_layWithInner_68 (fun H locs hW => W.eq (g2 := F0 m 71 ls [.int (f_X6_has 1 r4_ σ3)]) rfl ?_)
    refine lv_if_eq (tgt := 137) hx hb dX1_layWithInner_71 (by decide) (fun c7 => ?_) (fun c7 => ?_)
    · have h := xit c7 h
      refine lv_iload_n hx hb dX1_layWithInner_137 rfl (lv_at hl 1 rfl) ?_
      cases h
      exact xr_i C hW dX1_layWithInner_138
    · have h := xif c7 h
      refine lv_aload_n hx hb dX1_layWithInner_74 rfl (lv_at hl 3 rfl) ?_
      refine lv_dup hx hb dX1_layWithInner_75 rfl ?_
      refine xg_i C hW fg_1_62 KX_23 rfl (v := 5614) rfl (x := σ3.1 5614 0) rfl dX1_layWithInner_76 ?_
      refine lv_iconst (v := 2) hx hb dX1_layWithInner_79 rfl ?_
      refine lv_iadd hx hb dX1_layWithInner_80 ?_
      refine xp_i C hW fp_1_62 KX_23 rfl (v := 5614) rfl rfl rfl dX1_layWithInner_81 (fun H locs hW => ?_)
      refine lv_iconst (v := 1) hx hb dX1_layWithInner_84 rfl ?_
      refine lv_aload_n hx hb dX1_layWithInner_85 rfl (lv_at hl 3 rfl) ?_
      refine xg_r C hW fg_1_41 KX_23 rfl dX1_layWithInner_86 ?_
      refine xg_r C hW fg_1_92 KX_1 rfl dX1_layWithInner_89 ?_
      refine lv_iload hx hb dX1_layWithInner_92 (lv_at hl 0 rfl) ?_
      obtain ⟨g8, h⟩ := xgd h
      refine xa_i C hW KX_4 g8 (x := σ3.1 4 r4_.toNatClampNeg) rfl dX1_layWithInner_94 ?_
      refine lv_iconst (v := 2) hx hb dX1_layWithInner_95 rfl ?_
      refine lv_idiv hx hb dX1_layWithInner_96 (by decide) ?_
      refine xmm_max C hW ml_X1_112 (Nat.le_of_ble_eq_true rfl) (Nat.le_of_ble_eq_true rfl) hl.1 (Nat.le_of_ble_eq_true rfl) dX1_layWithInner_97 ?_
      refine lv_istore (lv' := [(5, .int (imax 1 ((σ3.1 4 r4_.toNatClampNeg) / 2))), (4, .int r4_), (3, .int (f_X11_sizeOf (σ.1 4 x1.toNatClampNeg) (σ.1 5 x1.toNatClampNeg) σ)), (2, .int (σ.1 4 x1.toNatClampNeg)), (0, .ref (g.q 23)), (1, .int x1)]) hx hb dX1_layWithInner_100 hl (Nat.le_of_ble_eq_true rfl) rfl (fun ls hl => ?_)
      refine lv_iconst (v := 1) hx hb dX1_layWithInner_102 rfl ?_
      refine lv_aload_n hx hb dX1_layWithInner_103 rfl (lv_at hl 4 rfl) ?_
      refine xg_r C hW fg_1_41 KX_23 rfl dX1_layWithInner_104 ?_
      refine xg_r C hW fg_1_97 KX_1 rfl dX1_layWithInner_107 ?_
      refine lv_iload hx hb dX1_layWithInner_110 (lv_at hl 1 rfl) ?_
      obtain ⟨g10, h⟩ := xgd h
      refine xa_i C hW KX_5 g10 (x := σ3.1 5 r4_.toNatClampNeg) rfl dX1_layWithInner_112 ?_
      refine lv_iconst (v := 2) hx hb dX1_layWithInner_113 rfl ?_
      refine lv_idiv hx hb dX1_layWithInner_114 (by decide) ?_
      refine xmm_max C hW ml_X1_112 (Nat.le_of_ble_eq_true rfl) (Nat.le_of_ble_eq_true rfl) hl.1 (Nat.le_of_ble_eq_true rfl) dX1_layWithInner_115 ?_
      refine lv_istore (lv' := [(6, .int (imax 1 ((σ3.1 5 r4_.toNatClampNeg) / 2))), (5, .int (imax 1 ((σ3.1 4 r4_.toNatClampNeg) / 2))), (4, .int r4_), (3, .int (f_X11_sizeOf (σ.1 4 x1.toNatClampNeg) (σ.1 5 x1.toNatClampNeg) σ)), (2, .int (σ.1 4 x1.toNatClampNeg)), (0, .ref (g.q 23)), (1, .int x1)]) hx hb dX1_layWithInner_118 hl (Nat.le_of_ble_eq_true rfl) rfl (fun ls hl => ?_)
      refine lv_aload_n hx hb dX1_layWithInner_120 rfl (lv_at hl 5 rfl) ?_
      refine lv_iload hx hb dX1_layWithInner_121 (lv_at hl 2 rfl) ?_
      refine lv_iload_n hx hb dX1_layWithInner_123 rfl (lv_at hl 4 rfl) ?_
      refine lv_iload hx hb dX1_layWithInner_124 (lv_at hl 1 rfl) ?_
      refine lv_isub hx hb dX1_layWithInner_126 ?_
      refine lv_iload hx hb dX1_layWithInner_127 (lv_at hl 1 rfl) ?_
      refine lv_iload hx hb dX1_layWithInner_129 (lv_at hl 0 rfl) ?_
      refine xc_SN (As := [.int (imax 1 ((σ3.1 4 r4_.toNatClampNeg) / 2)), .int (imax 1 ((σ3.1 5 r4_.toNatClampNeg) / 2))]) (rest := [.int ((σ.1 4 x1.toNatClampNeg) - (imax 1 ((σ3.1 4 r4_.toNatClampNeg) / 2))), .int r4_, .ref (g.q 23)]) C hW (m_X11_sizeOf (imax 1 ((σ3.1 4 r4_.toNatClampNeg) / 2)) (imax 1 ((σ3.1 5 r4_.toNatClampNeg) / 2)) _ rfl) mf_X11_sizeOf mt_X11_sizeOf xn_X1_100 ⟨rfl, rfl⟩ ⟨Nat.le_of_ble_eq_true rfl, Nat.le_of_ble_eq_true rfl⟩ hl.1 rfl rfl (Nat.le_of_ble_eq_true rfl) dX1_layWithInner_131 (fun H locs hW => W.eq (g2 := F0 m 134 ls [.int (f_X11_sizeOf (imax 1 ((σ3.1 4 r4_.toNatClampNeg) / 2)) (imax 1 ((σ3.1 5 r4_.toNatClampNeg) / 2)) (si σ3 5614 0 ((σ3.1 5614 0) + 2))), .int ((σ.1 4 x1.toNatClampNeg) - (imax 1 ((σ3.1 4 r4_.toNatClampNeg) / 2))), .int r4_, .ref (g.q 23)]) rfl ?_)
      obtain ⟨σ12, e12, h⟩ := xbo h
      refine xc_V (As := [.int r4_, .int ((σ.1 4 x1.toNatClampNeg) - (imax 1 ((σ3.1 4 r4_.toNatClampNeg) / 2))), .int (f_X11_sizeOf (imax 1 ((σ3.1 4 r4_.toNatClampNeg) / 2)) (imax 1 ((σ3.1 5 r4_.toNatClampNeg) / 2)) (si σ3 5614 0 ((σ3.1 5614 0) + 2)))]) (rest := []) C hW (m_X1_putSign r4_ ((σ.1 4 x1.toNatClampNeg) - (imax 1 ((σ3.1 4 r4_.toNatClampNeg) / 2))) (f_X11_sizeOf (imax 1 ((σ3.1 4 r4_.toNatClampNeg) / 2)) (imax 1 ((σ3.1 5 r4_.toNatClampNeg) / 2)) (si σ3 5614 0 ((σ3.1 5614 0) + 2))) _ e12) mf_X1_putSign mv_X1_putSign ml_X1_104 ⟨rfl, rfl⟩ ⟨Nat.le_of_ble_eq_true rfl, Nat.le_of_ble_eq_true rfl⟩ KX_23 rfl hl.1 rfl rfl (Nat.le_of_ble_eq_true rfl) dX1_layWithInner_134 (fun H locs hW => W.eq (g2 := F0 m 137 ls []) rfl ?_)
      refine lv_iload_n hx hb dX1_layWithInner_137 rfl (lv_at hl 3 rfl) ?_
      cases h
      exact xr_i C hW dX1_layWithInner_138
end
theorem dX11_heightOf_0 : decode cX11_heightOf 0 = .ok (.iload_n 0, 1) := by decide +kernel
theorem dX11_heightOf_1 : decode cX11_heightOf 1 = .ok (.ldc_w 384, 3) := by decide +kernel
theorem dX11_heightOf_4 : decode cX11_heightOf 4 = .ok (.iand, 1) := by decide +kernel
theorem dX11_heightOf_5 : decode cX11_heightOf 5 = .ok (.ireturn, 1) := by decide +kernel
abbrev rm_X11_heightOf : Room := { frames := 0, cells := 0, slots := 0, locals := 0 }
def f_X11_heightOf (x0 : Int32) (σ : St) : Int32 := x0 &&& 65535
section
variable {p : Program} {l : Launch} {e : Env} {s : State} {m : MethodId} {args : Array Value} {below : List Frame} {meth : Method} {c : Code} {g : XG}
set_option maxRecDepth 4000 in
theorem m_X11_heightOf (x0 : Int32) (σ : St) {r : Int32} (h : f_X11_heightOf x0 σ = r) : xM l KX g yX11_heightOf cX11_heightOf 1 (some .int) rm_X11_heightOf [.int x0] σ (some (.int r)) σ := by
  refine xmet pn_X11 rfl (Nat.le_of_ble_eq_true rfl) (lv := [(0, .int x0)]) rfl (fun p e s m args below meth c ls C hW hl => ?_)
  have hx := C.1
  have hb := C.2.1
  unfold f_X11_heightOf at h
  refine lv_iload_n hx hb dX11_heightOf_0 rfl (lv_at hl 0 rfl) ?_
  refine lv_ldcw (v := 65535) hx hb C.ow (C.hts _ kc_X11_384) dX11_heightOf_1 ?_
  refine lv_iand hx hb dX11_heightOf_4 ?_
  cases h
  exact xr_i C hW dX11_heightOf_5
end
theorem dX11_widthOf_0 : decode cX11_widthOf 0 = .ok (.iload_n 0, 1) := by decide +kernel
theorem dX11_widthOf_1 : decode cX11_widthOf 1 = .ok (.bipush 16, 2) := by decide +kernel
theorem dX11_widthOf_3 : decode cX11_widthOf 3 = .ok (.iushr, 1) := by decide +kernel
theorem dX11_widthOf_4 : decode cX11_widthOf 4 = .ok (.ireturn, 1) := by decide +kernel
abbrev rm_X11_widthOf : Room := { frames := 0, cells := 0, slots := 0, locals := 0 }
def f_X11_widthOf (x0 : Int32) (σ : St) : Int32 := ushr x0 16
section
variable {p : Program} {l : Launch} {e : Env} {s : State} {m : MethodId} {args : Array Value} {below : List Frame} {meth : Method} {c : Code} {g : XG}
set_option maxRecDepth 4000 in
theorem m_X11_widthOf (x0 : Int32) (σ : St) {r : Int32} (h : f_X11_widthOf x0 σ = r) : xM l KX g yX11_widthOf cX11_widthOf 1 (some .int) rm_X11_widthOf [.int x0] σ (some (.int r)) σ := by
  refine xmet pn_X11 rfl (Nat.le_of_ble_eq_true rfl) (lv := [(0, .int x0)]) rfl (fun p e s m args below meth c ls C hW hl => ?_)
  have hx := C.1
  have hb := C.2.1
  unfold f_X11_widthOf at h
  refine lv_iload_n hx hb dX11_widthOf_0 rfl (lv_at hl 0 rfl) ?_
  refine lv_bipush (v := 16) hx hb dX11_widthOf_1 rfl ?_
  refine lv_iushr (v := ushr x0 16) hx hb dX11_widthOf_3 rfl ?_
  cases h
  exact xr_i C hW dX11_widthOf_4
end
theorem dX1_across_0 : decode cX1_across 0 = .ok (.iload_n 1, 1) := by decide +kernel
theorem dX1_across_1 : decode cX1_across 1 = .ok (.ifCond .eq 10, 3) := by decide +kernel
theorem dX1_across_4 : decode cX1_across 4 = .ok (.iload_n 0, 1) := by decide +kernel
theorem dX1_across_5 : decode cX1_across 5 = .ok (.invokestatic 127, 3) := by decide +kernel
theorem dX1_across_8 : decode cX1_across 8 = .ok (.goto 7, 3) := by decide +kernel
theorem dX1_across_11 : decode cX1_across 11 = .ok (.iload_n 0, 1) := by decide +kernel
theorem dX1_across_12 : decode cX1_across 12 = .ok (.invokestatic 130, 3) := by decide +kernel
theorem dX1_across_15 : decode cX1_across 15 = .ok (.ireturn, 1) := by decide +kernel
abbrev rm_X1_across : Room := { frames := 1, cells := 0, slots := 0, locals := 20 }
def f_X1_across (x0 : Int32) (x1 : Int32) (σ : St) : Int32 := (if x1 = 0 then f_X11_widthOf x0 σ else f_X11_heightOf x0 σ)
section
variable {p : Program} {l : Launch} {e : Env} {s : State} {m : MethodId} {args : Array Value} {below : List Frame} {meth : Method} {c : Code} {g : XG}
set_option maxRecDepth 4000 in
theorem m_X1_across (x0 : Int32) (x1 : Int32) (σ : St) {r : Int32} (h : f_X1_across x0 x1 σ = r) : xM l KX g yX1_across cX1_across 2 (some .int) rm_X1_across [.int x0, .int x1] σ (some (.int r)) σ := by
  refine xmet pn_X1 rfl (Nat.le_of_ble_eq_true rfl) (lv := [(0, .int x0), (1, .int x1)]) rfl (fun p e s m args below meth c ls C hW hl => ?_)
  have hx := C.1
  have hb := C.2.1
  unfold f_X1_across at h
  refine lv_iload_n hx hb dX1_across_0 rfl (lv_at hl 1 rfl) ?_
  refine lv_if_eq (tgt := 11) hx hb dX1_across_1 (by decide) (fun c1 => ?_) (fun c1 => ?_)
  · have h := xit c1 h
    refine lv_iload_n hx hb dX1_across_11 rfl (lv_at hl 0 rfl) ?_
    refine xc_SN (As := [.int x0]) (rest := []) C hW (m_X11_widthOf x0 _ rfl) mf_X11_widthOf mt_X11_widthOf xn_X1_130 ⟨rfl, rfl⟩ ⟨Nat.le_of_ble_eq_true rfl, Nat.le_of_ble_eq_true rfl⟩ hl.1 rfl rfl (Nat.le_of_ble_eq_true rfl) dX1_across_12 (fun H locs hW => W.eq (g2 := F0 m 15 ls [.int (f_X11_widthOf x0 σ)]) rfl ?_)
    cases h
    exact xr_i C hW dX1_across_15
  · have h := xif c1 h
    refine lv_iload_n hx hb dX1_across_4 rfl (lv_at hl 0 rfl) ?_
    refine xc_SN (As := [.int x0]) (rest := []) C hW (m_X11_heightOf x0 _ rfl) mf_X11_heightOf mt_X11_heightOf xn_X1_127 ⟨rfl, rfl⟩ ⟨Nat.le_of_ble_eq_true rfl, Nat.le_of_ble_eq_true rfl⟩ hl.1 rfl rfl (Nat.le_of_ble_eq_true rfl) dX1_across_5 (fun H locs hW => W.eq (g2 := F0 m 8 ls [.int (f_X11_heightOf x0 σ)]) rfl ?_)
    refine lv_goto (tgt := 15) hx hb dX1_across_8 (by decide) ?_
    cases h
    exact xr_i C hW dX1_across_15
end
theorem dX1_shift_0 : decode cX1_shift 0 = .ok (.iload_n 1, 1) := by decide +kernel
theorem dX1_shift_1 : decode cX1_shift 1 = .ok (.istore 5, 2) := by decide +kernel
theorem dX1_shift_3 : decode cX1_shift 3 = .ok (.iload 5, 2) := by decide +kernel
theorem dX1_shift_5 : decode cX1_shift 5 = .ok (.iload_n 2, 1) := by decide +kernel
theorem dX1_shift_6 : decode cX1_shift 6 = .ok (.if_icmp .ge 32, 3) := by decide +kernel
theorem dX1_shift_9 : decode cX1_shift 9 = .ok (.aload_n 0, 1) := by decide +kernel
theorem dX1_shift_10 : decode cX1_shift 10 = .ok (.getfield 26, 3) := by decide +kernel
theorem dX1_shift_13 : decode cX1_shift 13 = .ok (.iload 5, 2) := by decide +kernel
theorem dX1_shift_15 : decode cX1_shift 15 = .ok (.dup2, 1) := by decide +kernel
theorem dX1_shift_16 : decode cX1_shift 16 = .ok (.iaload, 1) := by decide +kernel
theorem dX1_shift_17 : decode cX1_shift 17 = .ok (.iload_n 3, 1) := by decide +kernel
theorem dX1_shift_18 : decode cX1_shift 18 = .ok (.iadd, 1) := by decide +kernel
theorem dX1_shift_19 : decode cX1_shift 19 = .ok (.iastore, 1) := by decide +kernel
theorem dX1_shift_20 : decode cX1_shift 20 = .ok (.aload_n 0, 1) := by decide +kernel
theorem dX1_shift_21 : decode cX1_shift 21 = .ok (.getfield 29, 3) := by decide +kernel
theorem dX1_shift_24 : decode cX1_shift 24 = .ok (.iload 5, 2) := by decide +kernel
theorem dX1_shift_26 : decode cX1_shift 26 = .ok (.dup2, 1) := by decide +kernel
theorem dX1_shift_27 : decode cX1_shift 27 = .ok (.iaload, 1) := by decide +kernel
theorem dX1_shift_28 : decode cX1_shift 28 = .ok (.iload 4, 2) := by decide +kernel
theorem dX1_shift_30 : decode cX1_shift 30 = .ok (.iadd, 1) := by decide +kernel
theorem dX1_shift_31 : decode cX1_shift 31 = .ok (.iastore, 1) := by decide +kernel
theorem dX1_shift_32 : decode cX1_shift 32 = .ok (.iinc 5 1, 3) := by decide +kernel
theorem dX1_shift_35 : decode cX1_shift 35 = .ok (.goto (-32), 3) := by decide +kernel
theorem dX1_shift_38 : decode cX1_shift 38 = .ok (.return_, 1) := by decide +kernel
abbrev rm_X1_shift : Room := { frames := 0, cells := 0, slots := 0, locals := 0 }
def f_X1_shift_3 (N : Nat) : Nat → Int32 → Int32 → Int32 → Int32 → St → Option St
  | 0, _, _, _, _, _ => none
  | n + 1, x2, x3, x4, x5, σ => (if x2 ≤ x5 then some σ else grd (ib x5 24) (grd (ib x5 24) (grd (ib x5 24) (grd (ib x5 24) (f_X1_shift_3 N n x2 x3 x4 (x5 + 1) (si (si σ 28 x5.toNatClampNeg ((σ.1 28 x5.toNatClampNeg) + x3)) 29 x5.toNatClampNeg ((σ.1 29 x5.toNatClampNeg) + x4)))))))
def f_X1_shift (N : Nat) (x1 : Int32) (x2 : Int32) (x3 : Int32) (x4 : Int32) (σ : St) : Option St := f_X1_shift_3 N N x2 x3 x4 x1 σ
section
variable {p : Program} {l : Launch} {e : Env} {s : State} {m : MethodId} {args : Array Value} {below : List Frame} {meth : Method} {c : Code} {g : XG}
set_option maxRecDepth 4000 in
theorem w_X1_shift_3 (N : Nat) {σ' : St} (C : xC KX g RX1 cX1_shift 6 none p s m args meth c) : ∀ (n : Nat), ∀ (x2 : Int32) (x3 : Int32) (x4 : Int32) (x5 : Int32) (σ : St) (H : Heap) (locs : List Loc) (ls : Array Slot), xW KX g s σ H locs → lv_has ls 6 [(0, .ref (g.q 23)), (2, .int x2), (3, .int x3), (4, .int x4), (5, .int x5)] → f_X1_shift_3 N n x2 x3 x4 x5 σ = some σ' → W p l e rm_X1_shift s m args below meth c H locs 0 0 (MQ below (xPost KX g none σ') args s 0 0 (xA KX g.q)) (F0 m 3 ls []) := by
  have hx := C.1
  have hb := C.2.1
  intro n
  induction n with
  | zero => intro x2 x3 x4 x5 σ H locs ls hW hl h; rw [f_X1_shift_3] at h; cases h
  | succ n ih =>
    intro x2 x3 x4 x5 σ H locs ls hW hl h
    rw [f_X1_shift_3] at h
    refine lv_iload hx hb dX1_shift_3 (lv_at hl 4 rfl) ?_
    refine lv_iload_n hx hb dX1_shift_5 rfl (lv_at hl 1 rfl) ?_
    refine lv_icmp_ge (tgt := 38) hx hb dX1_shift_6 (by decide) (fun c1 => ?_) (fun c1 => ?_)
    · have h := xit c1 h
      cases h
      exact xr_v C hW dX1_shift_38
    · have h := xif c1 h
      refine lv_aload_n hx hb dX1_shift_9 rfl (lv_at hl 0 rfl) ?_
      refine xg_r C hW fg_1_26 KX_23 rfl dX1_shift_10 ?_
      refine lv_iload hx hb dX1_shift_13 (lv_at hl 4 rfl) ?_
      refine lv_dup2_11 hx hb dX1_shift_15 rfl rfl ?_
      obtain ⟨g2, h⟩ := xgd h
      refine xa_i C hW KX_28 g2 (x := σ.1 28 x5.toNatClampNeg) rfl dX1_shift_16 ?_
      refine lv_iload_n hx hb dX1_shift_17 rfl (lv_at hl 2 rfl) ?_
      refine lv_iadd hx hb dX1_shift_18 ?_
      obtain ⟨g3, h⟩ := xgd h
      refine xs_i C hW KX_28 g3 dX1_shift_19 (fun H locs hW => ?_)
      refine lv_aload_n hx hb dX1_shift_20 rfl (lv_at hl 0 rfl) ?_
      refine xg_r C hW fg_1_29 KX_23 rfl dX1_shift_21 ?_
      refine lv_iload hx hb dX1_shift_24 (lv_at hl 4 rfl) ?_
      refine lv_dup2_11 hx hb dX1_shift_26 rfl rfl ?_
      obtain ⟨g4, h⟩ := xgd h
      refine xa_i C hW KX_29 g4 (x := σ.1 29 x5.toNatClampNeg) rfl dX1_shift_27 ?_
      refine lv_iload hx hb dX1_shift_28 (lv_at hl 3 rfl) ?_
      refine lv_iadd hx hb dX1_shift_30 ?_
      obtain ⟨g5, h⟩ := xgd h
      refine xs_i C hW KX_29 g5 dX1_shift_31 (fun H locs hW => ?_)
      refine lv_iinc (v := x5 + 1) (lv' := [(5, .int (x5 + 1)), (0, .ref (g.q 23)), (2, .int x2), (3, .int x3), (4, .int x4)]) hx hb dX1_shift_32 hl (k := 4) rfl rfl (Nat.le_of_ble_eq_true rfl) rfl (fun ls hl => ?_)
      refine lv_goto (tgt := 3) hx hb dX1_shift_35 (by decide) ?_
      exact ih x2 x3 x4 (x5 + 1) _ _ _ _ hW (lv_sub hl [1, 2, 3, 4, 0] rfl) h
set_option maxRecDepth 4000 in
theorem m_X1_shift (N : Nat) (x1 : Int32) (x2 : Int32) (x3 : Int32) (x4 : Int32) (σ : St) {σ' : St} (h : f_X1_shift N x1 x2 x3 x4 σ = some σ') : xM l KX g yX1_shift cX1_shift 6 none rm_X1_shift [.ref (g.q 23), .int x1, .int x2, .int x3, .int x4] σ none σ' := by
  refine xmet pn_X1 rfl (Nat.le_of_ble_eq_true rfl) (lv := [(0, .ref (g.q 23)), (1, .int x1), (2, .int x2), (3, .int x3), (4, .int x4)]) rfl (fun p e s m args below meth c ls C hW hl => ?_)
  have hx := C.1
  have hb := C.2.1
  unfold f_X1_shift at h
  refine lv_iload_n hx hb dX1_shift_0 rfl (lv_at hl 1 rfl) ?_
  refine lv_istore (lv' := [(5, .int x1), (0, .ref (g.q 23)), (1, .int x1), (2, .int x2), (3, .int x3), (4, .int x4)]) hx hb dX1_shift_1 hl (Nat.le_of_ble_eq_true rfl) rfl (fun ls hl => ?_)
  exact w_X1_shift_3 N C N x2 x3 x4 x1 _ _ _ _ hW (lv_sub hl [1, 3, 4, 5, 0] rfl) h
end
theorem dX1_settle_0 : decode cX1_settle 0 = .ok (.iconst 0, 1) := by decide +kernel
theorem dX1_settle_1 : decode cX1_settle 1 = .ok (.istore_n 3, 1) := by decide +kernel
theorem dX1_settle_2 : decode cX1_settle 2 = .ok (.iload_n 1, 1) := by decide +kernel
theorem dX1_settle_3 : decode cX1_settle 3 = .ok (.istore 4, 2) := by decide +kernel
theorem dX1_settle_5 : decode cX1_settle 5 = .ok (.iload 4, 2) := by decide +kernel
theorem dX1_settle_7 : decode cX1_settle 7 = .ok (.aload_n 0, 1) := by decide +kernel
theorem dX1_settle_8 : decode cX1_settle 8 = .ok (.getfield 59, 3) := by decide +kernel
theorem dX1_settle_11 : decode cX1_settle 11 = .ok (.if_icmp .ge 25, 3) := by decide +kernel
theorem dX1_settle_14 : decode cX1_settle 14 = .ok (.iload_n 3, 1) := by decide +kernel
theorem dX1_settle_15 : decode cX1_settle 15 = .ok (.aload_n 0, 1) := by decide +kernel
theorem dX1_settle_16 : decode cX1_settle 16 = .ok (.getfield 38, 3) := by decide +kernel
theorem dX1_settle_19 : decode cX1_settle 19 = .ok (.iload 4, 2) := by decide +kernel
theorem dX1_settle_21 : decode cX1_settle 21 = .ok (.iaload, 1) := by decide +kernel
theorem dX1_settle_22 : decode cX1_settle 22 = .ok (.iload_n 2, 1) := by decide +kernel
theorem dX1_settle_23 : decode cX1_settle 23 = .ok (.invokestatic 117, 3) := by decide +kernel
theorem dX1_settle_26 : decode cX1_settle 26 = .ok (.invokestatic 112, 3) := by decide +kernel
theorem dX1_settle_29 : decode cX1_settle 29 = .ok (.istore_n 3, 1) := by decide +kernel
theorem dX1_settle_30 : decode cX1_settle 30 = .ok (.iinc 4 1, 3) := by decide +kernel
theorem dX1_settle_33 : decode cX1_settle 33 = .ok (.goto (-28), 3) := by decide +kernel
theorem dX1_settle_36 : decode cX1_settle 36 = .ok (.aload_n 0, 1) := by decide +kernel
theorem dX1_settle_37 : decode cX1_settle 37 = .ok (.getfield 41, 3) := by decide +kernel
theorem dX1_settle_40 : decode cX1_settle 40 = .ok (.getfield 120, 3) := by decide +kernel
theorem dX1_settle_43 : decode cX1_settle 43 = .ok (.iconst 0, 1) := by decide +kernel
theorem dX1_settle_44 : decode cX1_settle 44 = .ok (.iaload, 1) := by decide +kernel
theorem dX1_settle_45 : decode cX1_settle 45 = .ok (.istore 4, 2) := by decide +kernel
theorem dX1_settle_47 : decode cX1_settle 47 = .ok (.iload 4, 2) := by decide +kernel
theorem dX1_settle_49 : decode cX1_settle 49 = .ok (.ineg, 1) := by decide +kernel
theorem dX1_settle_50 : decode cX1_settle 50 = .ok (.istore 5, 2) := by decide +kernel
theorem dX1_settle_52 : decode cX1_settle 52 = .ok (.iload_n 1, 1) := by decide +kernel
theorem dX1_settle_53 : decode cX1_settle 53 = .ok (.istore 6, 2) := by decide +kernel
theorem dX1_settle_55 : decode cX1_settle 55 = .ok (.iload 6, 2) := by decide +kernel
theorem dX1_settle_57 : decode cX1_settle 57 = .ok (.aload_n 0, 1) := by decide +kernel
theorem dX1_settle_58 : decode cX1_settle 58 = .ok (.getfield 59, 3) := by decide +kernel
theorem dX1_settle_61 : decode cX1_settle 61 = .ok (.if_icmp .ge 121, 3) := by decide +kernel
theorem dX1_settle_64 : decode cX1_settle 64 = .ok (.iload 5, 2) := by decide +kernel
theorem dX1_settle_66 : decode cX1_settle 66 = .ok (.iload 4, 2) := by decide +kernel
theorem dX1_settle_68 : decode cX1_settle 68 = .ok (.iadd, 1) := by decide +kernel
theorem dX1_settle_69 : decode cX1_settle 69 = .ok (.istore 7, 2) := by decide +kernel
theorem dX1_settle_71 : decode cX1_settle 71 = .ok (.iload_n 3, 1) := by decide +kernel
theorem dX1_settle_72 : decode cX1_settle 72 = .ok (.aload_n 0, 1) := by decide +kernel
theorem dX1_settle_73 : decode cX1_settle 73 = .ok (.getfield 38, 3) := by decide +kernel
theorem dX1_settle_76 : decode cX1_settle 76 = .ok (.iload 6, 2) := by decide +kernel
theorem dX1_settle_78 : decode cX1_settle 78 = .ok (.iaload, 1) := by decide +kernel
theorem dX1_settle_79 : decode cX1_settle 79 = .ok (.iload_n 2, 1) := by decide +kernel
theorem dX1_settle_80 : decode cX1_settle 80 = .ok (.invokestatic 117, 3) := by decide +kernel
theorem dX1_settle_83 : decode cX1_settle 83 = .ok (.isub, 1) := by decide +kernel
theorem dX1_settle_84 : decode cX1_settle 84 = .ok (.iconst 2, 1) := by decide +kernel
theorem dX1_settle_85 : decode cX1_settle 85 = .ok (.idiv, 1) := by decide +kernel
theorem dX1_settle_86 : decode cX1_settle 86 = .ok (.istore 8, 2) := by decide +kernel
theorem dX1_settle_88 : decode cX1_settle 88 = .ok (.iload 6, 2) := by decide +kernel
theorem dX1_settle_90 : decode cX1_settle 90 = .ok (.iconst 1, 1) := by decide +kernel
theorem dX1_settle_91 : decode cX1_settle 91 = .ok (.iadd, 1) := by decide +kernel
theorem dX1_settle_92 : decode cX1_settle 92 = .ok (.aload_n 0, 1) := by decide +kernel
theorem dX1_settle_93 : decode cX1_settle 93 = .ok (.getfield 59, 3) := by decide +kernel
theorem dX1_settle_96 : decode cX1_settle 96 = .ok (.if_icmp .ge 15, 3) := by decide +kernel
theorem dX1_settle_99 : decode cX1_settle 99 = .ok (.aload_n 0, 1) := by decide +kernel
theorem dX1_settle_100 : decode cX1_settle 100 = .ok (.getfield 35, 3) := by decide +kernel
theorem dX1_settle_103 : decode cX1_settle 103 = .ok (.iload 6, 2) := by decide +kernel
theorem dX1_settle_105 : decode cX1_settle 105 = .ok (.iconst 1, 1) := by decide +kernel
theorem dX1_settle_106 : decode cX1_settle 106 = .ok (.iadd, 1) := by decide +kernel
theorem dX1_settle_107 : decode cX1_settle 107 = .ok (.iaload, 1) := by decide +kernel
theorem dX1_settle_108 : decode cX1_settle 108 = .ok (.goto 7, 3) := by decide +kernel
theorem dX1_settle_111 : decode cX1_settle 111 = .ok (.aload_n 0, 1) := by decide +kernel
theorem dX1_settle_112 : decode cX1_settle 112 = .ok (.getfield 53, 3) := by decide +kernel
theorem dX1_settle_115 : decode cX1_settle 115 = .ok (.istore 9, 2) := by decide +kernel
theorem dX1_settle_117 : decode cX1_settle 117 = .ok (.aload_n 0, 1) := by decide +kernel
theorem dX1_settle_118 : decode cX1_settle 118 = .ok (.aload_n 0, 1) := by decide +kernel
theorem dX1_settle_119 : decode cX1_settle 119 = .ok (.getfield 35, 3) := by decide +kernel
theorem dX1_settle_122 : decode cX1_settle 122 = .ok (.iload 6, 2) := by decide +kernel
theorem dX1_settle_124 : decode cX1_settle 124 = .ok (.iaload, 1) := by decide +kernel
theorem dX1_settle_125 : decode cX1_settle 125 = .ok (.iload 9, 2) := by decide +kernel
theorem dX1_settle_127 : decode cX1_settle 127 = .ok (.iload_n 2, 1) := by decide +kernel
theorem dX1_settle_128 : decode cX1_settle 128 = .ok (.ifCond .eq 8, 3) := by decide +kernel
theorem dX1_settle_131 : decode cX1_settle 131 = .ok (.iload 7, 2) := by decide +kernel
theorem dX1_settle_133 : decode cX1_settle 133 = .ok (.goto 5, 3) := by decide +kernel
theorem dX1_settle_136 : decode cX1_settle 136 = .ok (.iload 8, 2) := by decide +kernel
theorem dX1_settle_138 : decode cX1_settle 138 = .ok (.iload_n 2, 1) := by decide +kernel
theorem dX1_settle_139 : decode cX1_settle 139 = .ok (.ifCond .eq 8, 3) := by decide +kernel
theorem dX1_settle_142 : decode cX1_settle 142 = .ok (.iload 8, 2) := by decide +kernel
theorem dX1_settle_144 : decode cX1_settle 144 = .ok (.goto 5, 3) := by decide +kernel
theorem dX1_settle_147 : decode cX1_settle 147 = .ok (.iload 7, 2) := by decide +kernel
theorem dX1_settle_149 : decode cX1_settle 149 = .ok (.invokevirtual 123, 3) := by decide +kernel
theorem dX1_settle_152 : decode cX1_settle 152 = .ok (.iload 7, 2) := by decide +kernel
theorem dX1_settle_154 : decode cX1_settle 154 = .ok (.aload_n 0, 1) := by decide +kernel
theorem dX1_settle_155 : decode cX1_settle 155 = .ok (.getfield 38, 3) := by decide +kernel
theorem dX1_settle_158 : decode cX1_settle 158 = .ok (.iload 6, 2) := by decide +kernel
theorem dX1_settle_160 : decode cX1_settle 160 = .ok (.iaload, 1) := by decide +kernel
theorem dX1_settle_161 : decode cX1_settle 161 = .ok (.iload_n 2, 1) := by decide +kernel
theorem dX1_settle_162 : decode cX1_settle 162 = .ok (.ifCond .ne 7, 3) := by decide +kernel
theorem dX1_settle_165 : decode cX1_settle 165 = .ok (.iconst 1, 1) := by decide +kernel
theorem dX1_settle_166 : decode cX1_settle 166 = .ok (.goto 4, 3) := by decide +kernel
theorem dX1_settle_169 : decode cX1_settle 169 = .ok (.iconst 0, 1) := by decide +kernel
theorem dX1_settle_170 : decode cX1_settle 170 = .ok (.invokestatic 117, 3) := by decide +kernel
theorem dX1_settle_173 : decode cX1_settle 173 = .ok (.iadd, 1) := by decide +kernel
theorem dX1_settle_174 : decode cX1_settle 174 = .ok (.istore 5, 2) := by decide +kernel
theorem dX1_settle_176 : decode cX1_settle 176 = .ok (.iinc 6 1, 3) := by decide +kernel
theorem dX1_settle_179 : decode cX1_settle 179 = .ok (.goto (-124), 3) := by decide +kernel
theorem dX1_settle_182 : decode cX1_settle 182 = .ok (.aload_n 0, 1) := by decide +kernel
theorem dX1_settle_183 : decode cX1_settle 183 = .ok (.iload_n 1, 1) := by decide +kernel
theorem dX1_settle_184 : decode cX1_settle 184 = .ok (.putfield 59, 3) := by decide +kernel
theorem dX1_settle_187 : decode cX1_settle 187 = .ok (.iload_n 2, 1) := by decide +kernel
theorem dX1_settle_188 : decode cX1_settle 188 = .ok (.ifCond .eq 12, 3) := by decide +kernel
theorem dX1_settle_191 : decode cX1_settle 191 = .ok (.iload 5, 2) := by decide +kernel
theorem dX1_settle_193 : decode cX1_settle 193 = .ok (.iload_n 3, 1) := by decide +kernel
theorem dX1_settle_194 : decode cX1_settle 194 = .ok (.invokestatic 100, 3) := by decide +kernel
theorem dX1_settle_197 : decode cX1_settle 197 = .ok (.goto 9, 3) := by decide +kernel
theorem dX1_settle_200 : decode cX1_settle 200 = .ok (.iload_n 3, 1) := by decide +kernel
theorem dX1_settle_201 : decode cX1_settle 201 = .ok (.iload 5, 2) := by decide +kernel
theorem dX1_settle_203 : decode cX1_settle 203 = .ok (.invokestatic 100, 3) := by decide +kernel
theorem dX1_settle_206 : decode cX1_settle 206 = .ok (.ireturn, 1) := by decide +kernel
abbrev rm_X1_settle : Room := { frames := 2, cells := 0, slots := 0, locals := 60 }
def f_X1_settle_170 (N : Nat) (k55 : Int32 → Int32 → Int32 → Int32 → Int32 → Int32 → St → Option (Int32 × St)) (x1 : Int32) (x2 : Int32) (x3 : Int32) (x4 : Int32) (x6 : Int32) (t0 : Int32) (t1 : Int32) (t2 : Int32) (σ : St) : Option (Int32 × St) := k55 x1 x2 x3 x4 (t0 + (f_X1_across t1 t2 σ)) (x6 + 1) σ
def f_X1_settle_149 (N : Nat) (k55 : Int32 → Int32 → Int32 → Int32 → Int32 → Int32 → St → Option (Int32 × St)) (x1 : Int32) (x2 : Int32) (x3 : Int32) (x4 : Int32) (x6 : Int32) (x7 : Int32) (t1 : Int32) (t2 : Int32) (t3 : Int32) (t4 : Int32) (σ : St) : Option (Int32 × St) := bo (f_X1_shift N t1 t2 t3 t4 σ) (fun σ13 => grd (ib x6 24) ((if x2 = 0 then f_X1_settle_170 N k55 x1 x2 x3 x4 x6 x7 (σ13.1 32 x6.toNatClampNeg) 1 σ13 else f_X1_settle_170 N k55 x1 x2 x3 x4 x6 x7 (σ13.1 32 x6.toNatClampNeg) 0 σ13)))
def f_X1_settle_138 (N : Nat) (k55 : Int32 → Int32 → Int32 → Int32 → Int32 → Int32 → St → Option (Int32 × St)) (x1 : Int32) (x2 : Int32) (x3 : Int32) (x4 : Int32) (x6 : Int32) (x7 : Int32) (x8 : Int32) (t1 : Int32) (t2 : Int32) (t3 : Int32) (σ : St) : Option (Int32 × St) := (if x2 = 0 then f_X1_settle_149 N k55 x1 x2 x3 x4 x6 x7 t1 t2 t3 x7 σ else f_X1_settle_149 N k55 x1 x2 x3 x4 x6 x7 t1 t2 t3 x8 σ)
def f_X1_settle_115 (N : Nat) (k55 : Int32 → Int32 → Int32 → Int32 → Int32 → Int32 → St → Option (Int32 × St)) (x1 : Int32) (x2 : Int32) (x3 : Int32) (x4 : Int32) (x6 : Int32) (x7 : Int32) (x8 : Int32) (t0 : Int32) (σ : St) : Option (Int32 × St) := grd (ib x6 24) ((if x2 = 0 then f_X1_settle_138 N k55 x1 x2 x3 x4 x6 x7 x8 (σ.1 31 x6.toNatClampNeg) t0 x8 σ else f_X1_settle_138 N k55 x1 x2 x3 x4 x6 x7 x8 (σ.1 31 x6.toNatClampNeg) t0 x7 σ))
def f_X1_settle_55 (N : Nat) : Nat → Int32 → Int32 → Int32 → Int32 → Int32 → Int32 → St → Option (Int32 × St)
  | 0, _, _, _, _, _, _, _ => none
  | n + 1, x1, x2, x3, x4, x5, x6, σ => (if (σ.1 5613 0) ≤ x6 then (if x2 = 0 then some (f_X11_sizeOf x3 x5 (si σ 5613 0 x1), (si σ 5613 0 x1)) else some (f_X11_sizeOf x5 x3 (si σ 5613 0 x1), (si σ 5613 0 x1))) else grd (ib x6 24) ((if (σ.1 5613 0) ≤ (x6 + 1) then f_X1_settle_115 N (f_X1_settle_55 N n) x1 x2 x3 x4 x6 (x5 + x4) ((x3 - (f_X1_across (σ.1 32 x6.toNatClampNeg) x2 σ)) / 2) (σ.1 5605 0) σ else grd (ib (x6 + 1) 24) (f_X1_settle_115 N (f_X1_settle_55 N n) x1 x2 x3 x4 x6 (x5 + x4) ((x3 - (f_X1_across (σ.1 32 x6.toNatClampNeg) x2 σ)) / 2) (σ.1 31 (x6 + 1).toNatClampNeg) σ))))
def f_X1_settle_5 (N : Nat) : Nat → Int32 → Int32 → Int32 → Int32 → St → Option (Int32 × St)
  | 0, _, _, _, _, _ => none
  | n + 1, x1, x2, x3, x4, σ => (if (σ.1 5613 0) ≤ x4 then grd (ib 0 4) (f_X1_settle_55 N N x1 x2 x3 (σ.1 10 0) (-(σ.1 10 0)) x1 σ) else grd (ib x4 24) (f_X1_settle_5 N n x1 x2 (imax x3 (f_X1_across (σ.1 32 x4.toNatClampNeg) x2 σ)) (x4 + 1) σ))
def f_X1_settle (N : Nat) (x1 : Int32) (x2 : Int32) (σ : St) : Option (Int32 × St) := f_X1_settle_5 N N x1 x2 0 x1 σ
section
variable {p : Program} {l : Launch} {e : Env} {s : State} {m : MethodId} {args : Array Value} {below : List Frame} {meth : Method} {c : Code} {g : XG}
set_option maxRecDepth 4000 in
theorem w_X1_settle_170 (N : Nat) (k55 : Int32 → Int32 → Int32 → Int32 → Int32 → Int32 → St → Option (Int32 × St)) {r : Int32} {σ' : St} (C : xC KX g RX1 cX1_settle 10 (some .int) p s m args meth c) (hk55 : ∀ (x1 : Int32) (x2 : Int32) (x3 : Int32) (x4 : Int32) (x5 : Int32) (x6 : Int32) (σ : St) (H : Heap) (locs : List Loc) (ls : Array Slot), xW KX g s σ H locs → lv_has ls 10 [(0, .ref (g.q 23)), (1, .int x1), (2, .int x2), (3, .int x3), (4, .int x4), (5, .int x5), (6, .int x6)] → k55 x1 x2 x3 x4 x5 x6 σ = some (r, σ') → W p l e rm_X1_settle s m args below meth c H locs 0 0 (MQ below (xPost KX g (some (.int r)) σ') args s 0 0 (xA KX g.q)) (F0 m 55 ls [])) : ∀ (x1 : Int32) (x2 : Int32) (x3 : Int32) (x4 : Int32) (x6 : Int32) (t0 : Int32) (t1 : Int32) (t2 : Int32) (σ : St) (H : Heap) (locs : List Loc) (ls : Array Slot), xW KX g s σ H locs → lv_has ls 10 [(0, .ref (g.q 23)), (1, .int x1), (2, .int x2), (3, .int x3), (4, .int x4), (6, .int x6)] → f_X1_settle_170 N k55 x1 x2 x3 x4 x6 t0 t1 t2 σ = some (r, σ') → W p l e rm_X1_settle s m args below meth c H locs 0 0 (MQ below (xPost KX g (some (.int r)) σ') args s 0 0 (xA KX g.q)) (F0 m 170 ls [.int t2, .int t1, .int t0]) := by
  have hx := C.1
  have hb := C.2.1
  intro x1 x2 x3 x4 x6 t0 t1 t2 σ H locs ls hW hl h
  unfold f_X1_settle_170 at h
  refine xc_S (As := [.int t1, .int t2]) (rest := [.int t0]) C hW (m_X1_across t1 t2 _ rfl) mf_X1_across mt_X1_across ml_X1_117 ⟨rfl, rfl⟩ ⟨Nat.le_of_ble_eq_true rfl, Nat.le_of_ble_eq_true rfl⟩ hl.1 rfl rfl (Nat.le_of_ble_eq_true rfl) dX1_settle_170 (fun H locs hW => W.eq (g2 := F0 m 173 ls [.int (f_X1_across t1 t2 σ), .int t0]) rfl ?_)
  refine lv_iadd hx hb dX1_settle_173 ?_
  refine lv_istore (lv' := [(5, .int (t0 + (f_X1_across t1 t2 σ))), (0, .ref (g.q 23)), (1, .int x1), (2, .int x2), (3, .int x3), (4, .int x4), (6, .int x6)]) hx hb dX1_settle_174 hl (Nat.le_of_ble_eq_true rfl) rfl (fun ls hl => ?_)
  refine lv_iinc (v := x6 + 1) (lv' := [(6, .int (x6 + 1)), (5, .int (t0 + (f_X1_across t1 t2 σ))), (0, .ref (g.q 23)), (1, .int x1), (2, .int x2), (3, .int x3), (4, .int x4)]) hx hb dX1_settle_176 hl (k := 6) rfl rfl (Nat.le_of_ble_eq_true rfl) rfl (fun ls hl => ?_)
  refine lv_goto (tgt := 55) hx hb dX1_settle_179 (by decide) ?_
  exact hk55 x1 x2 x3 x4 (t0 + (f_X1_across t1 t2 σ)) (x6 + 1) _ _ _ _ hW (lv_sub hl [2, 3, 4, 5, 6, 1, 0] rfl) h
set_option maxRecDepth 4000 in
theorem w_X1_settle_149 (N : Nat) (k55 : Int32 → Int32 → Int32 → Int32 → Int32 → Int32 → St → Option (Int32 × St)) {r : Int32} {σ' : St} (C : xC KX g RX1 cX1_settle 10 (some .int) p s m args meth c) (hk55 : ∀ (x1 : Int32) (x2 : Int32) (x3 : Int32) (x4 : Int32) (x5 : Int32) (x6 : Int32) (σ : St) (H : Heap) (locs : List Loc) (ls : Array Slot), xW KX g s σ H locs → lv_has ls 10 [(0, .ref (g.q 23)), (1, .int x1), (2, .int x2), (3, .int x3), (4, .int x4), (5, .int x5), (6, .int x6)] → k55 x1 x2 x3 x4 x5 x6 σ = some (r, σ') → W p l e rm_X1_settle s m args below meth c H locs 0 0 (MQ below (xPost KX g (some (.int r)) σ') args s 0 0 (xA KX g.q)) (F0 m 55 ls [])) : ∀ (x1 : Int32) (x2 : Int32) (x3 : Int32) (x4 : Int32) (x6 : Int32) (x7 : Int32) (t1 : Int32) (t2 : Int32) (t3 : Int32) (t4 : Int32) (σ : St) (H : Heap) (locs : List Loc) (ls : Array Slot), xW KX g s σ H locs → lv_has ls 10 [(0, .ref (g.q 23)), (1, .int x1), (2, .int x2), (3, .int x3), (4, .int x4), (6, .int x6), (7, .int x7)] → f_X1_settle_149 N k55 x1 x2 x3 x4 x6 x7 t1 t2 t3 t4 σ = some (r, σ') → W p l e rm_X1_settle s m args below meth c H locs 0 0 (MQ below (xPost KX g (some (.int r)) σ') args s 0 0 (xA KX g.q)) (F0 m 149 ls [.int t4, .int t3, .int t2, .int t1, .ref (g.q 23)]) := by
  have hx := C.1
  have hb := C.2.1
  intro x1 x2 x3 x4 x6 x7 t1 t2 t3 t4 σ H locs ls hW hl h
  unfold f_X1_settle_149 at h
  obtain ⟨σ13, e13, h⟩ := xbo h
  refine xc_V (As := [.int t1, .int t2, .int t3, .int t4]) (rest := []) C hW (m_X1_shift N t1 t2 t3 t4 _ e13) mf_X1_shift mv_X1_shift ml_X1_123 ⟨rfl, rfl⟩ ⟨Nat.le_of_ble_eq_true rfl, Nat.le_of_ble_eq_true rfl⟩ KX_23 rfl hl.1 rfl rfl (Nat.le_of_ble_eq_true rfl) dX1_settle_149 (fun H locs hW => W.eq (g2 := F0 m 152 ls []) rfl ?_)
  refine lv_iload hx hb dX1_settle_152 (lv_at hl 6 rfl) ?_
  refine lv_aload_n hx hb dX1_settle_154 rfl (lv_at hl 0 rfl) ?_
  refine xg_r C hW fg_1_38 KX_23 rfl dX1_settle_155 ?_
  refine lv_iload hx hb dX1_settle_158 (lv_at hl 5 rfl) ?_
  obtain ⟨g14, h⟩ := xgd h
  refine xa_i C hW KX_32 g14 (x := σ13.1 32 x6.toNatClampNeg) rfl dX1_settle_160 ?_
  refine lv_iload_n hx hb dX1_settle_161 rfl (lv_at hl 2 rfl) ?_
  refine lv_if_ne (tgt := 169) hx hb dX1_settle_162 (by decide) (fun c15 => ?_) (fun c15 => ?_)
  · have h := xif c15 h
    refine lv_iconst (v := 0) hx hb dX1_settle_169 rfl ?_
    exact w_X1_settle_170 N k55 C hk55 x1 x2 x3 x4 x6 x7 (σ13.1 32 x6.toNatClampNeg) 0 _ _ _ _ hW (lv_sub hl [0, 1, 2, 3, 4, 5] rfl) h
  · have h := xit c15 h
    refine lv_iconst (v := 1) hx hb dX1_settle_165 rfl ?_
    refine lv_goto (tgt := 170) hx hb dX1_settle_166 (by decide) ?_
    exact w_X1_settle_170 N k55 C hk55 x1 x2 x3 x4 x6 x7 (σ13.1 32 x6.toNatClampNeg) 1 _ _ _ _ hW (lv_sub hl [0, 1, 2, 3, 4, 5] rfl) h
set_option maxRecDepth 4000 in
theorem w_X1_settle_138 (N : Nat) (k55 : Int32 → Int32 → Int32 → Int32 → Int32 → Int32 → St → Option (Int32 × St)) {r : Int32} {σ' : St} (C : xC KX g RX1 cX1_settle 10 (some .int) p s m args meth c) (hk55 : ∀ (x1 : Int32) (x2 : Int32) (x3 : Int32) (x4 : Int32) (x5 : Int32) (x6 : Int32) (σ : St) (H : Heap) (locs : List Loc) (ls : Array Slot), xW KX g s σ H locs → lv_has ls 10 [(0, .ref (g.q 23)), (1, .int x1), (2, .int x2), (3, .int x3), (4, .int x4), (5, .int x5), (6, .int x6)] → k55 x1 x2 x3 x4 x5 x6 σ = some (r, σ') → W p l e rm_X1_settle s m args below meth c H locs 0 0 (MQ below (xPost KX g (some (.int r)) σ') args s 0 0 (xA KX g.q)) (F0 m 55 ls [])) : ∀ (x1 : Int32) (x2 : Int32) (x3 : Int32) (x4 : Int32) (x6 : Int32) (x7 : Int32) (x8 : Int32) (t1 : Int32) (t2 : Int32) (t3 : Int32) (σ : St) (H : Heap) (locs : List Loc) (ls : Array Slot), xW KX g s σ H locs → lv_has ls 10 [(0, .ref (g.q 23)), (1, .int x1), (2, .int x2), (3, .int x3), (4, .int x4), (6, .int x6), (7, .int x7), (8, .int x8)] → f_X1_settle_138 N k55 x1 x2 x3 x4 x6 x7 x8 t1 t2 t3 σ = some (r, σ') → W p l e rm_X1_settle s m args below meth c H locs 0 0 (MQ below (xPost KX g (some (.int r)) σ') args s 0 0 (xA KX g.q)) (F0 m 138 ls [.int t3, .int t2, .int t1, .ref (g.q 23)]) := by
  have hx := C.1
  have hb := C.2.1
  intro x1 x2 x3 x4 x6 x7 x8 t1 t2 t3 σ H locs ls hW hl h
  unfold f_X1_settle_138 at h
  refine lv_iload_n hx hb dX1_settle_138 rfl (lv_at hl 2 rfl) ?_
  refine lv_if_eq (tgt := 147) hx hb dX1_settle_139 (by decide) (fun c12 => ?_) (fun c12 => ?_)
  · have h := xit c12 h
    refine lv_iload hx hb dX1_settle_147 (lv_at hl 6 rfl) ?_
    exact w_X1_settle_149 N k55 C hk55 x1 x2 x3 x4 x6 x7 t1 t2 t3 x7 _ _ _ _ hW (lv_sub hl [0, 1, 2, 3, 4, 5, 6] rfl) h
  · have h := xif c12 h
    refine lv_iload hx hb dX1_settle_142 (lv_at hl 7 rfl) ?_
    refine lv_goto (tgt := 149) hx hb dX1_settle_144 (by decide) ?_
    exact w_X1_settle_149 N k55 C hk55 x1 x2 x3 x4 x6 x7 t1 t2 t3 x8 _ _ _ _ hW (lv_sub hl [0, 1, 2, 3, 4, 5, 6] rfl) h
set_option maxRecDepth 4000 in
theorem w_X1_settle_115 (N : Nat) (k55 : Int32 → Int32 → Int32 → Int32 → Int32 → Int32 → St → Option (Int32 × St)) {r : Int32} {σ' : St} (C : xC KX g RX1 cX1_settle 10 (some .int) p s m args meth c) (hk55 : ∀ (x1 : Int32) (x2 : Int32) (x3 : Int32) (x4 : Int32) (x5 : Int32) (x6 : Int32) (σ : St) (H : Heap) (locs : List Loc) (ls : Array Slot), xW KX g s σ H locs → lv_has ls 10 [(0, .ref (g.q 23)), (1, .int x1), (2, .int x2), (3, .int x3), (4, .int x4), (5, .int x5), (6, .int x6)] → k55 x1 x2 x3 x4 x5 x6 σ = some (r, σ') → W p l e rm_X1_settle s m args below meth c H locs 0 0 (MQ below (xPost KX g (some (.int r)) σ') args s 0 0 (xA KX g.q)) (F0 m 55 ls [])) : ∀ (x1 : Int32) (x2 : Int32) (x3 : Int32) (x4 : Int32) (x6 : Int32) (x7 : Int32) (x8 : Int32) (t0 : Int32) (σ : St) (H : Heap) (locs : List Loc) (ls : Array Slot), xW KX g s σ H locs → lv_has ls 10 [(0, .ref (g.q 23)), (1, .int x1), (2, .int x2), (3, .int x3), (4, .int x4), (6, .int x6), (7, .int x7), (8, .int x8)] → f_X1_settle_115 N k55 x1 x2 x3 x4 x6 x7 x8 t0 σ = some (r, σ') → W p l e rm_X1_settle s m args below meth c H locs 0 0 (MQ below (xPost KX g (some (.int r)) σ') args s 0 0 (xA KX g.q)) (F0 m 115 ls [.int t0]) := by
  have hx := C.1
  have hb := C.2.1
  intro x1 x2 x3 x4 x6 x7 x8 t0 σ H locs ls hW hl h
  unfold f_X1_settle_115 at h
  refine lv_istore (lv' := [(9, .int t0), (0, .ref (g.q 23)), (1, .int x1), (2, .int x2), (3, .int x3), (4, .int x4), (6, .int x6), (7, .int x7), (8, .int x8)]) hx hb dX1_settle_115 hl (Nat.le_of_ble_eq_true rfl) rfl (fun ls hl => ?_)
  refine lv_aload_n hx hb dX1_settle_117 rfl (lv_at hl 1 rfl) ?_
  refine lv_aload_n hx hb dX1_settle_118 rfl (lv_at hl 1 rfl) ?_
  refine xg_r C hW fg_1_35 KX_23 rfl dX1_settle_119 ?_
  refine lv_iload hx hb dX1_settle_122 (lv_at hl 6 rfl) ?_
  obtain ⟨g10, h⟩ := xgd h
  refine xa_i C hW KX_31 g10 (x := σ.1 31 x6.toNatClampNeg) rfl dX1_settle_124 ?_
  refine lv_iload hx hb dX1_settle_125 (lv_at hl 0 rfl) ?_
  refine lv_iload_n hx hb dX1_settle_127 rfl (lv_at hl 3 rfl) ?_
  refine lv_if_eq (tgt := 136) hx hb dX1_settle_128 (by decide) (fun c11 => ?_) (fun c11 => ?_)
  · have h := xit c11 h
    refine lv_iload hx hb dX1_settle_136 (lv_at hl 8 rfl) ?_
    exact w_X1_settle_138 N k55 C hk55 x1 x2 x3 x4 x6 x7 x8 (σ.1 31 x6.toNatClampNeg) t0 x8 _ _ _ _ hW (lv_sub hl [1, 2, 3, 4, 5, 6, 7, 8] rfl) h
  · have h := xif c11 h
    refine lv_iload hx hb dX1_settle_131 (lv_at hl 7 rfl) ?_
    refine lv_goto (tgt := 138) hx hb dX1_settle_133 (by decide) ?_
    exact w_X1_settle_138 N k55 C hk55 x1 x2 x3 x4 x6 x7 x8 (σ.1 31 x6.toNatClampNeg) t0 x7 _ _ _ _ hW (lv_sub hl [1, 2, 3, 4, 5, 6, 7, 8] rfl) h
set_option maxRecDepth 4000 in
theorem w_X1_settle_55 (N : Nat) {r : Int32} {σ' : St} (C : xC KX g RX1 cX1_settle 10 (some .int) p s m args meth c) : ∀ (n : Nat), ∀ (x1 : Int32) (x2 : Int32) (x3 : Int32) (x4 : Int32) (x5 : Int32) (x6 : Int32) (σ : St) (H : Heap) (locs : List Loc) (ls : Array Slot), xW KX g s σ H locs → lv_has ls 10 [(0, .ref (g.q 23)), (1, .int x1), (2, .int x2), (3, .int x3), (4, .int x4), (5, .int x5), (6, .int x6)] → f_X1_settle_55 N n x1 x2 x3 x4 x5 x6 σ = some (r, σ') → W p l e rm_X1_settle s m args below meth c H locs 0 0 (MQ below (xPost KX g (some (.int r)) σ') args s 0 0 (xA KX g.q)) (F0 m 55 ls []) := by
  have hx := C.1
  have hb := C.2.1
  intro n
  induction n with
  | zero => intro x1 x2 x3 x4 x5 x6 σ H locs ls hW hl h; rw [f_X1_settle_55] at h; cases h
  | succ n ih =>
    intro x1 x2 x3 x4 x5 x6 σ H locs ls hW hl h
    rw [f_X1_settle_55] at h
    refine lv_iload hx hb dX1_settle_55 (lv_at hl 6 rfl) ?_
    refine lv_aload_n hx hb dX1_settle_57 rfl (lv_at hl 0 rfl) ?_
    refine xg_i C hW fg_1_59 KX_23 rfl (v := 5613) rfl (x := σ.1 5613 0) rfl dX1_settle_58 ?_
    refine lv_icmp_ge (tgt := 182) hx hb dX1_settle_61 (by decide) (fun c4 => ?_) (fun c4 => ?_)
    · have h := xit c4 h
      refine lv_aload_n hx hb dX1_settle_182 rfl (lv_at hl 0 rfl) ?_
      refine lv_iload_n hx hb dX1_settle_183 rfl (lv_at hl 1 rfl) ?_
      refine xp_i C hW fp_1_59 KX_23 rfl (v := 5613) rfl rfl rfl dX1_settle_184 (fun H locs hW => ?_)
      refine lv_iload_n hx hb dX1_settle_187 rfl (lv_at hl 2 rfl) ?_
      refine lv_if_eq (tgt := 200) hx hb dX1_settle_188 (by decide) (fun c5 => ?_) (fun c5 => ?_)
      · have h := xit c5 h
        refine lv_iload_n hx hb dX1_settle_200 rfl (lv_at hl 3 rfl) ?_
        refine lv_iload hx hb dX1_settle_201 (lv_at hl 5 rfl) ?_
        refine xc_SN (As := [.int x3, .int x5]) (rest := []) C hW (m_X11_sizeOf x3 x5 _ rfl) mf_X11_sizeOf mt_X11_sizeOf xn_X1_100 ⟨rfl, rfl⟩ ⟨Nat.le_of_ble_eq_true rfl, Nat.le_of_ble_eq_true rfl⟩ hl.1 rfl rfl (Nat.le_of_ble_eq_true rfl) dX1_settle_203 (fun H locs hW => W.eq (g2 := F0 m 206 ls [.int (f_X11_sizeOf x3 x5 (si σ 5613 0 x1))]) rfl ?_)
        cases h
        exact xr_i C hW dX1_settle_206
      · have h := xif c5 h
        refine lv_iload hx hb dX1_settle_191 (lv_at hl 5 rfl) ?_
        refine lv_iload_n hx hb dX1_settle_193 rfl (lv_at hl 3 rfl) ?_
        refine xc_SN (As := [.int x5, .int x3]) (rest := []) C hW (m_X11_sizeOf x5 x3 _ rfl) mf_X11_sizeOf mt_X11_sizeOf xn_X1_100 ⟨rfl, rfl⟩ ⟨Nat.le_of_ble_eq_true rfl, Nat.le_of_ble_eq_true rfl⟩ hl.1 rfl rfl (Nat.le_of_ble_eq_true rfl) dX1_settle_194 (fun H locs hW => W.eq (g2 := F0 m 197 ls [.int (f_X11_sizeOf x5 x3 (si σ 5613 0 x1))]) rfl ?_)
        refine lv_goto (tgt := 206) hx hb dX1_settle_197 (by decide) ?_
        cases h
        exact xr_i C hW dX1_settle_206
    · have h := xif c4 h
      refine lv_iload hx hb dX1_settle_64 (lv_at hl 5 rfl) ?_
      refine lv_iload hx hb dX1_settle_66 (lv_at hl 4 rfl) ?_
      refine lv_iadd hx hb dX1_settle_68 ?_
      refine lv_istore (lv' := [(7, .int (x5 + x4)), (0, .ref (g.q 23)), (1, .int x1), (2, .int x2), (3, .int x3), (4, .int x4), (5, .int x5), (6, .int x6)]) hx hb dX1_settle_69 hl (Nat.le_of_ble_eq_true rfl) rfl (fun ls hl => ?_)
      refine lv_iload_n hx hb dX1_settle_71 rfl (lv_at hl 4 rfl) ?_
      refine lv_aload_n hx hb dX1_settle_72 rfl (lv_at hl 1 rfl) ?_
      refine xg_r C hW fg_1_38 KX_23 rfl dX1_settle_73 ?_
      refine lv_iload hx hb dX1_settle_76 (lv_at hl 7 rfl) ?_
      obtain ⟨g6, h⟩ := xgd h
      refine xa_i C hW KX_32 g6 (x := σ.1 32 x6.toNatClampNeg) rfl dX1_settle_78 ?_
      refine lv_iload_n hx hb dX1_settle_79 rfl (lv_at hl 3 rfl) ?_
      refine xc_S (As := [.int (σ.1 32 x6.toNatClampNeg), .int x2]) (rest := [.int x3]) C hW (m_X1_across (σ.1 32 x6.toNatClampNeg) x2 _ rfl) mf_X1_across mt_X1_across ml_X1_117 ⟨rfl, rfl⟩ ⟨Nat.le_of_ble_eq_true rfl, Nat.le_of_ble_eq_true rfl⟩ hl.1 rfl rfl (Nat.le_of_ble_eq_true rfl) dX1_settle_80 (fun H locs hW => W.eq (g2 := F0 m 83 ls [.int (f_X1_across (σ.1 32 x6.toNatClampNeg) x2 σ), .int x3]) rfl ?_)
      refine lv_isub hx hb dX1_settle_83 ?_
      refine lv_iconst (v := 2) hx hb dX1_settle_84 rfl ?_
      refine lv_idiv hx hb dX1_settle_85 (by decide) ?_
      refine lv_istore (lv' := [(8, .int ((x3 - (f_X1_across (σ.1 32 x6.toNatClampNeg) x2 σ)) / 2)), (7, .int (x5 + x4)), (0, .ref (g.q 23)), (1, .int x1), (2, .int x2), (3, .int x3), (4, .int x4), (5, .int x5), (6, .int x6)]) hx hb dX1_settle_86 hl (Nat.le_of_ble_eq_true rfl) rfl (fun ls hl => ?_)
      refine lv_iload hx hb dX1_settle_88 (lv_at hl 8 rfl) ?_
      refine lv_iconst (v := 1) hx hb dX1_settle_90 rfl ?_
      refine lv_iadd hx hb dX1_settle_91 ?_
      refine lv_aload_n hx hb dX1_settle_92 rfl (lv_at hl 2 rfl) ?_
      refine xg_i C hW fg_1_59 KX_23 rfl (v := 5613) rfl (x := σ.1 5613 0) rfl dX1_settle_93 ?_
      refine lv_icmp_ge (tgt := 111) hx hb dX1_settle_96 (by decide) (fun c8 => ?_) (fun c8 => ?_)
      · have h := xit c8 h
        refine lv_aload_n hx hb dX1_settle_111 rfl (lv_at hl 2 rfl) ?_
        refine xg_i C hW fg_1_53 KX_23 rfl (v := 5605) rfl (x := σ.1 5605 0) rfl dX1_settle_112 ?_
        exact w_X1_settle_115 N (f_X1_settle_55 N n) C ih x1 x2 x3 x4 x6 (x5 + x4) ((x3 - (f_X1_across (σ.1 32 x6.toNatClampNeg) x2 σ)) / 2) (σ.1 5605 0) _ _ _ _ hW (lv_sub hl [2, 3, 4, 5, 6, 8, 1, 0] rfl) h
      · have h := xif c8 h
        refine lv_aload_n hx hb dX1_settle_99 rfl (lv_at hl 2 rfl) ?_
        refine xg_r C hW fg_1_35 KX_23 rfl dX1_settle_100 ?_
        refine lv_iload hx hb dX1_settle_103 (lv_at hl 8 rfl) ?_
        refine lv_iconst (v := 1) hx hb dX1_settle_105 rfl ?_
        refine lv_iadd hx hb dX1_settle_106 ?_
        obtain ⟨g9, h⟩ := xgd h
        refine xa_i C hW KX_31 g9 (x := σ.1 31 (x6 + 1).toNatClampNeg) rfl dX1_settle_107 ?_
        refine lv_goto (tgt := 115) hx hb dX1_settle_108 (by decide) ?_
        exact w_X1_settle_115 N (f_X1_settle_55 N n) C ih x1 x2 x3 x4 x6 (x5 + x4) ((x3 - (f_X1_across (σ.1 32 x6.toNatClampNeg) x2 σ)) / 2) (σ.1 31 (x6 + 1).toNatClampNeg) _ _ _ _ hW (lv_sub hl [2, 3, 4, 5, 6, 8, 1, 0] rfl) h
set_option maxRecDepth 4000 in
theorem w_X1_settle_5 (N : Nat) {r : Int32} {σ' : St} (C : xC KX g RX1 cX1_settle 10 (some .int) p s m args meth c) : ∀ (n : Nat), ∀ (x1 : Int32) (x2 : Int32) (x3 : Int32) (x4 : Int32) (σ : St) (H : Heap) (locs : List Loc) (ls : Array Slot), xW KX g s σ H locs → lv_has ls 10 [(0, .ref (g.q 23)), (1, .int x1), (2, .int x2), (3, .int x3), (4, .int x4)] → f_X1_settle_5 N n x1 x2 x3 x4 σ = some (r, σ') → W p l e rm_X1_settle s m args below meth c H locs 0 0 (MQ below (xPost KX g (some (.int r)) σ') args s 0 0 (xA KX g.q)) (F0 m 5 ls []) := by
  have hx := C.1
  have hb := C.2.1
  intro n
  induction n with
  | zero => intro x1 x2 x3 x4 σ H locs ls hW hl h; rw [f_X1_settle_5] at h; cases h
  | succ n ih =>
    intro x1 x2 x3 x4 σ H locs ls hW hl h
    rw [f_X1_settle_5] at h
    refine lv_iload hx hb dX1_settle_5 (lv_at hl 4 rfl) ?_
    refine lv_aload_n hx hb dX1_settle_7 rfl (lv_at hl 0 rfl) ?_
    refine xg_i C hW fg_1_59 KX_23 rfl (v := 5613) rfl (x := σ.1 5613 0) rfl dX1_settle_8 ?_
    refine lv_icmp_ge (tgt := 36) hx hb dX1_settle_11 (by decide) (fun c1 => ?_) (fun c1 => ?_)
    · have h := xit c1 h
      refine lv_aload_n hx hb dX1_settle_36 rfl (lv_at hl 0 rfl) ?_
      refine xg_r C hW fg_1_41 KX_23 rfl dX1_settle_37 ?_
      refine xg_r C hW fg_1_120 KX_1 rfl dX1_settle_40 ?_
      refine lv_iconst (v := 0) hx hb dX1_settle_43 rfl ?_
      obtain ⟨g2, h⟩ := xgd h
      refine xa_i C hW KX_10 g2 (x := σ.1 10 0) rfl dX1_settle_44 ?_
      refine lv_istore (lv' := [(4, .int (σ.1 10 0)), (0, .ref (g.q 23)), (1, .int x1), (2, .int x2), (3, .int x3)]) hx hb dX1_settle_45 hl (Nat.le_of_ble_eq_true rfl) rfl (fun ls hl => ?_)
      refine lv_iload hx hb dX1_settle_47 (lv_at hl 0 rfl) ?_
      refine lv_ineg hx hb dX1_settle_49 ?_
      refine lv_istore (lv' := [(5, .int (-(σ.1 10 0))), (4, .int (σ.1 10 0)), (0, .ref (g.q 23)), (1, .int x1), (2, .int x2), (3, .int x3)]) hx hb dX1_settle_50 hl (Nat.le_of_ble_eq_true rfl) rfl (fun ls hl => ?_)
      refine lv_iload_n hx hb dX1_settle_52 rfl (lv_at hl 3 rfl) ?_
      refine lv_istore (lv' := [(6, .int x1), (5, .int (-(σ.1 10 0))), (4, .int (σ.1 10 0)), (0, .ref (g.q 23)), (1, .int x1), (2, .int x2), (3, .int x3)]) hx hb dX1_settle_53 hl (Nat.le_of_ble_eq_true rfl) rfl (fun ls hl => ?_)
      exact w_X1_settle_55 N C N x1 x2 x3 (σ.1 10 0) (-(σ.1 10 0)) x1 _ _ _ _ hW (lv_sub hl [3, 4, 5, 6, 2, 1, 0] rfl) h
    · have h := xif c1 h
      refine lv_iload_n hx hb dX1_settle_14 rfl (lv_at hl 3 rfl) ?_
      refine lv_aload_n hx hb dX1_settle_15 rfl (lv_at hl 0 rfl) ?_
      refine xg_r C hW fg_1_38 KX_23 rfl dX1_settle_16 ?_
      refine lv_iload hx hb dX1_settle_19 (lv_at hl 4 rfl) ?_
      obtain ⟨g3, h⟩ := xgd h
      refine xa_i C hW KX_32 g3 (x := σ.1 32 x4.toNatClampNeg) rfl dX1_settle_21 ?_
      refine lv_iload_n hx hb dX1_settle_22 rfl (lv_at hl 2 rfl) ?_
      refine xc_S (As := [.int (σ.1 32 x4.toNatClampNeg), .int x2]) (rest := [.int x3]) C hW (m_X1_across (σ.1 32 x4.toNatClampNeg) x2 _ rfl) mf_X1_across mt_X1_across ml_X1_117 ⟨rfl, rfl⟩ ⟨Nat.le_of_ble_eq_true rfl, Nat.le_of_ble_eq_true rfl⟩ hl.1 rfl rfl (Nat.le_of_ble_eq_true rfl) dX1_settle_23 (fun H locs hW => W.eq (g2 := F0 m 26 ls [.int (f_X1_across (σ.1 32 x4.toNatClampNeg) x2 σ), .int x3]) rfl ?_)
      refine xmm_max C hW ml_X1_112 (Nat.le_of_ble_eq_true rfl) (Nat.le_of_ble_eq_true rfl) hl.1 (Nat.le_of_ble_eq_true rfl) dX1_settle_26 ?_
      refine lv_istore_n (lv' := [(3, .int (imax x3 (f_X1_across (σ.1 32 x4.toNatClampNeg) x2 σ))), (0, .ref (g.q 23)), (1, .int x1), (2, .int x2), (4, .int x4)]) hx hb dX1_settle_29 rfl hl (Nat.le_of_ble_eq_true rfl) rfl (fun ls hl => ?_)
      refine lv_iinc (v := x4 + 1) (lv' := [(4, .int (x4 + 1)), (3, .int (imax x3 (f_X1_across (σ.1 32 x4.toNatClampNeg) x2 σ))), (0, .ref (g.q 23)), (1, .int x1), (2, .int x2)]) hx hb dX1_settle_30 hl (k := 4) rfl rfl (Nat.le_of_ble_eq_true rfl) rfl (fun ls hl => ?_)
      refine lv_goto (tgt := 5) hx hb dX1_settle_33 (by decide) ?_
      exact ih x1 x2 (imax x3 (f_X1_across (σ.1 32 x4.toNatClampNeg) x2 σ)) (x4 + 1) _ _ _ _ hW (lv_sub hl [2, 3, 4, 1, 0] rfl) h
set_option maxRecDepth 4000 in
theorem m_X1_settle (N : Nat) (x1 : Int32) (x2 : Int32) (σ : St) {r : Int32} {σ' : St} (h : f_X1_settle N x1 x2 σ = some (r, σ')) : xM l KX g yX1_settle cX1_settle 10 (some .int) rm_X1_settle [.ref (g.q 23), .int x1, .int x2] σ (some (.int r)) σ' := by
  refine xmet pn_X1 rfl (Nat.le_of_ble_eq_true rfl) (lv := [(0, .ref (g.q 23)), (1, .int x1), (2, .int x2)]) rfl (fun p e s m args below meth c ls C hW hl => ?_)
  have hx := C.1
  have hb := C.2.1
  unfold f_X1_settle at h
  refine lv_iconst (v := 0) hx hb dX1_settle_0 rfl ?_
  refine lv_istore_n (lv' := [(3, .int 0), (0, .ref (g.q 23)), (1, .int x1), (2, .int x2)]) hx hb dX1_settle_1 rfl hl (Nat.le_of_ble_eq_true rfl) rfl (fun ls hl => ?_)
  refine lv_iload_n hx hb dX1_settle_2 rfl (lv_at hl 2 rfl) ?_
  refine lv_istore (lv' := [(4, .int x1), (3, .int 0), (0, .ref (g.q 23)), (1, .int x1), (2, .int x2)]) hx hb dX1_settle_3 hl (Nat.le_of_ble_eq_true rfl) rfl (fun ls hl => ?_)
  exact w_X1_settle_5 N C N x1 x2 0 x1 _ _ _ _ hW (lv_sub hl [2, 3, 4, 1, 0] rfl) h
end
theorem dX1_waitWith_0 : decode cX1_waitWith 0 = .ok (.aload_n 0, 1) := by decide +kernel
theorem dX1_waitWith_1 : decode cX1_waitWith 1 = .ok (.getfield 59, 3) := by decide +kernel
theorem dX1_waitWith_4 : decode cX1_waitWith 4 = .ok (.bipush 24, 2) := by decide +kernel
theorem dX1_waitWith_6 : decode cX1_waitWith 6 = .ok (.if_icmp .ge 33, 3) := by decide +kernel
theorem dX1_waitWith_9 : decode cX1_waitWith 9 = .ok (.aload_n 0, 1) := by decide +kernel
theorem dX1_waitWith_10 : decode cX1_waitWith 10 = .ok (.getfield 35, 3) := by decide +kernel
theorem dX1_waitWith_13 : decode cX1_waitWith 13 = .ok (.aload_n 0, 1) := by decide +kernel
theorem dX1_waitWith_14 : decode cX1_waitWith 14 = .ok (.getfield 59, 3) := by decide +kernel
theorem dX1_waitWith_17 : decode cX1_waitWith 17 = .ok (.iload_n 1, 1) := by decide +kernel
theorem dX1_waitWith_18 : decode cX1_waitWith 18 = .ok (.iastore, 1) := by decide +kernel
theorem dX1_waitWith_19 : decode cX1_waitWith 19 = .ok (.aload_n 0, 1) := by decide +kernel
theorem dX1_waitWith_20 : decode cX1_waitWith 20 = .ok (.getfield 38, 3) := by decide +kernel
theorem dX1_waitWith_23 : decode cX1_waitWith 23 = .ok (.aload_n 0, 1) := by decide +kernel
theorem dX1_waitWith_24 : decode cX1_waitWith 24 = .ok (.getfield 59, 3) := by decide +kernel
theorem dX1_waitWith_27 : decode cX1_waitWith 27 = .ok (.iload_n 2, 1) := by decide +kernel
theorem dX1_waitWith_28 : decode cX1_waitWith 28 = .ok (.iastore, 1) := by decide +kernel
theorem dX1_waitWith_29 : decode cX1_waitWith 29 = .ok (.aload_n 0, 1) := by decide +kernel
theorem dX1_waitWith_30 : decode cX1_waitWith 30 = .ok (.dup, 1) := by decide +kernel
theorem dX1_waitWith_31 : decode cX1_waitWith 31 = .ok (.getfield 59, 3) := by decide +kernel
theorem dX1_waitWith_34 : decode cX1_waitWith 34 = .ok (.iconst 1, 1) := by decide +kernel
theorem dX1_waitWith_35 : decode cX1_waitWith 35 = .ok (.iadd, 1) := by decide +kernel
theorem dX1_waitWith_36 : decode cX1_waitWith 36 = .ok (.putfield 59, 3) := by decide +kernel
theorem dX1_waitWith_39 : decode cX1_waitWith 39 = .ok (.return_, 1) := by decide +kernel
abbrev rm_X1_waitWith : Room := { frames := 0, cells := 0, slots := 0, locals := 0 }
def f_X1_waitWith (x1 : Int32) (x2 : Int32) (σ : St) : Option St := (if 24 ≤ (σ.1 5613 0) then some σ else grd (ib (σ.1 5613 0) 24) (grd (ib (σ.1 5613 0) 24) (some ((si (si (si σ 31 (σ.1 5613 0).toNatClampNeg x1) 32 (σ.1 5613 0).toNatClampNeg x2) 5613 0 ((σ.1 5613 0) + 1))))))
section
variable {p : Program} {l : Launch} {e : Env} {s : State} {m : MethodId} {args : Array Value} {below : List Frame} {meth : Method} {c : Code} {g : XG}
set_option maxRecDepth 4000 in
theorem m_X1_waitWith (x1 : Int32) (x2 : Int32) (σ : St) {σ' : St} (h : f_X1_waitWith x1 x2 σ = some σ') : xM l KX g yX1_waitWith cX1_waitWith 3 none rm_X1_waitWith [.ref (g.q 23), .int x1, .int x2] σ none σ' := by
  refine xmet pn_X1 rfl (Nat.le_of_ble_eq_true rfl) (lv := [(0, .ref (g.q 23)), (1, .int x1), (2, .int x2)]) rfl (fun p e s m args below meth c ls C hW hl => ?_)
  have hx := C.1
  have hb := C.2.1
  unfold f_X1_waitWith at h
  refine lv_aload_n hx hb dX1_waitWith_0 rfl (lv_at hl 0 rfl) ?_
  refine xg_i C hW fg_1_59 KX_23 rfl (v := 5613) rfl (x := σ.1 5613 0) rfl dX1_waitWith_1 ?_
  refine lv_bipush (v := 24) hx hb dX1_waitWith_4 rfl ?_
  refine lv_icmp_ge (tgt := 39) hx hb dX1_waitWith_6 (by decide) (fun c1 => ?_) (fun c1 => ?_)
  · have h := xit c1 h
    cases h
    exact xr_v C hW dX1_waitWith_39
  · have h := xif c1 h
    refine lv_aload_n hx hb dX1_waitWith_9 rfl (lv_at hl 0 rfl) ?_
    refine xg_r C hW fg_1_35 KX_23 rfl dX1_waitWith_10 ?_
    refine lv_aload_n hx hb dX1_waitWith_13 rfl (lv_at hl 0 rfl) ?_
    refine xg_i C hW fg_1_59 KX_23 rfl (v := 5613) rfl (x := σ.1 5613 0) rfl dX1_waitWith_14 ?_
    refine lv_iload_n hx hb dX1_waitWith_17 rfl (lv_at hl 1 rfl) ?_
    obtain ⟨g2, h⟩ := xgd h
    refine xs_i C hW KX_31 g2 dX1_waitWith_18 (fun H locs hW => ?_)
    refine lv_aload_n hx hb dX1_waitWith_19 rfl (lv_at hl 0 rfl) ?_
    refine xg_r C hW fg_1_38 KX_23 rfl dX1_waitWith_20 ?_
    refine lv_aload_n hx hb dX1_waitWith_23 rfl (lv_at hl 0 rfl) ?_
    refine xg_i C hW fg_1_59 KX_23 rfl (v := 5613) rfl (x := σ.1 5613 0) rfl dX1_waitWith_24 ?_
    refine lv_iload_n hx hb dX1_waitWith_27 rfl (lv_at hl 2 rfl) ?_
    obtain ⟨g3, h⟩ := xgd h
    refine xs_i C hW KX_32 g3 dX1_waitWith_28 (fun H locs hW => ?_)
    refine lv_aload_n hx hb dX1_waitWith_29 rfl (lv_at hl 0 rfl) ?_
    refine lv_dup hx hb dX1_waitWith_30 rfl ?_
    refine xg_i C hW fg_1_59 KX_23 rfl (v := 5613) rfl (x := σ.1 5613 0) rfl dX1_waitWith_31 ?_
    refine lv_iconst (v := 1) hx hb dX1_waitWith_34 rfl ?_
    refine lv_iadd hx hb dX1_waitWith_35 ?_
    refine xp_i C hW fp_1_59 KX_23 rfl (v := 5613) rfl rfl rfl dX1_waitWith_36 (fun H locs hW => ?_)
    cases h
    exact xr_v C hW dX1_waitWith_39
end
theorem dX1_layItem_0 : decode cX1_layItem 0 = .ok (.aload_n 0, 1) := by decide +kernel
theorem dX1_layItem_1 : decode cX1_layItem 1 = .ok (.getfield 45, 3) := by decide +kernel
theorem dX1_layItem_4 : decode cX1_layItem 4 = .ok (.aload_n 0, 1) := by decide +kernel
theorem dX1_layItem_5 : decode cX1_layItem 5 = .ok (.getfield 62, 3) := by decide +kernel
theorem dX1_layItem_8 : decode cX1_layItem 8 = .ok (.invokevirtual 79, 3) := by decide +kernel
theorem dX1_layItem_11 : decode cX1_layItem 11 = .ok (.istore_n 2, 1) := by decide +kernel
theorem dX1_layItem_12 : decode cX1_layItem 12 = .ok (.aload_n 0, 1) := by decide +kernel
theorem dX1_layItem_13 : decode cX1_layItem 13 = .ok (.dup, 1) := by decide +kernel
theorem dX1_layItem_14 : decode cX1_layItem 14 = .ok (.getfield 62, 3) := by decide +kernel
theorem dX1_layItem_17 : decode cX1_layItem 17 = .ok (.iconst 1, 1) := by decide +kernel
theorem dX1_layItem_18 : decode cX1_layItem 18 = .ok (.iadd, 1) := by decide +kernel
theorem dX1_layItem_19 : decode cX1_layItem 19 = .ok (.putfield 62, 3) := by decide +kernel
theorem dX1_layItem_22 : decode cX1_layItem 22 = .ok (.iload_n 2, 1) := by decide +kernel
theorem dX1_layItem_23 : decode cX1_layItem 23 = .ok (.ifCond .lt 9, 3) := by decide +kernel
theorem dX1_layItem_26 : decode cX1_layItem 26 = .ok (.aload_n 0, 1) := by decide +kernel
theorem dX1_layItem_27 : decode cX1_layItem 27 = .ok (.iload_n 2, 1) := by decide +kernel
theorem dX1_layItem_28 : decode cX1_layItem 28 = .ok (.invokevirtual 89, 3) := by decide +kernel
theorem dX1_layItem_31 : decode cX1_layItem 31 = .ok (.ireturn, 1) := by decide +kernel
theorem dX1_layItem_32 : decode cX1_layItem 32 = .ok (.iload_n 1, 1) := by decide +kernel
theorem dX1_layItem_33 : decode cX1_layItem 33 = .ok (.iconst 4, 1) := by decide +kernel
theorem dX1_layItem_34 : decode cX1_layItem 34 = .ok (.if_icmp .lt 5, 3) := by decide +kernel
theorem dX1_layItem_37 : decode cX1_layItem 37 = .ok (.iconst 0, 1) := by decide +kernel
theorem dX1_layItem_38 : decode cX1_layItem 38 = .ok (.ireturn, 1) := by decide +kernel
theorem dX1_layItem_39 : decode cX1_layItem 39 = .ok (.aload_n 0, 1) := by decide +kernel
theorem dX1_layItem_40 : decode cX1_layItem 40 = .ok (.iload_n 1, 1) := by decide +kernel
theorem dX1_layItem_41 : decode cX1_layItem 41 = .ok (.iconst 1, 1) := by decide +kernel
theorem dX1_layItem_42 : decode cX1_layItem 42 = .ok (.iadd, 1) := by decide +kernel
theorem dX1_layItem_43 : decode cX1_layItem 43 = .ok (.invokevirtual 68, 3) := by decide +kernel
theorem dX1_layItem_46 : decode cX1_layItem 46 = .ok (.istore_n 3, 1) := by decide +kernel
theorem dX1_layItem_47 : decode cX1_layItem 47 = .ok (.aload_n 0, 1) := by decide +kernel
theorem dX1_layItem_48 : decode cX1_layItem 48 = .ok (.dup, 1) := by decide +kernel
theorem dX1_layItem_49 : decode cX1_layItem 49 = .ok (.getfield 62, 3) := by decide +kernel
theorem dX1_layItem_52 : decode cX1_layItem 52 = .ok (.iconst 1, 1) := by decide +kernel
theorem dX1_layItem_53 : decode cX1_layItem 53 = .ok (.iadd, 1) := by decide +kernel
theorem dX1_layItem_54 : decode cX1_layItem 54 = .ok (.putfield 62, 3) := by decide +kernel
theorem dX1_layItem_57 : decode cX1_layItem 57 = .ok (.iload_n 3, 1) := by decide +kernel
theorem dX1_layItem_58 : decode cX1_layItem 58 = .ok (.ireturn, 1) := by decide +kernel
def f_X1_layItem (N : Nat) (hd : Int32 → St → Option (Int32 × St)) (x1 : Int32) (σ : St) : Option (Int32 × St) := bo (f_X0_codeAt (σ.1 5614 0) σ) (fun r1_ => (if r1_ < 0 then (if x1 < 4 then bd (hd (x1 + 1) (si σ 5614 0 ((σ.1 5614 0) + 1))) (fun r4_ σ4 => some (r4_, (si σ4 5614 0 ((σ4.1 5614 0) + 1)))) else some (0, (si σ 5614 0 ((σ.1 5614 0) + 1)))) else bd (f_X1_layWithInner r1_ (si σ 5614 0 ((σ.1 5614 0) + 1))) (fun r5_ σ5 => some (r5_, σ5))))
section
variable {p : Program} {l : Launch} {e : Env} {s : State} {m : MethodId} {args : Array Value} {below : List Frame} {meth : Method} {c : Code} {g : XG}
set_option maxRecDepth 4000 in
theorem m_X1_layItem (N : Nat) (hd : Int32 → St → Option (Int32 × St)) (rmH : Room) (hrm : rmH.cells = 0 ∧ rmH.slots = 0 ∧ 3 ≤ rmH.frames ∧ 89 ≤ rmH.locals) (hH : ∀ (a0 : Int32) (σ : St) {r : Int32} {σ' : St}, hd a0 σ = some (r, σ') → xM l KX g yX1_layBeside cX1_layBeside 5 (some .int) rmH [.ref (g.q 23), .int a0] σ (some (.int r)) σ') (x1 : Int32) (σ : St) {r : Int32} {σ' : St} (h : f_X1_layItem N hd x1 σ = some (r, σ')) : xM l KX g yX1_layItem cX1_layItem 4 (some .int) (xrm rmH 1 24) [.ref (g.q 23), .int x1] σ (some (.int r)) σ' := by
  refine xmet pn_X1 rfl (Nat.le_of_ble_eq_true rfl) (lv := [(0, .ref (g.q 23)), (1, .int x1)]) rfl (fun p e s m args below meth c ls C hW hl => ?_)
  have hx := C.1
  have hb := C.2.1
  unfold f_X1_layItem at h
  refine lv_aload_n hx hb dX1_layItem_0 rfl (lv_at hl 0 rfl) ?_
  refine xg_r C hW fg_1_45 KX_23 rfl dX1_layItem_1 ?_
  refine lv_aload_n hx hb dX1_layItem_4 rfl (lv_at hl 0 rfl) ?_
  refine xg_i C hW fg_1_62 KX_23 rfl (v := 5614) rfl (x := σ.1 5614 0) rfl dX1_layItem_5 ?_
  obtain ⟨r1_, e1, h⟩ := xbo h
  refine xc_V (As := [.int (σ.1 5614 0)]) (rest := []) C hW (m_X0_codeAt (σ.1 5614 0) _ e1) mf_X0_codeAt mv_X0_codeAt ml_X1_79 ⟨rfl, rfl⟩ ⟨xle1 hrm.2.2.1 (Nat.le_of_ble_eq_true rfl), xle1 hrm.2.2.2 (Nat.le_of_ble_eq_true rfl)⟩ KX_21 rfl hl.1 rfl rfl (Nat.le_of_ble_eq_true rfl) dX1_layItem_8 (fun H locs hW => W.eq (g2 := F0 m 11 ls [.int r1_]) rfl ?_)
  refine lv_istore_n (lv' := [(2, .int r1_), (0, .ref (g.q 23)), (1, .int x1)]) hx hb dX1_layItem_11 rfl hl (Nat.le_of_ble_eq_true rfl) rfl (fun ls hl => ?_)
  refine lv_aload_n hx hb dX1_layItem_12 rfl (lv_at hl 1 rfl) ?_
  refine lv_dup hx hb dX1_layItem_13 rfl ?_
  refine xg_i C hW fg_1_62 KX_23 rfl (v := 5614) rfl (x := σ.1 5614 0) rfl dX1_layItem_14 ?_
  refine lv_iconst (v := 1) hx hb dX1_layItem_17 rfl ?_
  refine lv_iadd hx hb dX1_layItem_18 ?_
  refine xp_i C hW fp_1_62 KX_23 rfl (v := 5614) rfl rfl rfl dX1_layItem_19 (fun H locs hW => ?_)
  refine lv_iload_n hx hb dX1_layItem_22 rfl (lv_at hl 0 rfl) ?_
  refine lv_if_lt (tgt := 32) hx hb dX1_layItem_23 (by decide) (fun c2 => ?_) (fun c2 => ?_)
  · have h := xit c2 h
    refine lv_iload_n hx hb dX1_layItem_32 rfl (lv_at hl 2 rfl) ?_
    refine lv_iconst (v := 4) hx hb dX1_layItem_33 rfl ?_
    refine lv_icmp_lt (tgt := 39) hx hb dX1_layItem_34 (by decide) (fun c3 => ?_) (fun c3 => ?_)
    · have h := xit c3 h
      refine lv_aload_n hx hb dX1_layItem_39 rfl (lv_at hl 1 rfl) ?_
      refine lv_iload_n hx hb dX1_layItem_40 rfl (lv_at hl 2 rfl) ?_
      refine lv_iconst (v := 1) hx hb dX1_layItem_41 rfl ?_
      refine lv_iadd hx hb dX1_layItem_42 ?_
      obtain ⟨r4_, σ4, e4, h⟩ := xbd h
      refine xc_V (As := [.int (x1 + 1)]) (rest := []) C hW (hH (x1 + 1) _ e4) mf_X1_layBeside mv_X1_layBeside ml_X1_68 ⟨hrm.1, hrm.2.1⟩ ⟨by simp only [xrm]; omega, by simp only [xrm]; omega⟩ KX_23 rfl hl.1 rfl rfl (Nat.le_of_ble_eq_true rfl) dX1_layItem_43 (fun H locs hW => W.eq (g2 := F0 m 46 ls [.int r4_]) rfl ?_)
      refine lv_istore_n (lv' := [(3, .int r4_), (2, .int r1_), (0, .ref (g.q 23)), (1, .int x1)]) hx hb dX1_layItem_46 rfl hl (Nat.le_of_ble_eq_true rfl) rfl (fun ls hl => ?_)
      refine lv_aload_n hx hb dX1_layItem_47 rfl (lv_at hl 2 rfl) ?_
      refine lv_dup hx hb dX1_layItem_48 rfl ?_
      refine xg_i C hW fg_1_62 KX_23 rfl (v := 5614) rfl (x := σ4.1 5614 0) rfl dX1_layItem_49 ?_
      refine lv_iconst (v := 1) hx hb dX1_layItem_52 rfl ?_
      refine lv_iadd hx hb dX1_layItem_53 ?_
      refine xp_i C hW fp_1_62 KX_23 rfl (v := 5614) rfl rfl rfl dX1_layItem_54 (fun H locs hW => ?_)
      refine lv_iload_n hx hb dX1_layItem_57 rfl (lv_at hl 0 rfl) ?_
      cases h
      exact xr_i C hW dX1_layItem_58
    · have h := xif c3 h
      refine lv_iconst (v := 0) hx hb dX1_layItem_37 rfl ?_
      cases h
      exact xr_i C hW dX1_layItem_38
  · have h := xif c2 h
    refine lv_aload_n hx hb dX1_layItem_26 rfl (lv_at hl 1 rfl) ?_
    refine lv_iload_n hx hb dX1_layItem_27 rfl (lv_at hl 0 rfl) ?_
    obtain ⟨r5_, σ5, e5, h⟩ := xbd h
    refine xc_V (As := [.int r1_]) (rest := []) C hW (m_X1_layWithInner r1_ _ e5) mf_X1_layWithInner mv_X1_layWithInner ml_X1_89 ⟨rfl, rfl⟩ ⟨xle1 hrm.2.2.1 (Nat.le_of_ble_eq_true rfl), xle1 hrm.2.2.2 (Nat.le_of_ble_eq_true rfl)⟩ KX_23 rfl hl.1 rfl rfl (Nat.le_of_ble_eq_true rfl) dX1_layItem_28 (fun H locs hW => W.eq (g2 := F0 m 31 ls [.int r5_]) rfl ?_)
    cases h
    exact xr_i C hW dX1_layItem_31
end
theorem dX1_layOver_0 : decode cX1_layOver 0 = .ok (.aload_n 0, 1) := by decide +kernel
theorem dX1_layOver_1 : decode cX1_layOver 1 = .ok (.getfield 59, 3) := by decide +kernel
theorem dX1_layOver_4 : decode cX1_layOver 4 = .ok (.istore_n 2, 1) := by decide +kernel
theorem dX1_layOver_5 : decode cX1_layOver 5 = .ok (.iconst 0, 1) := by decide +kernel
theorem dX1_layOver_6 : decode cX1_layOver 6 = .ok (.istore_n 3, 1) := by decide +kernel
theorem dX1_layOver_7 : decode cX1_layOver 7 = .ok (.iload_n 3, 1) := by decide +kernel
theorem dX1_layOver_8 : decode cX1_layOver 8 = .ok (.bipush 24, 2) := by decide +kernel
theorem dX1_layOver_10 : decode cX1_layOver 10 = .ok (.if_icmp .ge 55, 3) := by decide +kernel
theorem dX1_layOver_13 : decode cX1_layOver 13 = .ok (.aload_n 0, 1) := by decide +kernel
theorem dX1_layOver_14 : decode cX1_layOver 14 = .ok (.getfield 53, 3) := by decide +kernel
theorem dX1_layOver_17 : decode cX1_layOver 17 = .ok (.istore 4, 2) := by decide +kernel
theorem dX1_layOver_19 : decode cX1_layOver 19 = .ok (.aload_n 0, 1) := by decide +kernel
theorem dX1_layOver_20 : decode cX1_layOver 20 = .ok (.iload 4, 2) := by decide +kernel
theorem dX1_layOver_22 : decode cX1_layOver 22 = .ok (.aload_n 0, 1) := by decide +kernel
theorem dX1_layOver_23 : decode cX1_layOver 23 = .ok (.iload_n 1, 1) := by decide +kernel
theorem dX1_layOver_24 : decode cX1_layOver 24 = .ok (.invokevirtual 86, 3) := by decide +kernel
theorem dX1_layOver_27 : decode cX1_layOver 27 = .ok (.invokevirtual 75, 3) := by decide +kernel
theorem dX1_layOver_30 : decode cX1_layOver 30 = .ok (.aload_n 0, 1) := by decide +kernel
theorem dX1_layOver_31 : decode cX1_layOver 31 = .ok (.getfield 45, 3) := by decide +kernel
theorem dX1_layOver_34 : decode cX1_layOver 34 = .ok (.aload_n 0, 1) := by decide +kernel
theorem dX1_layOver_35 : decode cX1_layOver 35 = .ok (.getfield 62, 3) := by decide +kernel
theorem dX1_layOver_38 : decode cX1_layOver 38 = .ok (.invokevirtual 79, 3) := by decide +kernel
theorem dX1_layOver_41 : decode cX1_layOver 41 = .ok (.bipush (-58), 2) := by decide +kernel
theorem dX1_layOver_43 : decode cX1_layOver 43 = .ok (.if_icmp .eq 6, 3) := by decide +kernel
theorem dX1_layOver_46 : decode cX1_layOver 46 = .ok (.goto 19, 3) := by decide +kernel
theorem dX1_layOver_49 : decode cX1_layOver 49 = .ok (.aload_n 0, 1) := by decide +kernel
theorem dX1_layOver_50 : decode cX1_layOver 50 = .ok (.dup, 1) := by decide +kernel
theorem dX1_layOver_51 : decode cX1_layOver 51 = .ok (.getfield 62, 3) := by decide +kernel
theorem dX1_layOver_54 : decode cX1_layOver 54 = .ok (.iconst 1, 1) := by decide +kernel
theorem dX1_layOver_55 : decode cX1_layOver 55 = .ok (.iadd, 1) := by decide +kernel
theorem dX1_layOver_56 : decode cX1_layOver 56 = .ok (.putfield 62, 3) := by decide +kernel
theorem dX1_layOver_59 : decode cX1_layOver 59 = .ok (.iinc 3 1, 3) := by decide +kernel
theorem dX1_layOver_62 : decode cX1_layOver 62 = .ok (.goto (-55), 3) := by decide +kernel
theorem dX1_layOver_65 : decode cX1_layOver 65 = .ok (.aload_n 0, 1) := by decide +kernel
theorem dX1_layOver_66 : decode cX1_layOver 66 = .ok (.iload_n 2, 1) := by decide +kernel
theorem dX1_layOver_67 : decode cX1_layOver 67 = .ok (.iconst 0, 1) := by decide +kernel
theorem dX1_layOver_68 : decode cX1_layOver 68 = .ok (.invokevirtual 82, 3) := by decide +kernel
theorem dX1_layOver_71 : decode cX1_layOver 71 = .ok (.ireturn, 1) := by decide +kernel
def f_X1_layOver_65 (N : Nat) (hd : Int32 → St → Option (Int32 × St)) (x2 : Int32) (σ : St) : Option (Int32 × St) := bd (f_X1_settle N x2 0 σ) (fun r6_ σ6 => some (r6_, σ6))
def f_X1_layOver_7 (N : Nat) (hd : Int32 → St → Option (Int32 × St)) : Nat → Int32 → Int32 → Int32 → St → Option (Int32 × St)
  | 0, _, _, _, _ => none
  | n + 1, x1, x2, x3, σ => (if 24 ≤ x3 then f_X1_layOver_65 N hd x2 σ else bd (f_X1_layItem N hd x1 σ) (fun r2_ σ2 => bo (f_X1_waitWith (σ.1 5605 0) r2_ σ2) (fun σ3 => bo (f_X0_codeAt (σ3.1 5614 0) σ3) (fun r4_ => (if r4_ = ((-58)) then f_X1_layOver_7 N hd n x1 x2 (x3 + 1) (si σ3 5614 0 ((σ3.1 5614 0) + 1)) else f_X1_layOver_65 N hd x2 σ3)))))
def f_X1_layOver (N : Nat) (hd : Int32 → St → Option (Int32 × St)) (x1 : Int32) (σ : St) : Option (Int32 × St) := f_X1_layOver_7 N hd N x1 (σ.1 5613 0) 0 σ
section
variable {p : Program} {l : Launch} {e : Env} {s : State} {m : MethodId} {args : Array Value} {below : List Frame} {meth : Method} {c : Code} {g : XG}
set_option maxRecDepth 4000 in
theorem w_X1_layOver_65 (N : Nat) (hd : Int32 → St → Option (Int32 × St)) (rmH : Room) (hrm : rmH.cells = 0 ∧ rmH.slots = 0 ∧ 3 ≤ rmH.frames ∧ 89 ≤ rmH.locals) (hH : ∀ (a0 : Int32) (σ : St) {r : Int32} {σ' : St}, hd a0 σ = some (r, σ') → xM l KX g yX1_layBeside cX1_layBeside 5 (some .int) rmH [.ref (g.q 23), .int a0] σ (some (.int r)) σ') {r : Int32} {σ' : St} (C : xC KX g RX1 cX1_layOver 5 (some .int) p s m args meth c) : ∀ (x2 : Int32) (σ : St) (H : Heap) (locs : List Loc) (ls : Array Slot), xW KX g s σ H locs → lv_has ls 5 [(0, .ref (g.q 23)), (2, .int x2)] → f_X1_layOver_65 N hd x2 σ = some (r, σ') → W p l e (xrm rmH 2 47) s m args below meth c H locs 0 0 (MQ below (xPost KX g (some (.int r)) σ') args s 0 0 (xA KX g.q)) (F0 m 65 ls []) := by
  have hx := C.1
  have hb := C.2.1
  intro x2 σ H locs ls hW hl h
  unfold f_X1_layOver_65 at h
  refine lv_aload_n hx hb dX1_layOver_65 rfl (lv_at hl 0 rfl) ?_
  refine lv_iload_n hx hb dX1_layOver_66 rfl (lv_at hl 1 rfl) ?_
  refine lv_iconst (v := 0) hx hb dX1_layOver_67 rfl ?_
  obtain ⟨r6_, σ6, e6, h⟩ := xbd h
  refine xc_V (As := [.int x2, .int 0]) (rest := []) C hW (m_X1_settle N x2 0 _ e6) mf_X1_settle mv_X1_settle ml_X1_82 ⟨rfl, rfl⟩ ⟨xle1 hrm.2.2.1 (Nat.le_of_ble_eq_true rfl), xle1 hrm.2.2.2 (Nat.le_of_ble_eq_true rfl)⟩ KX_23 rfl hl.1 rfl rfl (Nat.le_of_ble_eq_true rfl) dX1_layOver_68 (fun H locs hW => W.eq (g2 := F0 m 71 ls [.int r6_]) rfl ?_)
  cases h
  exact xr_i C hW dX1_layOver_71
set_option maxRecDepth 4000 in
theorem w_X1_layOver_7 (N : Nat) (hd : Int32 → St → Option (Int32 × St)) (rmH : Room) (hrm : rmH.cells = 0 ∧ rmH.slots = 0 ∧ 3 ≤ rmH.frames ∧ 89 ≤ rmH.locals) (hH : ∀ (a0 : Int32) (σ : St) {r : Int32} {σ' : St}, hd a0 σ = some (r, σ') → xM l KX g yX1_layBeside cX1_layBeside 5 (some .int) rmH [.ref (g.q 23), .int a0] σ (some (.int r)) σ') {r : Int32} {σ' : St} (C : xC KX g RX1 cX1_layOver 5 (some .int) p s m args meth c) : ∀ (n : Nat), ∀ (x1 : Int32) (x2 : Int32) (x3 : Int32) (σ : St) (H : Heap) (locs : List Loc) (ls : Array Slot), xW KX g s σ H locs → lv_has ls 5 [(0, .ref (g.q 23)), (1, .int x1), (2, .int x2), (3, .int x3)] → f_X1_layOver_7 N hd n x1 x2 x3 σ = some (r, σ') → W p l e (xrm rmH 2 47) s m args below meth c H locs 0 0 (MQ below (xPost KX g (some (.int r)) σ') args s 0 0 (xA KX g.q)) (F0 m 7 ls []) := by
  have hx := C.1
  have hb := C.2.1
  intro n
  induction n with
  | zero => intro x1 x2 x3 σ H locs ls hW hl h; rw [f_X1_layOver_7] at h; cases h
  | succ n ih =>
    intro x1 x2 x3 σ H locs ls hW hl h
    rw [f_X1_layOver_7] at h
    refine lv_iload_n hx hb dX1_layOver_7 rfl (lv_at hl 3 rfl) ?_
    refine lv_bipush (v := 24) hx hb dX1_layOver_8 rfl ?_
    refine lv_icmp_ge (tgt := 65) hx hb dX1_layOver_10 (by decide) (fun c1 => ?_) (fun c1 => ?_)
    · have h := xit c1 h
      exact w_X1_layOver_65 N hd rmH hrm hH C x2 _ _ _ _ hW (lv_sub hl [0, 2] rfl) h
    · have h := xif c1 h
      refine lv_aload_n hx hb dX1_layOver_13 rfl (lv_at hl 0 rfl) ?_
      refine xg_i C hW fg_1_53 KX_23 rfl (v := 5605) rfl (x := σ.1 5605 0) rfl dX1_layOver_14 ?_
      refine lv_istore (lv' := [(4, .int (σ.1 5605 0)), (0, .ref (g.q 23)), (1, .int x1), (2, .int x2), (3, .int x3)]) hx hb dX1_layOver_17 hl (Nat.le_of_ble_eq_true rfl) rfl (fun ls hl => ?_)
      refine lv_aload_n hx hb dX1_layOver_19 rfl (lv_at hl 1 rfl) ?_
      refine lv_iload hx hb dX1_layOver_20 (lv_at hl 0 rfl) ?_
      refine lv_aload_n hx hb dX1_layOver_22 rfl (lv_at hl 1 rfl) ?_
      refine lv_iload_n hx hb dX1_layOver_23 rfl (lv_at hl 2 rfl) ?_
      obtain ⟨r2_, σ2, e2, h⟩ := xbd h
      refine xc_V (As := [.int x1]) (rest := [.int (σ.1 5605 0), .ref (g.q 23)]) C hW (m_X1_layItem N hd rmH hrm hH x1 _ e2) mf_X1_layItem mv_X1_layItem ml_X1_86 ⟨rfl, rfl⟩ ⟨by simp only [xrm]; omega, by simp only [xrm]; omega⟩ KX_23 rfl hl.1 rfl rfl (Nat.le_of_ble_eq_true rfl) dX1_layOver_24 (fun H locs hW => W.eq (g2 := F0 m 27 ls [.int r2_, .int (σ.1 5605 0), .ref (g.q 23)]) rfl ?_)
      obtain ⟨σ3, e3, h⟩ := xbo h
      refine xc_V (As := [.int (σ.1 5605 0), .int r2_]) (rest := []) C hW (m_X1_waitWith (σ.1 5605 0) r2_ _ e3) mf_X1_waitWith mv_X1_waitWith ml_X1_75 ⟨rfl, rfl⟩ ⟨xle1 hrm.2.2.1 (Nat.le_of_ble_eq_true rfl), xle1 hrm.2.2.2 (Nat.le_of_ble_eq_true rfl)⟩ KX_23 rfl hl.1 rfl rfl (Nat.le_of_ble_eq_true rfl) dX1_layOver_27 (fun H locs hW => W.eq (g2 := F0 m 30 ls []) rfl ?_)
      refine lv_aload_n hx hb dX1_layOver_30 rfl (lv_at hl 1 rfl) ?_
      refine xg_r C hW fg_1_45 KX_23 rfl dX1_layOver_31 ?_
      refine lv_aload_n hx hb dX1_layOver_34 rfl (lv_at hl 1 rfl) ?_
      refine xg_i C hW fg_1_62 KX_23 rfl (v := 5614) rfl (x := σ3.1 5614 0) rfl dX1_layOver_35 ?_
      obtain ⟨r4_, e4, h⟩ := xbo h
      refine xc_V (As := [.int (σ3.1 5614 0)]) (rest := []) C hW (m_X0_codeAt (σ3.1 5614 0) _ e4) mf_X0_codeAt mv_X0_codeAt ml_X1_79 ⟨rfl, rfl⟩ ⟨xle1 hrm.2.2.1 (Nat.le_of_ble_eq_true rfl), xle1 hrm.2.2.2 (Nat.le_of_ble_eq_true rfl)⟩ KX_21 rfl hl.1 rfl rfl (Nat.le_of_ble_eq_true rfl) dX1_layOver_38 (fun H locs hW => W.eq (g2 := F0 m 41 ls [.int r4_]) rfl ?_)
      refine lv_bipush (v := (-58)) hx hb dX1_layOver_41 rfl ?_
      refine lv_icmp_eq (tgt := 49) hx hb dX1_layOver_43 (by decide) (fun c5 => ?_) (fun c5 => ?_)
      · have h := xit c5 h
        refine lv_aload_n hx hb dX1_layOver_49 rfl (lv_at hl 1 rfl) ?_
        refine lv_dup hx hb dX1_layOver_50 rfl ?_
        refine xg_i C hW fg_1_62 KX_23 rfl (v := 5614) rfl (x := σ3.1 5614 0) rfl dX1_layOver_51 ?_
        refine lv_iconst (v := 1) hx hb dX1_layOver_54 rfl ?_
        refine lv_iadd hx hb dX1_layOver_55 ?_
        refine xp_i C hW fp_1_62 KX_23 rfl (v := 5614) rfl rfl rfl dX1_layOver_56 (fun H locs hW => ?_)
        refine lv_iinc (v := x3 + 1) (lv' := [(3, .int (x3 + 1)), (4, .int (σ.1 5605 0)), (0, .ref (g.q 23)), (1, .int x1), (2, .int x2)]) hx hb dX1_layOver_59 hl (k := 4) rfl rfl (Nat.le_of_ble_eq_true rfl) rfl (fun ls hl => ?_)
        refine lv_goto (tgt := 7) hx hb dX1_layOver_62 (by decide) ?_
        exact ih x1 x2 (x3 + 1) _ _ _ _ hW (lv_sub hl [2, 3, 4, 0] rfl) h
      · have h := xif c5 h
        refine lv_goto (tgt := 65) hx hb dX1_layOver_46 (by decide) ?_
        exact w_X1_layOver_65 N hd rmH hrm hH C x2 _ _ _ _ hW (lv_sub hl [1, 3] rfl) h
set_option maxRecDepth 4000 in
theorem m_X1_layOver (N : Nat) (hd : Int32 → St → Option (Int32 × St)) (rmH : Room) (hrm : rmH.cells = 0 ∧ rmH.slots = 0 ∧ 3 ≤ rmH.frames ∧ 89 ≤ rmH.locals) (hH : ∀ (a0 : Int32) (σ : St) {r : Int32} {σ' : St}, hd a0 σ = some (r, σ') → xM l KX g yX1_layBeside cX1_layBeside 5 (some .int) rmH [.ref (g.q 23), .int a0] σ (some (.int r)) σ') (x1 : Int32) (σ : St) {r : Int32} {σ' : St} (h : f_X1_layOver N hd x1 σ = some (r, σ')) : xM l KX g yX1_layOver cX1_layOver 5 (some .int) (xrm rmH 2 47) [.ref (g.q 23), .int x1] σ (some (.int r)) σ' := by
  refine xmet pn_X1 rfl (Nat.le_of_ble_eq_true rfl) (lv := [(0, .ref (g.q 23)), (1, .int x1)]) rfl (fun p e s m args below meth c ls C hW hl => ?_)
  have hx := C.1
  have hb := C.2.1
  unfold f_X1_layOver at h
  refine lv_aload_n hx hb dX1_layOver_0 rfl (lv_at hl 0 rfl) ?_
  refine xg_i C hW fg_1_59 KX_23 rfl (v := 5613) rfl (x := σ.1 5613 0) rfl dX1_layOver_1 ?_
  refine lv_istore_n (lv' := [(2, .int (σ.1 5613 0)), (0, .ref (g.q 23)), (1, .int x1)]) hx hb dX1_layOver_4 rfl hl (Nat.le_of_ble_eq_true rfl) rfl (fun ls hl => ?_)
  refine lv_iconst (v := 0) hx hb dX1_layOver_5 rfl ?_
  refine lv_istore_n (lv' := [(3, .int 0), (2, .int (σ.1 5613 0)), (0, .ref (g.q 23)), (1, .int x1)]) hx hb dX1_layOver_6 rfl hl (Nat.le_of_ble_eq_true rfl) rfl (fun ls hl => ?_)
  exact w_X1_layOver_7 N hd rmH hrm hH C N x1 (σ.1 5613 0) 0 _ _ _ _ hW (lv_sub hl [2, 3, 1, 0] rfl) h
end
