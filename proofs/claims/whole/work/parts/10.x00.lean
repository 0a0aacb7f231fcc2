theorem dX0_isWhole_0 : decode cX0_isWhole 0 = .ok (.aload_n 0, 1) := by decide +kernel
theorem dX0_isWhole_1 : decode cX0_isWhole 1 = .ok (.getfield 23, 3) := by decide +kernel
theorem dX0_isWhole_4 : decode cX0_isWhole 4 = .ok (.iconst 3, 1) := by decide +kernel
theorem dX0_isWhole_5 : decode cX0_isWhole 5 = .ok (.if_icmp .eq 11, 3) := by decide +kernel
theorem dX0_isWhole_8 : decode cX0_isWhole 8 = .ok (.aload_n 0, 1) := by decide +kernel
theorem dX0_isWhole_9 : decode cX0_isWhole 9 = .ok (.getfield 23, 3) := by decide +kernel
theorem dX0_isWhole_12 : decode cX0_isWhole 12 = .ok (.iconst 4, 1) := by decide +kernel
theorem dX0_isWhole_13 : decode cX0_isWhole 13 = .ok (.if_icmp .ne 7, 3) := by decide +kernel
theorem dX0_isWhole_16 : decode cX0_isWhole 16 = .ok (.iconst 1, 1) := by decide +kernel
theorem dX0_isWhole_17 : decode cX0_isWhole 17 = .ok (.goto 4, 3) := by decide +kernel
theorem dX0_isWhole_20 : decode cX0_isWhole 20 = .ok (.iconst 0, 1) := by decide +kernel
theorem dX0_isWhole_21 : decode cX0_isWhole 21 = .ok (.ireturn, 1) := by decide +kernel
abbrev rm_X0_isWhole : Room := { frames := 0, cells := 0, slots := 0, locals := 0 }
def f_X0_isWhole (σ : St) : Int32 := (if (σ.1 5203 0) = 3 then 1 else (if (σ.1 5203 0) = 4 then 1 else 0))
section
variable {p : Program} {l : Launch} {e : Env} {s : State} {m : MethodId} {args : Array Value} {below : List Frame} {meth : Method} {c : Code} {g : XG}
set_option maxRecDepth 4000 in
theorem m_X0_isWhole (σ : St) {r : Int32} (h : f_X0_isWhole σ = r) : xM l KX g yX0_isWhole cX0_isWhole 1 (some .boolean) rm_X0_isWhole [.ref (g.q 21)] σ (some (.int r)) σ := by
  refine xmet pn_X0 rfl (Nat.le_of_ble_eq_true rfl) (lv := [(0, .ref (g.q 21))]) rfl (fun p e s m args below meth c ls C hW hl => ?_)
  have hx := C.1
  have hb := C.2.1
  unfold f_X0_isWhole at h
  refine lv_aload_n hx hb dX0_isWhole_0 rfl (lv_at hl 0 rfl) ?_
  refine xg_i C hW fg_0_23 KX_21 rfl (v := 5203) rfl (x := σ.1 5203 0) rfl dX0_isWhole_1 ?_
  refine lv_iconst (v := 3) hx hb dX0_isWhole_4 rfl ?_
  refine lv_icmp_eq (tgt := 16) hx hb dX0_isWhole_5 (by decide) (fun c1 => ?_) (fun c1 => ?_)
  · have h := xit c1 h
    refine lv_iconst (v := 1) hx hb dX0_isWhole_16 rfl ?_
    refine lv_goto (tgt := 21) hx hb dX0_isWhole_17 (by decide) ?_
    cases h
    exact xr_z C hW (by decide) dX0_isWhole_21
  · have h := xif c1 h
    refine lv_aload_n hx hb dX0_isWhole_8 rfl (lv_at hl 0 rfl) ?_
    refine xg_i C hW fg_0_23 KX_21 rfl (v := 5203) rfl (x := σ.1 5203 0) rfl dX0_isWhole_9 ?_
    refine lv_iconst (v := 4) hx hb dX0_isWhole_12 rfl ?_
    refine lv_icmp_ne (tgt := 20) hx hb dX0_isWhole_13 (by decide) (fun c2 => ?_) (fun c2 => ?_)
    · have h := xif c2 h
      refine lv_iconst (v := 0) hx hb dX0_isWhole_20 rfl ?_
      cases h
      exact xr_z C hW (by decide) dX0_isWhole_21
    · have h := xit c2 h
      refine lv_iconst (v := 1) hx hb dX0_isWhole_16 rfl ?_
      refine lv_goto (tgt := 21) hx hb dX0_isWhole_17 (by decide) ?_
      cases h
      exact xr_z C hW (by decide) dX0_isWhole_21
end
theorem dX0_wantsItem_0 : decode cX0_wantsItem 0 = .ok (.aload_n 0, 1) := by decide +kernel
theorem dX0_wantsItem_1 : decode cX0_wantsItem 1 = .ok (.getfield 23, 3) := by decide +kernel
theorem dX0_wantsItem_4 : decode cX0_wantsItem 4 = .ok (.ifCond .eq 11, 3) := by decide +kernel
theorem dX0_wantsItem_7 : decode cX0_wantsItem 7 = .ok (.aload_n 0, 1) := by decide +kernel
theorem dX0_wantsItem_8 : decode cX0_wantsItem 8 = .ok (.getfield 23, 3) := by decide +kernel
theorem dX0_wantsItem_11 : decode cX0_wantsItem 11 = .ok (.iconst 1, 1) := by decide +kernel
theorem dX0_wantsItem_12 : decode cX0_wantsItem 12 = .ok (.if_icmp .ne 7, 3) := by decide +kernel
theorem dX0_wantsItem_15 : decode cX0_wantsItem 15 = .ok (.iconst 1, 1) := by decide +kernel
theorem dX0_wantsItem_16 : decode cX0_wantsItem 16 = .ok (.goto 4, 3) := by decide +kernel
theorem dX0_wantsItem_19 : decode cX0_wantsItem 19 = .ok (.iconst 0, 1) := by decide +kernel
theorem dX0_wantsItem_20 : decode cX0_wantsItem 20 = .ok (.ireturn, 1) := by decide +kernel
abbrev rm_X0_wantsItem : Room := { frames := 0, cells := 0, slots := 0, locals := 0 }
def f_X0_wantsItem (σ : St) : Int32 := (if (σ.1 5203 0) = 0 then 1 else (if (σ.1 5203 0) = 1 then 1 else 0))
section
variable {p : Program} {l : Launch} {e : Env} {s : State} {m : MethodId} {args : Array Value} {below : List Frame} {meth : Method} {c : Code} {g : XG}
set_option maxRecDepth 4000 in
theorem m_X0_wantsItem (σ : St) {r : Int32} (h : f_X0_wantsItem σ = r) : xM l KX g yX0_wantsItem cX0_wantsItem 1 (some .boolean) rm_X0_wantsItem [.ref (g.q 21)] σ (some (.int r)) σ := by
  refine xmet pn_X0 rfl (Nat.le_of_ble_eq_true rfl) (lv := [(0, .ref (g.q 21))]) rfl (fun p e s m args below meth c ls C hW hl => ?_)
  have hx := C.1
  have hb := C.2.1
  unfold f_X0_wantsItem at h
  refine lv_aload_n hx hb dX0_wantsItem_0 rfl (lv_at hl 0 rfl) ?_
  refine xg_i C hW fg_0_23 KX_21 rfl (v := 5203) rfl (x := σ.1 5203 0) rfl dX0_wantsItem_1 ?_
  refine lv_if_eq (tgt := 15) hx hb dX0_wantsItem_4 (by decide) (fun c1 => ?_) (fun c1 => ?_)
  · have h := xit c1 h
    refine lv_iconst (v := 1) hx hb dX0_wantsItem_15 rfl ?_
    refine lv_goto (tgt := 20) hx hb dX0_wantsItem_16 (by decide) ?_
    cases h
    exact xr_z C hW (by decide) dX0_wantsItem_20
  · have h := xif c1 h
    refine lv_aload_n hx hb dX0_wantsItem_7 rfl (lv_at hl 0 rfl) ?_
    refine xg_i C hW fg_0_23 KX_21 rfl (v := 5203) rfl (x := σ.1 5203 0) rfl dX0_wantsItem_8 ?_
    refine lv_iconst (v := 1) hx hb dX0_wantsItem_11 rfl ?_
    refine lv_icmp_ne (tgt := 19) hx hb dX0_wantsItem_12 (by decide) (fun c2 => ?_) (fun c2 => ?_)
    · have h := xif c2 h
      refine lv_iconst (v := 0) hx hb dX0_wantsItem_19 rfl ?_
      cases h
      exact xr_z C hW (by decide) dX0_wantsItem_20
    · have h := xit c2 h
      refine lv_iconst (v := 1) hx hb dX0_wantsItem_15 rfl ?_
      refine lv_goto (tgt := 20) hx hb dX0_wantsItem_16 (by decide) ?_
      cases h
      exact xr_z C hW (by decide) dX0_wantsItem_20
end
theorem dX0_goesOn_0 : decode cX0_goesOn 0 = .ok (.iload_n 1, 1) := by decide +kernel
theorem dX0_goesOn_1 : decode cX0_goesOn 1 = .ok (.lookupswitch 123 #[(38, 104), (40, 59), (41, 64), (42, 118), (45, 84), (58, 118)], 59) := by decide +kernel
theorem dX0_goesOn_60 : decode cX0_goesOn 60 = .ok (.aload_n 0, 1) := by decide +kernel
theorem dX0_goesOn_61 : decode cX0_goesOn 61 = .ok (.invokevirtual 70, 3) := by decide +kernel
theorem dX0_goesOn_64 : decode cX0_goesOn 64 = .ok (.ireturn, 1) := by decide +kernel
theorem dX0_goesOn_65 : decode cX0_goesOn 65 = .ok (.aload_n 0, 1) := by decide +kernel
theorem dX0_goesOn_66 : decode cX0_goesOn 66 = .ok (.invokevirtual 43, 3) := by decide +kernel
theorem dX0_goesOn_69 : decode cX0_goesOn 69 = .ok (.ifCond .eq 14, 3) := by decide +kernel
theorem dX0_goesOn_72 : decode cX0_goesOn 72 = .ok (.aload_n 0, 1) := by decide +kernel
theorem dX0_goesOn_73 : decode cX0_goesOn 73 = .ok (.getfield 26, 3) := by decide +kernel
theorem dX0_goesOn_76 : decode cX0_goesOn 76 = .ok (.ifCond .le 7, 3) := by decide +kernel
theorem dX0_goesOn_79 : decode cX0_goesOn 79 = .ok (.iconst 1, 1) := by decide +kernel
theorem dX0_goesOn_80 : decode cX0_goesOn 80 = .ok (.goto 4, 3) := by decide +kernel
theorem dX0_goesOn_83 : decode cX0_goesOn 83 = .ok (.iconst 0, 1) := by decide +kernel
theorem dX0_goesOn_84 : decode cX0_goesOn 84 = .ok (.ireturn, 1) := by decide +kernel
theorem dX0_goesOn_85 : decode cX0_goesOn 85 = .ok (.aload_n 0, 1) := by decide +kernel
theorem dX0_goesOn_86 : decode cX0_goesOn 86 = .ok (.invokevirtual 43, 3) := by decide +kernel
theorem dX0_goesOn_89 : decode cX0_goesOn 89 = .ok (.ifCond .eq 14, 3) := by decide +kernel
theorem dX0_goesOn_92 : decode cX0_goesOn 92 = .ok (.aload_n 0, 1) := by decide +kernel
theorem dX0_goesOn_93 : decode cX0_goesOn 93 = .ok (.getfield 26, 3) := by decide +kernel
theorem dX0_goesOn_96 : decode cX0_goesOn 96 = .ok (.ifCond .ne 7, 3) := by decide +kernel
theorem dX0_goesOn_99 : decode cX0_goesOn 99 = .ok (.iconst 1, 1) := by decide +kernel
theorem dX0_goesOn_100 : decode cX0_goesOn 100 = .ok (.goto 4, 3) := by decide +kernel
theorem dX0_goesOn_103 : decode cX0_goesOn 103 = .ok (.iconst 0, 1) := by decide +kernel
theorem dX0_goesOn_104 : decode cX0_goesOn 104 = .ok (.ireturn, 1) := by decide +kernel
theorem dX0_goesOn_105 : decode cX0_goesOn 105 = .ok (.aload_n 0, 1) := by decide +kernel
theorem dX0_goesOn_106 : decode cX0_goesOn 106 = .ok (.getfield 23, 3) := by decide +kernel
theorem dX0_goesOn_109 : decode cX0_goesOn 109 = .ok (.iconst 3, 1) := by decide +kernel
theorem dX0_goesOn_110 : decode cX0_goesOn 110 = .ok (.if_icmp .ne 7, 3) := by decide +kernel
theorem dX0_goesOn_113 : decode cX0_goesOn 113 = .ok (.iconst 1, 1) := by decide +kernel
theorem dX0_goesOn_114 : decode cX0_goesOn 114 = .ok (.goto 4, 3) := by decide +kernel
theorem dX0_goesOn_117 : decode cX0_goesOn 117 = .ok (.iconst 0, 1) := by decide +kernel
theorem dX0_goesOn_118 : decode cX0_goesOn 118 = .ok (.ireturn, 1) := by decide +kernel
theorem dX0_goesOn_119 : decode cX0_goesOn 119 = .ok (.aload_n 0, 1) := by decide +kernel
theorem dX0_goesOn_120 : decode cX0_goesOn 120 = .ok (.invokevirtual 43, 3) := by decide +kernel
theorem dX0_goesOn_123 : decode cX0_goesOn 123 = .ok (.ireturn, 1) := by decide +kernel
theorem dX0_goesOn_124 : decode cX0_goesOn 124 = .ok (.iconst 0, 1) := by decide +kernel
theorem dX0_goesOn_125 : decode cX0_goesOn 125 = .ok (.ireturn, 1) := by decide +kernel
abbrev rm_X0_goesOn : Room := { frames := 1, cells := 0, slots := 0, locals := 20 }
def f_X0_goesOn (x1 : Int32) (σ : St) : Option Int32 := (if x1 = 38 then (if (σ.1 5203 0) = 3 then some 1 else some 0) else (if x1 = 40 then grd (zbb (f_X0_wantsItem σ)) (some (f_X0_wantsItem σ)) else (if x1 = 41 then (if (f_X0_isWhole σ) = 0 then some 0 else (if (σ.1 5204 0) ≤ 0 then some 0 else some 1)) else (if x1 = 42 then grd (zbb (f_X0_isWhole σ)) (some (f_X0_isWhole σ)) else (if x1 = 45 then (if (f_X0_isWhole σ) = 0 then some 0 else (if (σ.1 5204 0) = 0 then some 1 else some 0)) else (if x1 = 58 then grd (zbb (f_X0_isWhole σ)) (some (f_X0_isWhole σ)) else some 0))))))
section
variable {p : Program} {l : Launch} {e : Env} {s : State} {m : MethodId} {args : Array Value} {below : List Frame} {meth : Method} {c : Code} {g : XG}
set_option maxRecDepth 4000 in
theorem m_X0_goesOn (x1 : Int32) (σ : St) {r : Int32} (h : f_X0_goesOn x1 σ = some r) : xM l KX g yX0_goesOn cX0_goesOn 2 (some .boolean) rm_X0_goesOn [.ref (g.q 21), .int x1] σ (some (.int r)) σ := by
  refine xmet pn_X0 rfl (Nat.le_of_ble_eq_true rfl) (lv := [(0, .ref (g.q 21)), (1, .int x1)]) rfl (fun p e s m args below meth c ls C hW hl => ?_)
  have hx := C.1
  have hb := C.2.1
  unfold f_X0_goesOn at h
  refine lv_iload_n hx hb dX0_goesOn_0 rfl (lv_at hl 1 rfl) ?_
  by_cases c1 : x1 = 38
  · have h := xit c1 h
    refine lv_lookup (off := 104) (tgt := 105) hx hb dX0_goesOn_1 (by decide) (by rw [c1]; rfl) (by decide) ?_
    refine lv_aload_n hx hb dX0_goesOn_105 rfl (lv_at hl 0 rfl) ?_
    refine xg_i C hW fg_0_23 KX_21 rfl (v := 5203) rfl (x := σ.1 5203 0) rfl dX0_goesOn_106 ?_
    refine lv_iconst (v := 3) hx hb dX0_goesOn_109 rfl ?_
    refine lv_icmp_ne (tgt := 117) hx hb dX0_goesOn_110 (by decide) (fun c2 => ?_) (fun c2 => ?_)
    · have h := xif c2 h
      refine lv_iconst (v := 0) hx hb dX0_goesOn_117 rfl ?_
      cases h
      exact xr_z C hW (by decide) dX0_goesOn_118
    · have h := xit c2 h
      refine lv_iconst (v := 1) hx hb dX0_goesOn_113 rfl ?_
      refine lv_goto (tgt := 118) hx hb dX0_goesOn_114 (by decide) ?_
      cases h
      exact xr_z C hW (by decide) dX0_goesOn_118
  · have h := xif c1 h
    by_cases c3 : x1 = 40
    · have h := xit c3 h
      refine lv_lookup (off := 59) (tgt := 60) hx hb dX0_goesOn_1 (by decide) (by rw [c3]; rfl) (by decide) ?_
      refine lv_aload_n hx hb dX0_goesOn_60 rfl (lv_at hl 0 rfl) ?_
      refine xc_V (As := []) (rest := []) C hW (m_X0_wantsItem _ rfl) mf_X0_wantsItem mv_X0_wantsItem ml_X0_70 ⟨rfl, rfl⟩ ⟨Nat.le_of_ble_eq_true rfl, Nat.le_of_ble_eq_true rfl⟩ KX_21 rfl hl.1 rfl rfl (Nat.le_of_ble_eq_true rfl) dX0_goesOn_61 (fun H locs hW => W.eq (g2 := F0 m 64 ls [.int (f_X0_wantsItem σ)]) rfl ?_)
      obtain ⟨g4, h⟩ := xgd h
      cases h
      exact xr_z C hW g4 dX0_goesOn_64
    · have h := xif c3 h
      by_cases c5 : x1 = 41
      · have h := xit c5 h
        refine lv_lookup (off := 64) (tgt := 65) hx hb dX0_goesOn_1 (by decide) (by rw [c5]; rfl) (by decide) ?_
        refine lv_aload_n hx hb dX0_goesOn_65 rfl (lv_at hl 0 rfl) ?_
        refine xc_V (As := []) (rest := []) C hW (m_X0_isWhole _ rfl) mf_X0_isWhole mv_X0_isWhole ml_X0_43 ⟨rfl, rfl⟩ ⟨Nat.le_of_ble_eq_true rfl, Nat.le_of_ble_eq_true rfl⟩ KX_21 rfl hl.1 rfl rfl (Nat.le_of_ble_eq_true rfl) dX0_goesOn_66 (fun H locs hW => W.eq (g2 := F0 m 69 ls [.int (f_X0_isWhole σ)]) rfl ?_)
        refine lv_if_eq (tgt := 83) hx hb dX0_goesOn_69 (by decide) (fun c6 => ?_) (fun c6 => ?_)
        · have h := xit c6 h
          refine lv_iconst (v := 0) hx hb dX0_goesOn_83 rfl ?_
          cases h
          exact xr_z C hW (by decide) dX0_goesOn_84
        · have h := xif c6 h
          refine lv_aload_n hx hb dX0_goesOn_72 rfl (lv_at hl 0 rfl) ?_
          refine xg_i C hW fg_0_26 KX_21 rfl (v := 5204) rfl (x := σ.1 5204 0) rfl dX0_goesOn_73 ?_
          refine lv_if_le (tgt := 83) hx hb dX0_goesOn_76 (by decide) (fun c7 => ?_) (fun c7 => ?_)
          · have h := xit c7 h
            refine lv_iconst (v := 0) hx hb dX0_goesOn_83 rfl ?_
            cases h
            exact xr_z C hW (by decide) dX0_goesOn_84
          · have h := xif c7 h
            refine lv_iconst (v := 1) hx hb dX0_goesOn_79 rfl ?_
            refine lv_goto (tgt := 84) hx hb dX0_goesOn_80 (by decide) ?_
            cases h
            exact xr_z C hW (by decide) dX0_goesOn_84
      · have h := xif c5 h
        by_cases c8 : x1 = 42
        · have h := xit c8 h
          refine lv_lookup (off := 118) (tgt := 119) hx hb dX0_goesOn_1 (by decide) (by rw [c8]; rfl) (by decide) ?_
          refine lv_aload_n hx hb dX0_goesOn_119 rfl (lv_at hl 0 rfl) ?_
          refine xc_V (As := []) (rest := []) C hW (m_X0_isWhole _ rfl) mf_X0_isWhole mv_X0_isWhole ml_X0_43 ⟨rfl, rfl⟩ ⟨Nat.le_of_ble_eq_true rfl, Nat.le_of_ble_eq_true rfl⟩ KX_21 rfl hl.1 rfl rfl (Nat.le_of_ble_eq_true rfl) dX0_goesOn_120 (fun H locs hW => W.eq (g2 := F0 m 123 ls [.int (f_X0_isWhole σ)]) rfl ?_)
          obtain ⟨g9, h⟩ := xgd h
          cases h
          exact xr_z C hW g9 dX0_goesOn_123
        · have h := xif c8 h
          by_cases c10 : x1 = 45
          · have h := xit c10 h
            refine lv_lookup (off := 84) (tgt := 85) hx hb dX0_goesOn_1 (by decide) (by rw [c10]; rfl) (by decide) ?_
            refine lv_aload_n hx hb dX0_goesOn_85 rfl (lv_at hl 0 rfl) ?_
            refine xc_V (As := []) (rest := []) C hW (m_X0_isWhole _ rfl) mf_X0_isWhole mv_X0_isWhole ml_X0_43 ⟨rfl, rfl⟩ ⟨Nat.le_of_ble_eq_true rfl, Nat.le_of_ble_eq_true rfl⟩ KX_21 rfl hl.1 rfl rfl (Nat.le_of_ble_eq_true rfl) dX0_goesOn_86 (fun H locs hW => W.eq (g2 := F0 m 89 ls [.int (f_X0_isWhole σ)]) rfl ?_)
            refine lv_if_eq (tgt := 103) hx hb dX0_goesOn_89 (by decide) (fun c11 => ?_) (fun c11 => ?_)
            · have h := xit c11 h
              refine lv_iconst (v := 0) hx hb dX0_goesOn_103 rfl ?_
              cases h
              exact xr_z C hW (by decide) dX0_goesOn_104
            · have h := xif c11 h
              refine lv_aload_n hx hb dX0_goesOn_92 rfl (lv_at hl 0 rfl) ?_
              refine xg_i C hW fg_0_26 KX_21 rfl (v := 5204) rfl (x := σ.1 5204 0) rfl dX0_goesOn_93 ?_
              refine lv_if_ne (tgt := 103) hx hb dX0_goesOn_96 (by decide) (fun c12 => ?_) (fun c12 => ?_)
              · have h := xif c12 h
                refine lv_iconst (v := 0) hx hb dX0_goesOn_103 rfl ?_
                cases h
                exact xr_z C hW (by decide) dX0_goesOn_104
              · have h := xit c12 h
                refine lv_iconst (v := 1) hx hb dX0_goesOn_99 rfl ?_
                refine lv_goto (tgt := 104) hx hb dX0_goesOn_100 (by decide) ?_
                cases h
                exact xr_z C hW (by decide) dX0_goesOn_104
          · have h := xif c10 h
            by_cases c13 : x1 = 58
            · have h := xit c13 h
              refine lv_lookup (off := 118) (tgt := 119) hx hb dX0_goesOn_1 (by decide) (by rw [c13]; rfl) (by decide) ?_
              refine lv_aload_n hx hb dX0_goesOn_119 rfl (lv_at hl 0 rfl) ?_
              refine xc_V (As := []) (rest := []) C hW (m_X0_isWhole _ rfl) mf_X0_isWhole mv_X0_isWhole ml_X0_43 ⟨rfl, rfl⟩ ⟨Nat.le_of_ble_eq_true rfl, Nat.le_of_ble_eq_true rfl⟩ KX_21 rfl hl.1 rfl rfl (Nat.le_of_ble_eq_true rfl) dX0_goesOn_120 (fun H locs hW => W.eq (g2 := F0 m 123 ls [.int (f_X0_isWhole σ)]) rfl ?_)
              obtain ⟨g14, h⟩ := xgd h
              cases h
              exact xr_z C hW g14 dX0_goesOn_123
            · have h := xif c13 h
              refine lv_lookup (off := 123) (tgt := 124) hx hb dX0_goesOn_1 (by decide) (xlk_out (fun k hk => ?_)) (by decide) ?_
              · rcases (show k = 38 ∨ k = 40 ∨ k = 41 ∨ k = 42 ∨ k = 45 ∨ k = 58 by simpa using hk) with rfl | rfl | rfl | rfl | rfl | rfl
                · exact c1
                · exact c3
                · exact c5
                · exact c8
                · exact c10
                · exact c13
              · refine lv_iconst (v := 0) hx hb dX0_goesOn_124 rfl ?_
                cases h
                exact xr_z C hW (by decide) dX0_goesOn_125
end
theorem dX0_beginBlock_0 : decode cX0_beginBlock 0 = .ok (.aload_n 0, 1) := by decide +kernel
theorem dX0_beginBlock_1 : decode cX0_beginBlock 1 = .ok (.getfield 23, 3) := by decide +kernel
theorem dX0_beginBlock_4 : decode cX0_beginBlock 4 = .ok (.ifCond .eq 5, 3) := by decide +kernel
theorem dX0_beginBlock_7 : decode cX0_beginBlock 7 = .ok (.iconst 1, 1) := by decide +kernel
theorem dX0_beginBlock_8 : decode cX0_beginBlock 8 = .ok (.ireturn, 1) := by decide +kernel
theorem dX0_beginBlock_9 : decode cX0_beginBlock 9 = .ok (.aload_n 0, 1) := by decide +kernel
theorem dX0_beginBlock_10 : decode cX0_beginBlock 10 = .ok (.dup, 1) := by decide +kernel
theorem dX0_beginBlock_11 : decode cX0_beginBlock 11 = .ok (.getfield 29, 3) := by decide +kernel
theorem dX0_beginBlock_14 : decode cX0_beginBlock 14 = .ok (.iconst 1, 1) := by decide +kernel
theorem dX0_beginBlock_15 : decode cX0_beginBlock 15 = .ok (.iadd, 1) := by decide +kernel
theorem dX0_beginBlock_16 : decode cX0_beginBlock 16 = .ok (.putfield 29, 3) := by decide +kernel
theorem dX0_beginBlock_19 : decode cX0_beginBlock 19 = .ok (.aload_n 0, 1) := by decide +kernel
theorem dX0_beginBlock_20 : decode cX0_beginBlock 20 = .ok (.getfield 29, 3) := by decide +kernel
theorem dX0_beginBlock_23 : decode cX0_beginBlock 23 = .ok (.bipush 12, 2) := by decide +kernel
theorem dX0_beginBlock_25 : decode cX0_beginBlock 25 = .ok (.if_icmp .gt 7, 3) := by decide +kernel
theorem dX0_beginBlock_28 : decode cX0_beginBlock 28 = .ok (.iconst 1, 1) := by decide +kernel
theorem dX0_beginBlock_29 : decode cX0_beginBlock 29 = .ok (.goto 4, 3) := by decide +kernel
theorem dX0_beginBlock_32 : decode cX0_beginBlock 32 = .ok (.iconst 0, 1) := by decide +kernel
theorem dX0_beginBlock_33 : decode cX0_beginBlock 33 = .ok (.ireturn, 1) := by decide +kernel
abbrev rm_X0_beginBlock : Room := { frames := 0, cells := 0, slots := 0, locals := 0 }
def f_X0_beginBlock (σ : St) : Option (Int32 × St) := (if (σ.1 5203 0) = 0 then (if 12 < ((σ.1 5205 0) + 1) then some (0, (si σ 5205 0 ((σ.1 5205 0) + 1))) else some (1, (si σ 5205 0 ((σ.1 5205 0) + 1)))) else some (1, σ))
section
variable {p : Program} {l : Launch} {e : Env} {s : State} {m : MethodId} {args : Array Value} {below : List Frame} {meth : Method} {c : Code} {g : XG}
set_option maxRecDepth 4000 in
theorem m_X0_beginBlock (σ : St) {r : Int32} {σ' : St} (h : f_X0_beginBlock σ = some (r, σ')) : xM l KX g yX0_beginBlock cX0_beginBlock 1 (some .boolean) rm_X0_beginBlock [.ref (g.q 21)] σ (some (.int r)) σ' := by
  refine xmet pn_X0 rfl (Nat.le_of_ble_eq_true rfl) (lv := [(0, .ref (g.q 21))]) rfl (fun p e s m args below meth c ls C hW hl => ?_)
  have hx := C.1
  have hb := C.2.1
  unfold f_X0_beginBlock at h
  refine lv_aload_n hx hb dX0_beginBlock_0 rfl (lv_at hl 0 rfl) ?_
  refine xg_i C hW fg_0_23 KX_21 rfl (v := 5203) rfl (x := σ.1 5203 0) rfl dX0_beginBlock_1 ?_
  refine lv_if_eq (tgt := 9) hx hb dX0_beginBlock_4 (by decide) (fun c1 => ?_) (fun c1 => ?_)
  · have h := xit c1 h
    refine lv_aload_n hx hb dX0_beginBlock_9 rfl (lv_at hl 0 rfl) ?_
    refine lv_dup hx hb dX0_beginBlock_10 rfl ?_
    refine xg_i C hW fg_0_29 KX_21 rfl (v := 5205) rfl (x := σ.1 5205 0) rfl dX0_beginBlock_11 ?_
    refine lv_iconst (v := 1) hx hb dX0_beginBlock_14 rfl ?_
    refine lv_iadd hx hb dX0_beginBlock_15 ?_
    refine xp_i C hW fp_0_29 KX_21 rfl (v := 5205) rfl rfl rfl dX0_beginBlock_16 (fun H locs hW => ?_)
    refine lv_aload_n hx hb dX0_beginBlock_19 rfl (lv_at hl 0 rfl) ?_
    refine xg_i C hW fg_0_29 KX_21 rfl (v := 5205) rfl (x := (σ.1 5205 0) + 1) rfl dX0_beginBlock_20 ?_
    refine lv_bipush (v := 12) hx hb dX0_beginBlock_23 rfl ?_
    refine lv_icmp_gt (tgt := 32) hx hb dX0_beginBlock_25 (by decide) (fun c2 => ?_) (fun c2 => ?_)
    · have h := xit c2 h
      refine lv_iconst (v := 0) hx hb dX0_beginBlock_32 rfl ?_
      cases h
      exact xr_z C hW (by decide) dX0_beginBlock_33
    · have h := xif c2 h
      refine lv_iconst (v := 1) hx hb dX0_beginBlock_28 rfl ?_
      refine lv_goto (tgt := 33) hx hb dX0_beginBlock_29 (by decide) ?_
      cases h
      exact xr_z C hW (by decide) dX0_beginBlock_33
  · have h := xif c1 h
    refine lv_iconst (v := 1) hx hb dX0_beginBlock_7 rfl ?_
    cases h
    exact xr_z C hW (by decide) dX0_beginBlock_8
end
theorem dX0_keep_0 : decode cX0_keep 0 = .ok (.aload_n 0, 1) := by decide +kernel
theorem dX0_keep_1 : decode cX0_keep 1 = .ok (.getfield 19, 3) := by decide +kernel
theorem dX0_keep_4 : decode cX0_keep 4 = .ok (.sipush 240, 3) := by decide +kernel
theorem dX0_keep_7 : decode cX0_keep 7 = .ok (.if_icmp .ge 23, 3) := by decide +kernel
theorem dX0_keep_10 : decode cX0_keep 10 = .ok (.aload_n 0, 1) := by decide +kernel
theorem dX0_keep_11 : decode cX0_keep 11 = .ok (.getfield 11, 3) := by decide +kernel
theorem dX0_keep_14 : decode cX0_keep 14 = .ok (.aload_n 0, 1) := by decide +kernel
theorem dX0_keep_15 : decode cX0_keep 15 = .ok (.getfield 19, 3) := by decide +kernel
theorem dX0_keep_18 : decode cX0_keep 18 = .ok (.iload_n 1, 1) := by decide +kernel
theorem dX0_keep_19 : decode cX0_keep 19 = .ok (.iastore, 1) := by decide +kernel
theorem dX0_keep_20 : decode cX0_keep 20 = .ok (.aload_n 0, 1) := by decide +kernel
theorem dX0_keep_21 : decode cX0_keep 21 = .ok (.dup, 1) := by decide +kernel
theorem dX0_keep_22 : decode cX0_keep 22 = .ok (.getfield 19, 3) := by decide +kernel
theorem dX0_keep_25 : decode cX0_keep 25 = .ok (.iconst 1, 1) := by decide +kernel
theorem dX0_keep_26 : decode cX0_keep 26 = .ok (.iadd, 1) := by decide +kernel
theorem dX0_keep_27 : decode cX0_keep 27 = .ok (.putfield 19, 3) := by decide +kernel
theorem dX0_keep_30 : decode cX0_keep 30 = .ok (.return_, 1) := by decide +kernel
abbrev rm_X0_keep : Room := { frames := 0, cells := 0, slots := 0, locals := 0 }
def f_X0_keep (x1 : Int32) (σ : St) : Option St := (if 240 ≤ (σ.1 5202 0) then some σ else grd (ib (σ.1 5202 0) 240) (some ((si (si σ 22 (σ.1 5202 0).toNatClampNeg x1) 5202 0 ((σ.1 5202 0) + 1)))))
section
variable {p : Program} {l : Launch} {e : Env} {s : State} {m : MethodId} {args : Array Value} {below : List Frame} {meth : Method} {c : Code} {g : XG}
set_option maxRecDepth 4000 in
theorem m_X0_keep (x1 : Int32) (σ : St) {σ' : St} (h : f_X0_keep x1 σ = some σ') : xM l KX g yX0_keep cX0_keep 2 none rm_X0_keep [.ref (g.q 21), .int x1] σ none σ' := by
  refine xmet pn_X0 rfl (Nat.le_of_ble_eq_true rfl) (lv := [(0, .ref (g.q 21)), (1, .int x1)]) rfl (fun p e s m args below meth c ls C hW hl => ?_)
  have hx := C.1
  have hb := C.2.1
  unfold f_X0_keep at h
  refine lv_aload_n hx hb dX0_keep_0 rfl (lv_at hl 0 rfl) ?_
  refine xg_i C hW fg_0_19 KX_21 rfl (v := 5202) rfl (x := σ.1 5202 0) rfl dX0_keep_1 ?_
  refine lv_sipush (v := 240) hx hb dX0_keep_4 rfl ?_
  refine lv_icmp_ge (tgt := 30) hx hb dX0_keep_7 (by decide) (fun c1 => ?_) (fun c1 => ?_)
  · have h := xit c1 h
    cases h
    exact xr_v C hW dX0_keep_30
  · have h := xif c1 h
    refine lv_aload_n hx hb dX0_keep_10 rfl (lv_at hl 0 rfl) ?_
    refine xg_r C hW fg_0_11 KX_21 rfl dX0_keep_11 ?_
    refine lv_aload_n hx hb dX0_keep_14 rfl (lv_at hl 0 rfl) ?_
    refine xg_i C hW fg_0_19 KX_21 rfl (v := 5202) rfl (x := σ.1 5202 0) rfl dX0_keep_15 ?_
    refine lv_iload_n hx hb dX0_keep_18 rfl (lv_at hl 1 rfl) ?_
    obtain ⟨g2, h⟩ := xgd h
    refine xs_i C hW KX_22 g2 dX0_keep_19 (fun H locs hW => ?_)
    refine lv_aload_n hx hb dX0_keep_20 rfl (lv_at hl 0 rfl) ?_
    refine lv_dup hx hb dX0_keep_21 rfl ?_
    refine xg_i C hW fg_0_19 KX_21 rfl (v := 5202) rfl (x := σ.1 5202 0) rfl dX0_keep_22 ?_
    refine lv_iconst (v := 1) hx hb dX0_keep_25 rfl ?_
    refine lv_iadd hx hb dX0_keep_26 ?_
    refine xp_i C hW fp_0_19 KX_21 rfl (v := 5202) rfl rfl rfl dX0_keep_27 (fun H locs hW => ?_)
    cases h
    exact xr_v C hW dX0_keep_30
end
theorem dX6_find_0 : decode cX6_find 0 = .ok (.iconst 0, 1) := by decide +kernel
theorem dX6_find_1 : decode cX6_find 1 = .ok (.istore_n 3, 1) := by decide +kernel
theorem dX6_find_2 : decode cX6_find 2 = .ok (.iload_n 3, 1) := by decide +kernel
theorem dX6_find_3 : decode cX6_find 3 = .ok (.aload_n 0, 1) := by decide +kernel
theorem dX6_find_4 : decode cX6_find 4 = .ok (.getfield 46, 3) := by decide +kernel
theorem dX6_find_7 : decode cX6_find 7 = .ok (.if_icmp .ge 22, 3) := by decide +kernel
theorem dX6_find_10 : decode cX6_find 10 = .ok (.aload_n 0, 1) := by decide +kernel
theorem dX6_find_11 : decode cX6_find 11 = .ok (.getfield 11, 3) := by decide +kernel
theorem dX6_find_14 : decode cX6_find 14 = .ok (.iload_n 3, 1) := by decide +kernel
theorem dX6_find_15 : decode cX6_find 15 = .ok (.laload, 1) := by decide +kernel
theorem dX6_find_16 : decode cX6_find 16 = .ok (.lload_n 1, 1) := by decide +kernel
theorem dX6_find_17 : decode cX6_find 17 = .ok (.lcmp, 1) := by decide +kernel
theorem dX6_find_18 : decode cX6_find 18 = .ok (.ifCond .ne 5, 3) := by decide +kernel
theorem dX6_find_21 : decode cX6_find 21 = .ok (.iload_n 3, 1) := by decide +kernel
theorem dX6_find_22 : decode cX6_find 22 = .ok (.ireturn, 1) := by decide +kernel
theorem dX6_find_23 : decode cX6_find 23 = .ok (.iinc 3 1, 3) := by decide +kernel
theorem dX6_find_26 : decode cX6_find 26 = .ok (.goto (-24), 3) := by decide +kernel
theorem dX6_find_29 : decode cX6_find 29 = .ok (.iconst (-1), 1) := by decide +kernel
theorem dX6_find_30 : decode cX6_find 30 = .ok (.ireturn, 1) := by decide +kernel
abbrev rm_X6_find : Room := { frames := 0, cells := 0, slots := 0, locals := 0 }
def f_X6_find_2 (o : Nat) (N : Nat) : Nat → Int64 → Int32 → St → Option Int32
  | 0, _, _, _ => none
  | n + 1, x1, x3, σ => (if (σ.1 (1000 + 200 * o + 0) 0) ≤ x3 then some ((-1)) else grd (ib x3 40) ((if (lg_cmp (σ.2 (8 * o + 1 - 6) x3.toNatClampNeg) x1) = 0 then some x3 else f_X6_find_2 o N n x1 (x3 + 1) σ)))
def f_X6_find (o : Nat) (N : Nat) (x1 : Int64) (σ : St) : Option Int32 := f_X6_find_2 o N N x1 0 σ
section
variable {p : Program} {l : Launch} {e : Env} {s : State} {m : MethodId} {args : Array Value} {below : List Frame} {meth : Method} {c : Code} {g : XG}
set_option maxRecDepth 4000 in
theorem w_X6_find_2 (o : Nat) (ho : o = 1 ∨ o = 2) (N : Nat) (σ : St) {r : Int32} (C : xC KX g RX6 cX6_find 4 (some .int) p s m args meth c) : ∀ (n : Nat), ∀ (x1 : Int64) (x3 : Int32) (H : Heap) (locs : List Loc) (ls : Array Slot), xW KX g s σ H locs → lv_has ls 4 [(0, .ref (g.q o)), (1, .long x1), (3, .int x3)] → f_X6_find_2 o N n x1 x3 σ = some r → W p l e rm_X6_find s m args below meth c H locs 0 0 (MQ below (xPost KX g (some (.int r)) σ) args s 0 0 (xA KX g.q)) (F0 m 2 ls []) := by
  have hx := C.1
  have hb := C.2.1
  intro n
  induction n with
  | zero => intro x1 x3 H locs ls hW hl h; rw [f_X6_find_2] at h; cases h
  | succ n ih =>
    intro x1 x3 H locs ls hW hl h
    rw [f_X6_find_2] at h
    refine lv_iload_n hx hb dX6_find_2 rfl (lv_at hl 2 rfl) ?_
    refine lv_aload_n hx hb dX6_find_3 rfl (lv_at hl 0 rfl) ?_
    refine xg_i C hW fg_6_46 (KX_sl ho) rfl (v := (1000 + 200 * o + 0)) rfl (x := σ.1 (1000 + 200 * o + 0) 0) rfl dX6_find_4 ?_
    refine lv_icmp_ge (tgt := 29) hx hb dX6_find_7 (by decide) (fun c1 => ?_) (fun c1 => ?_)
    · have h := xit c1 h
      refine lv_iconst (v := (-1)) hx hb dX6_find_29 rfl ?_
      cases h
      exact xr_i C hW dX6_find_30
    · have h := xif c1 h
      refine lv_aload_n hx hb dX6_find_10 rfl (lv_at hl 0 rfl) ?_
      refine xg_r C hW fg_6_11 (KX_sl ho) rfl dX6_find_11 ?_
      refine lv_iload_n hx hb dX6_find_14 rfl (lv_at hl 2 rfl) ?_
      obtain ⟨g2, h⟩ := xgd h
      refine xa_l C hW (KX_sl_1 ho) g2 (x := σ.2 (8 * o + 1 - 6) x3.toNatClampNeg) rfl dX6_find_15 ?_
      refine lv_lload_n hx hb dX6_find_16 rfl (lv_at hl 1 rfl) ?_
      refine W.lcmp hx hb dX6_find_17 ?_
      refine lv_if_ne (tgt := 23) hx hb dX6_find_18 (by decide) (fun c3 => ?_) (fun c3 => ?_)
      · have h := xif c3 h
        refine lv_iinc (v := x3 + 1) (lv' := [(3, .int (x3 + 1)), (0, .ref (g.q o)), (1, .long x1)]) hx hb dX6_find_23 hl (k := 2) rfl rfl (Nat.le_of_ble_eq_true rfl) rfl (fun ls hl => ?_)
        refine lv_goto (tgt := 2) hx hb dX6_find_26 (by decide) ?_
        exact ih x1 (x3 + 1) _ _ _ hW (lv_sub hl [1, 2, 0] rfl) h
      · have h := xit c3 h
        refine lv_iload_n hx hb dX6_find_21 rfl (lv_at hl 2 rfl) ?_
        cases h
        exact xr_i C hW dX6_find_22
set_option maxRecDepth 4000 in
theorem m_X6_find (o : Nat) (ho : o = 1 ∨ o = 2) (N : Nat) (x1 : Int64) (σ : St) {r : Int32} (h : f_X6_find o N x1 σ = some r) : xM l KX g yX6_find cX6_find 4 (some .int) rm_X6_find [.ref (g.q o), .long x1] σ (some (.int r)) σ := by
  refine xmet pn_X6 rfl (Nat.le_of_ble_eq_true rfl) (lv := [(0, .ref (g.q o)), (1, .long x1)]) rfl (fun p e s m args below meth c ls C hW hl => ?_)
  have hx := C.1
  have hb := C.2.1
  unfold f_X6_find at h
  refine lv_iconst (v := 0) hx hb dX6_find_0 rfl ?_
  refine lv_istore_n (lv' := [(3, .int 0), (0, .ref (g.q o)), (1, .long x1)]) hx hb dX6_find_1 rfl hl (Nat.le_of_ble_eq_true rfl) rfl (fun ls hl => ?_)
  exact w_X6_find_2 o ho N σ C N x1 0 _ _ _ hW (lv_sub hl [1, 2, 0] rfl) h
end
theorem dX8_refuse_0 : decode cX8_refuse 0 = .ok (.aload_n 0, 1) := by decide +kernel
theorem dX8_refuse_1 : decode cX8_refuse 1 = .ok (.iload_n 1, 1) := by decide +kernel
theorem dX8_refuse_2 : decode cX8_refuse 2 = .ok (.putfield 25, 3) := by decide +kernel
theorem dX8_refuse_5 : decode cX8_refuse 5 = .ok (.aload_n 0, 1) := by decide +kernel
theorem dX8_refuse_6 : decode cX8_refuse 6 = .ok (.aload_n 0, 1) := by decide +kernel
theorem dX8_refuse_7 : decode cX8_refuse 7 = .ok (.getfield 28, 3) := by decide +kernel
theorem dX8_refuse_10 : decode cX8_refuse 10 = .ok (.putfield 15, 3) := by decide +kernel
theorem dX8_refuse_13 : decode cX8_refuse 13 = .ok (.iconst 0, 1) := by decide +kernel
theorem dX8_refuse_14 : decode cX8_refuse 14 = .ok (.ireturn, 1) := by decide +kernel
abbrev rm_X8_refuse : Room := { frames := 0, cells := 0, slots := 0, locals := 0 }
def f_X8_refuse (x1 : Int32) (σ : St) : Option (Int32 × St) := some (0, (si (si σ 4811 0 x1) 4812 0 (σ.1 4804 0)))
section
variable {p : Program} {l : Launch} {e : Env} {s : State} {m : MethodId} {args : Array Value} {below : List Frame} {meth : Method} {c : Code} {g : XG}
set_option maxRecDepth 4000 in
theorem m_X8_refuse (x1 : Int32) (σ : St) {r : Int32} {σ' : St} (h : f_X8_refuse x1 σ = some (r, σ')) : xM l KX g yX8_refuse cX8_refuse 2 (some .boolean) rm_X8_refuse [.ref (g.q 19), .int x1] σ (some (.int r)) σ' := by
  refine xmet pn_X8 rfl (Nat.le_of_ble_eq_true rfl) (lv := [(0, .ref (g.q 19)), (1, .int x1)]) rfl (fun p e s m args below meth c ls C hW hl => ?_)
  have hx := C.1
  have hb := C.2.1
  unfold f_X8_refuse at h
  refine lv_aload_n hx hb dX8_refuse_0 rfl (lv_at hl 0 rfl) ?_
  refine lv_iload_n hx hb dX8_refuse_1 rfl (lv_at hl 1 rfl) ?_
  refine xp_i C hW fp_8_25 KX_19 rfl (v := 4811) rfl rfl rfl dX8_refuse_2 (fun H locs hW => ?_)
  refine lv_aload_n hx hb dX8_refuse_5 rfl (lv_at hl 0 rfl) ?_
  refine lv_aload_n hx hb dX8_refuse_6 rfl (lv_at hl 0 rfl) ?_
  refine xg_i C hW fg_8_28 KX_19 rfl (v := 4804) rfl (x := σ.1 4804 0) rfl dX8_refuse_7 ?_
  refine xp_i C hW fp_8_15 KX_19 rfl (v := 4812) rfl rfl rfl dX8_refuse_10 (fun H locs hW => ?_)
  refine lv_iconst (v := 0) hx hb dX8_refuse_13 rfl ?_
  cases h
  exact xr_z C hW (by decide) dX8_refuse_14
end
theorem dX0_takeName_0 : decode cX0_takeName 0 = .ok (.aload_n 0, 1) := by decide +kernel
theorem dX0_takeName_1 : decode cX0_takeName 1 = .ok (.invokevirtual 70, 3) := by decide +kernel
theorem dX0_takeName_4 : decode cX0_takeName 4 = .ok (.ifCond .ne 17, 3) := by decide +kernel
theorem dX0_takeName_7 : decode cX0_takeName 7 = .ok (.aload_n 0, 1) := by decide +kernel
theorem dX0_takeName_8 : decode cX0_takeName 8 = .ok (.getfield 23, 3) := by decide +kernel
theorem dX0_takeName_11 : decode cX0_takeName 11 = .ok (.iconst 2, 1) := by decide +kernel
theorem dX0_takeName_12 : decode cX0_takeName 12 = .ok (.if_icmp .eq 9, 3) := by decide +kernel
theorem dX0_takeName_15 : decode cX0_takeName 15 = .ok (.aload_n 1, 1) := by decide +kernel
theorem dX0_takeName_16 : decode cX0_takeName 16 = .ok (.iconst 1, 1) := by decide +kernel
theorem dX0_takeName_17 : decode cX0_takeName 17 = .ok (.invokevirtual 47, 3) := by decide +kernel
theorem dX0_takeName_20 : decode cX0_takeName 20 = .ok (.ireturn, 1) := by decide +kernel
theorem dX0_takeName_21 : decode cX0_takeName 21 = .ok (.aload_n 0, 1) := by decide +kernel
theorem dX0_takeName_22 : decode cX0_takeName 22 = .ok (.invokevirtual 73, 3) := by decide +kernel
theorem dX0_takeName_25 : decode cX0_takeName 25 = .ok (.ifCond .eq 12, 3) := by decide +kernel
theorem dX0_takeName_28 : decode cX0_takeName 28 = .ok (.aload_n 0, 1) := by decide +kernel
theorem dX0_takeName_29 : decode cX0_takeName 29 = .ok (.getfield 32, 3) := by decide +kernel
theorem dX0_takeName_32 : decode cX0_takeName 32 = .ok (.bipush 24, 2) := by decide +kernel
theorem dX0_takeName_34 : decode cX0_takeName 34 = .ok (.if_icmp .lt 9, 3) := by decide +kernel
theorem dX0_takeName_37 : decode cX0_takeName 37 = .ok (.aload_n 1, 1) := by decide +kernel
theorem dX0_takeName_38 : decode cX0_takeName 38 = .ok (.iconst 4, 1) := by decide +kernel
theorem dX0_takeName_39 : decode cX0_takeName 39 = .ok (.invokevirtual 47, 3) := by decide +kernel
theorem dX0_takeName_42 : decode cX0_takeName 42 = .ok (.ireturn, 1) := by decide +kernel
theorem dX0_takeName_43 : decode cX0_takeName 43 = .ok (.aload_n 0, 1) := by decide +kernel
theorem dX0_takeName_44 : decode cX0_takeName 44 = .ok (.getfield 15, 3) := by decide +kernel
theorem dX0_takeName_47 : decode cX0_takeName 47 = .ok (.aload_n 1, 1) := by decide +kernel
theorem dX0_takeName_48 : decode cX0_takeName 48 = .ok (.getfield 76, 3) := by decide +kernel
theorem dX0_takeName_51 : decode cX0_takeName 51 = .ok (.invokevirtual 80, 3) := by decide +kernel
theorem dX0_takeName_54 : decode cX0_takeName 54 = .ok (.istore_n 2, 1) := by decide +kernel
theorem dX0_takeName_55 : decode cX0_takeName 55 = .ok (.iload_n 2, 1) := by decide +kernel
theorem dX0_takeName_56 : decode cX0_takeName 56 = .ok (.ifCond .ge 9, 3) := by decide +kernel
theorem dX0_takeName_59 : decode cX0_takeName 59 = .ok (.aload_n 1, 1) := by decide +kernel
theorem dX0_takeName_60 : decode cX0_takeName 60 = .ok (.iconst 5, 1) := by decide +kernel
theorem dX0_takeName_61 : decode cX0_takeName 61 = .ok (.invokevirtual 47, 3) := by decide +kernel
theorem dX0_takeName_64 : decode cX0_takeName 64 = .ok (.ireturn, 1) := by decide +kernel
theorem dX0_takeName_65 : decode cX0_takeName 65 = .ok (.aload_n 0, 1) := by decide +kernel
theorem dX0_takeName_66 : decode cX0_takeName 66 = .ok (.dup, 1) := by decide +kernel
theorem dX0_takeName_67 : decode cX0_takeName 67 = .ok (.getfield 32, 3) := by decide +kernel
theorem dX0_takeName_70 : decode cX0_takeName 70 = .ok (.iconst 1, 1) := by decide +kernel
theorem dX0_takeName_71 : decode cX0_takeName 71 = .ok (.iadd, 1) := by decide +kernel
theorem dX0_takeName_72 : decode cX0_takeName 72 = .ok (.putfield 32, 3) := by decide +kernel
theorem dX0_takeName_75 : decode cX0_takeName 75 = .ok (.aload_n 0, 1) := by decide +kernel
theorem dX0_takeName_76 : decode cX0_takeName 76 = .ok (.aload_n 0, 1) := by decide +kernel
theorem dX0_takeName_77 : decode cX0_takeName 77 = .ok (.getfield 23, 3) := by decide +kernel
theorem dX0_takeName_80 : decode cX0_takeName 80 = .ok (.iconst 2, 1) := by decide +kernel
theorem dX0_takeName_81 : decode cX0_takeName 81 = .ok (.if_icmp .ne 7, 3) := by decide +kernel
theorem dX0_takeName_84 : decode cX0_takeName 84 = .ok (.iconst 4, 1) := by decide +kernel
theorem dX0_takeName_85 : decode cX0_takeName 85 = .ok (.goto 4, 3) := by decide +kernel
theorem dX0_takeName_88 : decode cX0_takeName 88 = .ok (.iconst 3, 1) := by decide +kernel
theorem dX0_takeName_89 : decode cX0_takeName 89 = .ok (.putfield 23, 3) := by decide +kernel
theorem dX0_takeName_92 : decode cX0_takeName 92 = .ok (.aload_n 0, 1) := by decide +kernel
theorem dX0_takeName_93 : decode cX0_takeName 93 = .ok (.iload_n 2, 1) := by decide +kernel
theorem dX0_takeName_94 : decode cX0_takeName 94 = .ok (.invokevirtual 86, 3) := by decide +kernel
theorem dX0_takeName_97 : decode cX0_takeName 97 = .ok (.iconst 1, 1) := by decide +kernel
theorem dX0_takeName_98 : decode cX0_takeName 98 = .ok (.ireturn, 1) := by decide +kernel
abbrev rm_X0_takeName : Room := { frames := 1, cells := 0, slots := 0, locals := 23 }
def f_X0_takeName_37 (N : Nat) (σ : St) : Option (Int32 × St) := bd (f_X8_refuse 4 σ) (fun r14_ σ14 => grd (zbb r14_) (some (r14_, σ14)))
def f_X0_takeName_89 (N : Nat) (x2 : Int32) (t1 : Int32) (σ : St) : Option (Int32 × St) := bo (f_X0_keep x2 (si σ 5203 0 t1)) (fun σ13 => some (1, σ13))
def f_X0_takeName_21 (N : Nat) (σ : St) : Option (Int32 × St) := bd (f_X0_beginBlock σ) (fun r5_ σ5 => (if r5_ = 0 then f_X0_takeName_37 N σ5 else (if (σ5.1 5206 0) < 24 then bo (f_X6_find 1 N (σ5.2 4806 0) σ5) (fun r8_ => (if 0 ≤ r8_ then (if (σ5.1 5203 0) = 2 then f_X0_takeName_89 N r8_ 4 (si σ5 5206 0 ((σ5.1 5206 0) + 1)) else f_X0_takeName_89 N r8_ 3 (si σ5 5206 0 ((σ5.1 5206 0) + 1))) else bd (f_X8_refuse 5 σ5) (fun r11_ σ11 => grd (zbb r11_) (some (r11_, σ11))))) else f_X0_takeName_37 N σ5)))
def f_X0_takeName (N : Nat) (σ : St) : Option (Int32 × St) := (if (f_X0_wantsItem σ) = 0 then (if (σ.1 5203 0) = 2 then f_X0_takeName_21 N σ else bd (f_X8_refuse 1 σ) (fun r3_ σ3 => grd (zbb r3_) (some (r3_, σ3)))) else f_X0_takeName_21 N σ)
section
variable {p : Program} {l : Launch} {e : Env} {s : State} {m : MethodId} {args : Array Value} {below : List Frame} {meth : Method} {c : Code} {g : XG}
set_option maxRecDepth 4000 in
theorem w_X0_takeName_37 (N : Nat) {r : Int32} {σ' : St} (C : xC KX g RX0 cX0_takeName 3 (some .boolean) p s m args meth c) : ∀ (σ : St) (H : Heap) (locs : List Loc) (ls : Array Slot), xW KX g s σ H locs → lv_has ls 3 [(1, .ref (g.q 19))] → f_X0_takeName_37 N σ = some (r, σ') → W p l e rm_X0_takeName s m args below meth c H locs 0 0 (MQ below (xPost KX g (some (.int r)) σ') args s 0 0 (xA KX g.q)) (F0 m 37 ls []) := by
  have hx := C.1
  have hb := C.2.1
  intro σ H locs ls hW hl h
  unfold f_X0_takeName_37 at h
  refine lv_aload_n hx hb dX0_takeName_37 rfl (lv_at hl 0 rfl) ?_
  refine lv_iconst (v := 4) hx hb dX0_takeName_38 rfl ?_
  obtain ⟨r14_, σ14, e14, h⟩ := xbd h
  refine xc_V (As := [.int 4]) (rest := []) C hW (m_X8_refuse 4 _ e14) mf_X8_refuse mv_X8_refuse ml_X0_47 ⟨rfl, rfl⟩ ⟨Nat.le_of_ble_eq_true rfl, Nat.le_of_ble_eq_true rfl⟩ KX_19 rfl hl.1 rfl rfl (Nat.le_of_ble_eq_true rfl) dX0_takeName_39 (fun H locs hW => W.eq (g2 := F0 m 42 ls [.int r14_]) rfl ?_)
  obtain ⟨g15, h⟩ := xgd h
  cases h
  exact xr_z C hW g15 dX0_takeName_42
set_option maxRecDepth 4000 in
theorem w_X0_takeName_89 (N : Nat) {r : Int32} {σ' : St} (C : xC KX g RX0 cX0_takeName 3 (some .boolean) p s m args meth c) : ∀ (x2 : Int32) (t1 : Int32) (σ : St) (H : Heap) (locs : List Loc) (ls : Array Slot), xW KX g s σ H locs → lv_has ls 3 [(0, .ref (g.q 21)), (2, .int x2)] → f_X0_takeName_89 N x2 t1 σ = some (r, σ') → W p l e rm_X0_takeName s m args below meth c H locs 0 0 (MQ below (xPost KX g (some (.int r)) σ') args s 0 0 (xA KX g.q)) (F0 m 89 ls [.int t1, .ref (g.q 21)]) := by
  have hx := C.1
  have hb := C.2.1
  intro x2 t1 σ H locs ls hW hl h
  unfold f_X0_takeName_89 at h
  refine xp_i C hW fp_0_23 KX_21 rfl (v := 5203) rfl rfl rfl dX0_takeName_89 (fun H locs hW => ?_)
  refine lv_aload_n hx hb dX0_takeName_92 rfl (lv_at hl 0 rfl) ?_
  refine lv_iload_n hx hb dX0_takeName_93 rfl (lv_at hl 1 rfl) ?_
  obtain ⟨σ13, e13, h⟩ := xbo h
  refine xc_V (As := [.int x2]) (rest := []) C hW (m_X0_keep x2 _ e13) mf_X0_keep mv_X0_keep ml_X0_86 ⟨rfl, rfl⟩ ⟨Nat.le_of_ble_eq_true rfl, Nat.le_of_ble_eq_true rfl⟩ KX_21 rfl hl.1 rfl rfl (Nat.le_of_ble_eq_true rfl) dX0_takeName_94 (fun H locs hW => W.eq (g2 := F0 m 97 ls []) rfl ?_)
  refine lv_iconst (v := 1) hx hb dX0_takeName_97 rfl ?_
  cases h
  exact xr_z C hW (by decide) dX0_takeName_98
set_option maxRecDepth 4000 in
theorem w_X0_takeName_21 (N : Nat) {r : Int32} {σ' : St} (C : xC KX g RX0 cX0_takeName 3 (some .boolean) p s m args meth c) : ∀ (σ : St) (H : Heap) (locs : List Loc) (ls : Array Slot), xW KX g s σ H locs → lv_has ls 3 [(0, .ref (g.q 21)), (1, .ref (g.q 19))] → f_X0_takeName_21 N σ = some (r, σ') → W p l e rm_X0_takeName s m args below meth c H locs 0 0 (MQ below (xPost KX g (some (.int r)) σ') args s 0 0 (xA KX g.q)) (F0 m 21 ls []) := by
  have hx := C.1
  have hb := C.2.1
  intro σ H locs ls hW hl h
  unfold f_X0_takeName_21 at h
  refine lv_aload_n hx hb dX0_takeName_21 rfl (lv_at hl 0 rfl) ?_
  obtain ⟨r5_, σ5, e5, h⟩ := xbd h
  refine xc_V (As := []) (rest := []) C hW (m_X0_beginBlock _ e5) mf_X0_beginBlock mv_X0_beginBlock ml_X0_73 ⟨rfl, rfl⟩ ⟨Nat.le_of_ble_eq_true rfl, Nat.le_of_ble_eq_true rfl⟩ KX_21 rfl hl.1 rfl rfl (Nat.le_of_ble_eq_true rfl) dX0_takeName_22 (fun H locs hW => W.eq (g2 := F0 m 25 ls [.int r5_]) rfl ?_)
  refine lv_if_eq (tgt := 37) hx hb dX0_takeName_25 (by decide) (fun c6 => ?_) (fun c6 => ?_)
  · have h := xit c6 h
    exact w_X0_takeName_37 N C _ _ _ _ hW (lv_sub hl [1] rfl) h
  · have h := xif c6 h
    refine lv_aload_n hx hb dX0_takeName_28 rfl (lv_at hl 0 rfl) ?_
    refine xg_i C hW fg_0_32 KX_21 rfl (v := 5206) rfl (x := σ5.1 5206 0) rfl dX0_takeName_29 ?_
    refine lv_bipush (v := 24) hx hb dX0_takeName_32 rfl ?_
    refine lv_icmp_lt (tgt := 43) hx hb dX0_takeName_34 (by decide) (fun c7 => ?_) (fun c7 => ?_)
    · have h := xit c7 h
      refine lv_aload_n hx hb dX0_takeName_43 rfl (lv_at hl 0 rfl) ?_
      refine xg_r C hW fg_0_15 KX_21 rfl dX0_takeName_44 ?_
      refine lv_aload_n hx hb dX0_takeName_47 rfl (lv_at hl 1 rfl) ?_
      refine xg_l C hW fg_0_76 KX_19 rfl (v := 4806) rfl (x := σ5.2 4806 0) rfl dX0_takeName_48 ?_
      obtain ⟨r8_, e8, h⟩ := xbo h
      refine xc_V (As := [.long (σ5.2 4806 0)]) (rest := []) C hW (m_X6_find 1 (Or.inl rfl) N (σ5.2 4806 0) _ e8) mf_X6_find mv_X6_find ml_X0_80 ⟨rfl, rfl⟩ ⟨Nat.le_of_ble_eq_true rfl, Nat.le_of_ble_eq_true rfl⟩ (KX_sl (Or.inl rfl)) rfl hl.1 rfl rfl (Nat.le_of_ble_eq_true rfl) dX0_takeName_51 (fun H locs hW => W.eq (g2 := F0 m 54 ls [.int r8_]) rfl ?_)
      refine lv_istore_n (lv' := [(2, .int r8_), (0, .ref (g.q 21)), (1, .ref (g.q 19))]) hx hb dX0_takeName_54 rfl hl (Nat.le_of_ble_eq_true rfl) rfl (fun ls hl => ?_)
      refine lv_iload_n hx hb dX0_takeName_55 rfl (lv_at hl 0 rfl) ?_
      refine lv_if_ge (tgt := 65) hx hb dX0_takeName_56 (by decide) (fun c9 => ?_) (fun c9 => ?_)
      · have h := xit c9 h
        refine lv_aload_n hx hb dX0_takeName_65 rfl (lv_at hl 1 rfl) ?_
        refine lv_dup hx hb dX0_takeName_66 rfl ?_
        refine xg_i C hW fg_0_32 KX_21 rfl (v := 5206) rfl (x := σ5.1 5206 0) rfl dX0_takeName_67 ?_
        refine lv_iconst (v := 1) hx hb dX0_takeName_70 rfl ?_
        refine lv_iadd hx hb dX0_takeName_71 ?_
        refine xp_i C hW fp_0_32 KX_21 rfl (v := 5206) rfl rfl rfl dX0_takeName_72 (fun H locs hW => ?_)
        refine lv_aload_n hx hb dX0_takeName_75 rfl (lv_at hl 1 rfl) ?_
        refine lv_aload_n hx hb dX0_takeName_76 rfl (lv_at hl 1 rfl) ?_
        refine xg_i C hW fg_0_23 KX_21 rfl (v := 5203) rfl (x := σ5.1 5203 0) rfl dX0_takeName_77 ?_
        refine lv_iconst (v := 2) hx hb dX0_takeName_80 rfl ?_
        refine lv_icmp_ne (tgt := 88) hx hb dX0_takeName_81 (by decide) (fun c10 => ?_) (fun c10 => ?_)
        · have h := xif c10 h
          refine lv_iconst (v := 3) hx hb dX0_takeName_88 rfl ?_
          exact w_X0_takeName_89 N C r8_ 3 _ _ _ _ hW (lv_sub hl [1, 0] rfl) h
        · have h := xit c10 h
          refine lv_iconst (v := 4) hx hb dX0_takeName_84 rfl ?_
          refine lv_goto (tgt := 89) hx hb dX0_takeName_85 (by decide) ?_
          exact w_X0_takeName_89 N C r8_ 4 _ _ _ _ hW (lv_sub hl [1, 0] rfl) h
      · have h := xif c9 h
        refine lv_aload_n hx hb dX0_takeName_59 rfl (lv_at hl 2 rfl) ?_
        refine lv_iconst (v := 5) hx hb dX0_takeName_60 rfl ?_
        obtain ⟨r11_, σ11, e11, h⟩ := xbd h
        refine xc_V (As := [.int 5]) (rest := []) C hW (m_X8_refuse 5 _ e11) mf_X8_refuse mv_X8_refuse ml_X0_47 ⟨rfl, rfl⟩ ⟨Nat.le_of_ble_eq_true rfl, Nat.le_of_ble_eq_true rfl⟩ KX_19 rfl hl.1 rfl rfl (Nat.le_of_ble_eq_true rfl) dX0_takeName_61 (fun H locs hW => W.eq (g2 := F0 m 64 ls [.int r11_]) rfl ?_)
        obtain ⟨g12, h⟩ := xgd h
        cases h
        exact xr_z C hW g12 dX0_takeName_64
    · have h := xif c7 h
      exact w_X0_takeName_37 N C _ _ _ _ hW (lv_sub hl [1] rfl) h
set_option maxRecDepth 4000 in
theorem m_X0_takeName (N : Nat) (σ : St) {r : Int32} {σ' : St} (h : f_X0_takeName N σ = some (r, σ')) : xM l KX g yX0_takeName cX0_takeName 3 (some .boolean) rm_X0_takeName [.ref (g.q 21), .ref (g.q 19)] σ (some (.int r)) σ' := by
  refine xmet pn_X0 rfl (Nat.le_of_ble_eq_true rfl) (lv := [(0, .ref (g.q 21)), (1, .ref (g.q 19))]) rfl (fun p e s m args below meth c ls C hW hl => ?_)
  have hx := C.1
  have hb := C.2.1
  unfold f_X0_takeName at h
  refine lv_aload_n hx hb dX0_takeName_0 rfl (lv_at hl 0 rfl) ?_
  refine xc_V (As := []) (rest := []) C hW (m_X0_wantsItem _ rfl) mf_X0_wantsItem mv_X0_wantsItem ml_X0_70 ⟨rfl, rfl⟩ ⟨Nat.le_of_ble_eq_true rfl, Nat.le_of_ble_eq_true rfl⟩ KX_21 rfl hl.1 rfl rfl (Nat.le_of_ble_eq_true rfl) dX0_takeName_1 (fun H locs hW => W.eq (g2 := F0 m 4 ls [.int (f_X0_wantsItem σ)]) rfl ?_)
  refine lv_if_ne (tgt := 21) hx hb dX0_takeName_4 (by decide) (fun c1 => ?_) (fun c1 => ?_)
  · have h := xif c1 h
    exact w_X0_takeName_21 N C _ _ _ _ hW (lv_sub hl [0, 1] rfl) h
  · have h := xit c1 h
    refine lv_aload_n hx hb dX0_takeName_7 rfl (lv_at hl 0 rfl) ?_
    refine xg_i C hW fg_0_23 KX_21 rfl (v := 5203) rfl (x := σ.1 5203 0) rfl dX0_takeName_8 ?_
    refine lv_iconst (v := 2) hx hb dX0_takeName_11 rfl ?_
    refine lv_icmp_eq (tgt := 21) hx hb dX0_takeName_12 (by decide) (fun c2 => ?_) (fun c2 => ?_)
    · have h := xit c2 h
      exact w_X0_takeName_21 N C _ _ _ _ hW (lv_sub hl [0, 1] rfl) h
    · have h := xif c2 h
      refine lv_aload_n hx hb dX0_takeName_15 rfl (lv_at hl 1 rfl) ?_
      refine lv_iconst (v := 1) hx hb dX0_takeName_16 rfl ?_
      obtain ⟨r3_, σ3, e3, h⟩ := xbd h
      refine xc_V (As := [.int 1]) (rest := []) C hW (m_X8_refuse 1 _ e3) mf_X8_refuse mv_X8_refuse ml_X0_47 ⟨rfl, rfl⟩ ⟨Nat.le_of_ble_eq_true rfl, Nat.le_of_ble_eq_true rfl⟩ KX_19 rfl hl.1 rfl rfl (Nat.le_of_ble_eq_true rfl) dX0_takeName_17 (fun H locs hW => W.eq (g2 := F0 m 20 ls [.int r3_]) rfl ?_)
      obtain ⟨g4, h⟩ := xgd h
      cases h
      exact xr_z C hW g4 dX0_takeName_20
end
theorem dX0_takeOpening_0 : decode cX0_takeOpening 0 = .ok (.aload_n 0, 1) := by decide +kernel
theorem dX0_takeOpening_1 : decode cX0_takeOpening 1 = .ok (.invokevirtual 73, 3) := by decide +kernel
theorem dX0_takeOpening_4 : decode cX0_takeOpening 4 = .ok (.ifCond .eq 11, 3) := by decide +kernel
theorem dX0_takeOpening_7 : decode cX0_takeOpening 7 = .ok (.aload_n 0, 1) := by decide +kernel
theorem dX0_takeOpening_8 : decode cX0_takeOpening 8 = .ok (.getfield 26, 3) := by decide +kernel
theorem dX0_takeOpening_11 : decode cX0_takeOpening 11 = .ok (.iconst 4, 1) := by decide +kernel
theorem dX0_takeOpening_12 : decode cX0_takeOpening 12 = .ok (.if_icmp .lt 9, 3) := by decide +kernel
theorem dX0_takeOpening_15 : decode cX0_takeOpening 15 = .ok (.aload_n 1, 1) := by decide +kernel
theorem dX0_takeOpening_16 : decode cX0_takeOpening 16 = .ok (.iconst 4, 1) := by decide +kernel
theorem dX0_takeOpening_17 : decode cX0_takeOpening 17 = .ok (.invokevirtual 47, 3) := by decide +kernel
theorem dX0_takeOpening_20 : decode cX0_takeOpening 20 = .ok (.ireturn, 1) := by decide +kernel
theorem dX0_takeOpening_21 : decode cX0_takeOpening 21 = .ok (.aload_n 0, 1) := by decide +kernel
theorem dX0_takeOpening_22 : decode cX0_takeOpening 22 = .ok (.dup, 1) := by decide +kernel
theorem dX0_takeOpening_23 : decode cX0_takeOpening 23 = .ok (.getfield 26, 3) := by decide +kernel
theorem dX0_takeOpening_26 : decode cX0_takeOpening 26 = .ok (.iconst 1, 1) := by decide +kernel
theorem dX0_takeOpening_27 : decode cX0_takeOpening 27 = .ok (.iadd, 1) := by decide +kernel
theorem dX0_takeOpening_28 : decode cX0_takeOpening 28 = .ok (.putfield 26, 3) := by decide +kernel
theorem dX0_takeOpening_31 : decode cX0_takeOpening 31 = .ok (.aload_n 0, 1) := by decide +kernel
theorem dX0_takeOpening_32 : decode cX0_takeOpening 32 = .ok (.iconst 1, 1) := by decide +kernel
theorem dX0_takeOpening_33 : decode cX0_takeOpening 33 = .ok (.putfield 23, 3) := by decide +kernel
theorem dX0_takeOpening_36 : decode cX0_takeOpening 36 = .ok (.aload_n 0, 1) := by decide +kernel
theorem dX0_takeOpening_37 : decode cX0_takeOpening 37 = .ok (.aload_n 1, 1) := by decide +kernel
theorem dX0_takeOpening_38 : decode cX0_takeOpening 38 = .ok (.getfield 58, 3) := by decide +kernel
theorem dX0_takeOpening_41 : decode cX0_takeOpening 41 = .ok (.ineg, 1) := by decide +kernel
theorem dX0_takeOpening_42 : decode cX0_takeOpening 42 = .ok (.invokevirtual 86, 3) := by decide +kernel
theorem dX0_takeOpening_45 : decode cX0_takeOpening 45 = .ok (.iconst 1, 1) := by decide +kernel
theorem dX0_takeOpening_46 : decode cX0_takeOpening 46 = .ok (.ireturn, 1) := by decide +kernel
abbrev rm_X0_takeOpening : Room := { frames := 1, cells := 0, slots := 0, locals := 21 }
def f_X0_takeOpening_15 (σ : St) : Option (Int32 × St) := bd (f_X8_refuse 4 σ) (fun r5_ σ5 => grd (zbb r5_) (some (r5_, σ5)))
def f_X0_takeOpening (σ : St) : Option (Int32 × St) := bd (f_X0_beginBlock σ) (fun r1_ σ1 => (if r1_ = 0 then f_X0_takeOpening_15 σ1 else (if (σ1.1 5204 0) < 4 then bo (f_X0_keep (-(σ1.1 4810 0)) (si (si σ1 5204 0 ((σ1.1 5204 0) + 1)) 5203 0 1)) (fun σ4 => some (1, σ4)) else f_X0_takeOpening_15 σ1)))
section
variable {p : Program} {l : Launch} {e : Env} {s : State} {m : MethodId} {args : Array Value} {below : List Frame} {meth : Method} {c : Code} {g : XG}
set_option maxRecDepth 4000 in
theorem w_X0_takeOpening_15 {r : Int32} {σ' : St} (C : xC KX g RX0 cX0_takeOpening 2 (some .boolean) p s m args meth c) : ∀ (σ : St) (H : Heap) (locs : List Loc) (ls : Array Slot), xW KX g s σ H locs → lv_has ls 2 [(1, .ref (g.q 19))] → f_X0_takeOpening_15 σ = some (r, σ') → W p l e rm_X0_takeOpening s m args below meth c H locs 0 0 (MQ below (xPost KX g (some (.int r)) σ') args s 0 0 (xA KX g.q)) (F0 m 15 ls []) := by
  have hx := C.1
  have hb := C.2.1
  intro σ H locs ls hW hl h
  unfold f_X0_takeOpening_15 at h
  refine lv_aload_n hx hb dX0_takeOpening_15 rfl (lv_at hl 0 rfl) ?_
  refine lv_iconst (v := 4) hx hb dX0_takeOpening_16 rfl ?_
  obtain ⟨r5_, σ5, e5, h⟩ := xbd h
  refine xc_V (As := [.int 4]) (rest := []) C hW (m_X8_refuse 4 _ e5) mf_X8_refuse mv_X8_refuse ml_X0_47 ⟨rfl, rfl⟩ ⟨Nat.le_of_ble_eq_true rfl, Nat.le_of_ble_eq_true rfl⟩ KX_19 rfl hl.1 rfl rfl (Nat.le_of_ble_eq_true rfl) dX0_takeOpening_17 (fun H locs hW => W.eq (g2 := F0 m 20 ls [.int r5_]) rfl ?_)
  obtain ⟨g6, h⟩ := xgd h
  cases h
  exact xr_z C hW g6 dX0_takeOpening_20
set_option maxRecDepth 4000 in
theorem m_X0_takeOpening (σ : St) {r : Int32} {σ' : St} (h : f_X0_takeOpening σ = some (r, σ')) : xM l KX g yX0_takeOpening cX0_takeOpening 2 (some .boolean) rm_X0_takeOpening [.ref (g.q 21), .ref (g.q 19)] σ (some (.int r)) σ' := by
  refine xmet pn_X0 rfl (Nat.le_of_ble_eq_true rfl) (lv := [(0, .ref (g.q 21)), (1, .ref (g.q 19))]) rfl (fun p e s m args below meth c ls C hW hl => ?_)
  have hx := C.1
  have hb := C.2.1
  unfold f_X0_takeOpening at h
  refine lv_aload_n hx hb dX0_takeOpening_0 rfl (lv_at hl 0 rfl) ?_
  obtain ⟨r1_, σ1, e1, h⟩ := xbd h
  refine xc_V (As := []) (rest := []) C hW (m_X0_beginBlock _ e1) mf_X0_beginBlock mv_X0_beginBlock ml_X0_73 ⟨rfl, rfl⟩ ⟨Nat.le_of_ble_eq_true rfl, Nat.le_of_ble_eq_true rfl⟩ KX_21 rfl hl.1 rfl rfl (Nat.le_of_ble_eq_true rfl) dX0_takeOpening_1 (fun H locs hW => W.eq (g2 := F0 m 4 ls [.int r1_]) rfl ?_)
  refine lv_if_eq (tgt := 15) hx hb dX0_takeOpening_4 (by decide) (fun c2 => ?_) (fun c2 => ?_)
  · have h := xit c2 h
    exact w_X0_takeOpening_15 C _ _ _ _ hW (lv_sub hl [1] rfl) h
  · have h := xif c2 h
    refine lv_aload_n hx hb dX0_takeOpening_7 rfl (lv_at hl 0 rfl) ?_
    refine xg_i C hW fg_0_26 KX_21 rfl (v := 5204) rfl (x := σ1.1 5204 0) rfl dX0_takeOpening_8 ?_
    refine lv_iconst (v := 4) hx hb dX0_takeOpening_11 rfl ?_
    refine lv_icmp_lt (tgt := 21) hx hb dX0_takeOpening_12 (by decide) (fun c3 => ?_) (fun c3 => ?_)
    · have h := xit c3 h
      refine lv_aload_n hx hb dX0_takeOpening_21 rfl (lv_at hl 0 rfl) ?_
      refine lv_dup hx hb dX0_takeOpening_22 rfl ?_
      refine xg_i C hW fg_0_26 KX_21 rfl (v := 5204) rfl (x := σ1.1 5204 0) rfl dX0_takeOpening_23 ?_
      refine lv_iconst (v := 1) hx hb dX0_takeOpening_26 rfl ?_
      refine lv_iadd hx hb dX0_takeOpening_27 ?_
      refine xp_i C hW fp_0_26 KX_21 rfl (v := 5204) rfl rfl rfl dX0_takeOpening_28 (fun H locs hW => ?_)
      refine lv_aload_n hx hb dX0_takeOpening_31 rfl (lv_at hl 0 rfl) ?_
      refine lv_iconst (v := 1) hx hb dX0_takeOpening_32 rfl ?_
      refine xp_i C hW fp_0_23 KX_21 rfl (v := 5203) rfl rfl rfl dX0_takeOpening_33 (fun H locs hW => ?_)
      refine lv_aload_n hx hb dX0_takeOpening_36 rfl (lv_at hl 0 rfl) ?_
      refine lv_aload_n hx hb dX0_takeOpening_37 rfl (lv_at hl 1 rfl) ?_
      refine xg_i C hW fg_0_58 KX_19 rfl (v := 4810) rfl (x := σ1.1 4810 0) rfl dX0_takeOpening_38 ?_
      refine lv_ineg hx hb dX0_takeOpening_41 ?_
      obtain ⟨σ4, e4, h⟩ := xbo h
      refine xc_V (As := [.int (-(σ1.1 4810 0))]) (rest := []) C hW (m_X0_keep (-(σ1.1 4810 0)) _ e4) mf_X0_keep mv_X0_keep ml_X0_86 ⟨rfl, rfl⟩ ⟨Nat.le_of_ble_eq_true rfl, Nat.le_of_ble_eq_true rfl⟩ KX_21 rfl hl.1 rfl rfl (Nat.le_of_ble_eq_true rfl) dX0_takeOpening_42 (fun H locs hW => W.eq (g2 := F0 m 45 ls []) rfl ?_)
      refine lv_iconst (v := 1) hx hb dX0_takeOpening_45 rfl ?_
      cases h
      exact xr_z C hW (by decide) dX0_takeOpening_46
    · have h := xif c3 h
      exact w_X0_takeOpening_15 C _ _ _ _ hW (lv_sub hl [1] rfl) h
end
theorem dX0_takeOther_0 : decode cX0_takeOther 0 = .ok (.iload_n 1, 1) := by decide +kernel
theorem dX0_takeOther_1 : decode cX0_takeOther 1 = .ok (.bipush 41, 2) := by decide +kernel
theorem dX0_takeOther_3 : decode cX0_takeOther 3 = .ok (.if_icmp .ne 21, 3) := by decide +kernel
theorem dX0_takeOther_6 : decode cX0_takeOther 6 = .ok (.aload_n 0, 1) := by decide +kernel
theorem dX0_takeOther_7 : decode cX0_takeOther 7 = .ok (.dup, 1) := by decide +kernel
theorem dX0_takeOther_8 : decode cX0_takeOther 8 = .ok (.getfield 26, 3) := by decide +kernel
theorem dX0_takeOther_11 : decode cX0_takeOther 11 = .ok (.iconst 1, 1) := by decide +kernel
theorem dX0_takeOther_12 : decode cX0_takeOther 12 = .ok (.isub, 1) := by decide +kernel
theorem dX0_takeOther_13 : decode cX0_takeOther 13 = .ok (.putfield 26, 3) := by decide +kernel
theorem dX0_takeOther_16 : decode cX0_takeOther 16 = .ok (.aload_n 0, 1) := by decide +kernel
theorem dX0_takeOther_17 : decode cX0_takeOther 17 = .ok (.iconst 4, 1) := by decide +kernel
theorem dX0_takeOther_18 : decode cX0_takeOther 18 = .ok (.putfield 23, 3) := by decide +kernel
theorem dX0_takeOther_21 : decode cX0_takeOther 21 = .ok (.goto 32, 3) := by decide +kernel
theorem dX0_takeOther_24 : decode cX0_takeOther 24 = .ok (.iload_n 1, 1) := by decide +kernel
theorem dX0_takeOther_25 : decode cX0_takeOther 25 = .ok (.bipush 45, 2) := by decide +kernel
theorem dX0_takeOther_27 : decode cX0_takeOther 27 = .ok (.if_icmp .ne 11, 3) := by decide +kernel
theorem dX0_takeOther_30 : decode cX0_takeOther 30 = .ok (.aload_n 0, 1) := by decide +kernel
theorem dX0_takeOther_31 : decode cX0_takeOther 31 = .ok (.iconst 0, 1) := by decide +kernel
theorem dX0_takeOther_32 : decode cX0_takeOther 32 = .ok (.putfield 23, 3) := by decide +kernel
theorem dX0_takeOther_35 : decode cX0_takeOther 35 = .ok (.goto 18, 3) := by decide +kernel
theorem dX0_takeOther_38 : decode cX0_takeOther 38 = .ok (.aload_n 0, 1) := by decide +kernel
theorem dX0_takeOther_39 : decode cX0_takeOther 39 = .ok (.iload_n 1, 1) := by decide +kernel
theorem dX0_takeOther_40 : decode cX0_takeOther 40 = .ok (.bipush 38, 2) := by decide +kernel
theorem dX0_takeOther_42 : decode cX0_takeOther 42 = .ok (.if_icmp .ne 7, 3) := by decide +kernel
theorem dX0_takeOther_45 : decode cX0_takeOther 45 = .ok (.iconst 2, 1) := by decide +kernel
theorem dX0_takeOther_46 : decode cX0_takeOther 46 = .ok (.goto 4, 3) := by decide +kernel
theorem dX0_takeOther_49 : decode cX0_takeOther 49 = .ok (.iconst 1, 1) := by decide +kernel
theorem dX0_takeOther_50 : decode cX0_takeOther 50 = .ok (.putfield 23, 3) := by decide +kernel
theorem dX0_takeOther_53 : decode cX0_takeOther 53 = .ok (.aload_n 0, 1) := by decide +kernel
theorem dX0_takeOther_54 : decode cX0_takeOther 54 = .ok (.iload_n 1, 1) := by decide +kernel
theorem dX0_takeOther_55 : decode cX0_takeOther 55 = .ok (.ineg, 1) := by decide +kernel
theorem dX0_takeOther_56 : decode cX0_takeOther 56 = .ok (.invokevirtual 86, 3) := by decide +kernel
theorem dX0_takeOther_59 : decode cX0_takeOther 59 = .ok (.iconst 1, 1) := by decide +kernel
theorem dX0_takeOther_60 : decode cX0_takeOther 60 = .ok (.ireturn, 1) := by decide +kernel
abbrev rm_X0_takeOther : Room := { frames := 1, cells := 0, slots := 0, locals := 21 }
def f_X0_takeOther_53 (x1 : Int32) (σ : St) : Option (Int32 × St) := bo (f_X0_keep (-x1) σ) (fun σ4 => some (1, σ4))
def f_X0_takeOther_50 (x1 : Int32) (t1 : Int32) (σ : St) : Option (Int32 × St) := f_X0_takeOther_53 x1 (si σ 5203 0 t1)
def f_X0_takeOther (x1 : Int32) (σ : St) : Option (Int32 × St) := (if x1 = 41 then f_X0_takeOther_53 x1 (si (si σ 5204 0 ((σ.1 5204 0) - 1)) 5203 0 4) else (if x1 = 45 then f_X0_takeOther_53 x1 (si σ 5203 0 0) else (if x1 = 38 then f_X0_takeOther_50 x1 2 σ else f_X0_takeOther_50 x1 1 σ)))
section
variable {p : Program} {l : Launch} {e : Env} {s : State} {m : MethodId} {args : Array Value} {below : List Frame} {meth : Method} {c : Code} {g : XG}
set_option maxRecDepth 4000 in
theorem w_X0_takeOther_53 {r : Int32} {σ' : St} (C : xC KX g RX0 cX0_takeOther 2 (some .boolean) p s m args meth c) : ∀ (x1 : Int32) (σ : St) (H : Heap) (locs : List Loc) (ls : Array Slot), xW KX g s σ H locs → lv_has ls 2 [(0, .ref (g.q 21)), (1, .int x1)] → f_X0_takeOther_53 x1 σ = some (r, σ') → W p l e rm_X0_takeOther s m args below meth c H locs 0 0 (MQ below (xPost KX g (some (.int r)) σ') args s 0 0 (xA KX g.q)) (F0 m 53 ls []) := by
  have hx := C.1
  have hb := C.2.1
  intro x1 σ H locs ls hW hl h
  unfold f_X0_takeOther_53 at h
  refine lv_aload_n hx hb dX0_takeOther_53 rfl (lv_at hl 0 rfl) ?_
  refine lv_iload_n hx hb dX0_takeOther_54 rfl (lv_at hl 1 rfl) ?_
  refine lv_ineg hx hb dX0_takeOther_55 ?_
  obtain ⟨σ4, e4, h⟩ := xbo h
  refine xc_V (As := [.int (-x1)]) (rest := []) C hW (m_X0_keep (-x1) _ e4) mf_X0_keep mv_X0_keep ml_X0_86 ⟨rfl, rfl⟩ ⟨Nat.le_of_ble_eq_true rfl, Nat.le_of_ble_eq_true rfl⟩ KX_21 rfl hl.1 rfl rfl (Nat.le_of_ble_eq_true rfl) dX0_takeOther_56 (fun H locs hW => W.eq (g2 := F0 m 59 ls []) rfl ?_)
  refine lv_iconst (v := 1) hx hb dX0_takeOther_59 rfl ?_
  cases h
  exact xr_z C hW (by decide) dX0_takeOther_60
set_option maxRecDepth 4000 in
theorem w_X0_takeOther_50 {r : Int32} {σ' : St} (C : xC KX g RX0 cX0_takeOther 2 (some .boolean) p s m args meth c) : ∀ (x1 : Int32) (t1 : Int32) (σ : St) (H : Heap) (locs : List Loc) (ls : Array Slot), xW KX g s σ H locs → lv_has ls 2 [(0, .ref (g.q 21)), (1, .int x1)] → f_X0_takeOther_50 x1 t1 σ = some (r, σ') → W p l e rm_X0_takeOther s m args below meth c H locs 0 0 (MQ below (xPost KX g (some (.int r)) σ') args s 0 0 (xA KX g.q)) (F0 m 50 ls [.int t1, .ref (g.q 21)]) := by
  have hx := C.1
  have hb := C.2.1
  intro x1 t1 σ H locs ls hW hl h
  unfold f_X0_takeOther_50 at h
  refine xp_i C hW fp_0_23 KX_21 rfl (v := 5203) rfl rfl rfl dX0_takeOther_50 (fun H locs hW => ?_)
  exact w_X0_takeOther_53 C x1 _ _ _ _ hW (lv_sub hl [0, 1] rfl) h
set_option maxRecDepth 4000 in
theorem m_X0_takeOther (x1 : Int32) (σ : St) {r : Int32} {σ' : St} (h : f_X0_takeOther x1 σ = some (r, σ')) : xM l KX g yX0_takeOther cX0_takeOther 2 (some .boolean) rm_X0_takeOther [.ref (g.q 21), .int x1] σ (some (.int r)) σ' := by
  refine xmet pn_X0 rfl (Nat.le_of_ble_eq_true rfl) (lv := [(0, .ref (g.q 21)), (1, .int x1)]) rfl (fun p e s m args below meth c ls C hW hl => ?_)
  have hx := C.1
  have hb := C.2.1
  unfold f_X0_takeOther at h
  refine lv_iload_n hx hb dX0_takeOther_0 rfl (lv_at hl 1 rfl) ?_
  refine lv_bipush (v := 41) hx hb dX0_takeOther_1 rfl ?_
  refine lv_icmp_ne (tgt := 24) hx hb dX0_takeOther_3 (by decide) (fun c1 => ?_) (fun c1 => ?_)
  · have h := xif c1 h
    refine lv_iload_n hx hb dX0_takeOther_24 rfl (lv_at hl 1 rfl) ?_
    refine lv_bipush (v := 45) hx hb dX0_takeOther_25 rfl ?_
    refine lv_icmp_ne (tgt := 38) hx hb dX0_takeOther_27 (by decide) (fun c2 => ?_) (fun c2 => ?_)
    · have h := xif c2 h
      refine lv_aload_n hx hb dX0_takeOther_38 rfl (lv_at hl 0 rfl) ?_
      refine lv_iload_n hx hb dX0_takeOther_39 rfl (lv_at hl 1 rfl) ?_
      refine lv_bipush (v := 38) hx hb dX0_takeOther_40 rfl ?_
      refine lv_icmp_ne (tgt := 49) hx hb dX0_takeOther_42 (by decide) (fun c3 => ?_) (fun c3 => ?_)
      · have h := xif c3 h
        refine lv_iconst (v := 1) hx hb dX0_takeOther_49 rfl ?_
        exact w_X0_takeOther_50 C x1 1 _ _ _ _ hW (lv_sub hl [0, 1] rfl) h
      · have h := xit c3 h
        refine lv_iconst (v := 2) hx hb dX0_takeOther_45 rfl ?_
        refine lv_goto (tgt := 50) hx hb dX0_takeOther_46 (by decide) ?_
        exact w_X0_takeOther_50 C x1 2 _ _ _ _ hW (lv_sub hl [0, 1] rfl) h
    · have h := xit c2 h
      refine lv_aload_n hx hb dX0_takeOther_30 rfl (lv_at hl 0 rfl) ?_
      refine lv_iconst (v := 0) hx hb dX0_takeOther_31 rfl ?_
      refine xp_i C hW fp_0_23 KX_21 rfl (v := 5203) rfl rfl rfl dX0_takeOther_32 (fun H locs hW => ?_)
      refine lv_goto (tgt := 53) hx hb dX0_takeOther_35 (by decide) ?_
      exact w_X0_takeOther_53 C x1 _ _ _ _ hW (lv_sub hl [0, 1] rfl) h
  · have h := xit c1 h
    refine lv_aload_n hx hb dX0_takeOther_6 rfl (lv_at hl 0 rfl) ?_
    refine lv_dup hx hb dX0_takeOther_7 rfl ?_
    refine xg_i C hW fg_0_26 KX_21 rfl (v := 5204) rfl (x := σ.1 5204 0) rfl dX0_takeOther_8 ?_
    refine lv_iconst (v := 1) hx hb dX0_takeOther_11 rfl ?_
    refine lv_isub hx hb dX0_takeOther_12 ?_
    refine xp_i C hW fp_0_26 KX_21 rfl (v := 5204) rfl rfl rfl dX0_takeOther_13 (fun H locs hW => ?_)
    refine lv_aload_n hx hb dX0_takeOther_16 rfl (lv_at hl 0 rfl) ?_
    refine lv_iconst (v := 4) hx hb dX0_takeOther_17 rfl ?_
    refine xp_i C hW fp_0_23 KX_21 rfl (v := 5203) rfl rfl rfl dX0_takeOther_18 (fun H locs hW => ?_)
    refine lv_goto (tgt := 53) hx hb dX0_takeOther_21 (by decide) ?_
    exact w_X0_takeOther_53 C x1 _ _ _ _ hW (lv_sub hl [0, 1] rfl) h
end
theorem dX0_takeToken_0 : decode cX0_takeToken 0 = .ok (.aload_n 1, 1) := by decide +kernel
theorem dX0_takeToken_1 : decode cX0_takeToken 1 = .ok (.getfield 40, 3) := by decide +kernel
theorem dX0_takeToken_4 : decode cX0_takeToken 4 = .ok (.iconst 1, 1) := by decide +kernel
theorem dX0_takeToken_5 : decode cX0_takeToken 5 = .ok (.if_icmp .ne 9, 3) := by decide +kernel
theorem dX0_takeToken_8 : decode cX0_takeToken 8 = .ok (.aload_n 0, 1) := by decide +kernel
theorem dX0_takeToken_9 : decode cX0_takeToken 9 = .ok (.aload_n 1, 1) := by decide +kernel
theorem dX0_takeToken_10 : decode cX0_takeToken 10 = .ok (.invokevirtual 55, 3) := by decide +kernel
theorem dX0_takeToken_13 : decode cX0_takeToken 13 = .ok (.ireturn, 1) := by decide +kernel
theorem dX0_takeToken_14 : decode cX0_takeToken 14 = .ok (.aload_n 1, 1) := by decide +kernel
theorem dX0_takeToken_15 : decode cX0_takeToken 15 = .ok (.getfield 40, 3) := by decide +kernel
theorem dX0_takeToken_18 : decode cX0_takeToken 18 = .ok (.iconst 3, 1) := by decide +kernel
theorem dX0_takeToken_19 : decode cX0_takeToken 19 = .ok (.if_icmp .ne 14, 3) := by decide +kernel
theorem dX0_takeToken_22 : decode cX0_takeToken 22 = .ok (.aload_n 0, 1) := by decide +kernel
theorem dX0_takeToken_23 : decode cX0_takeToken 23 = .ok (.aload_n 1, 1) := by decide +kernel
theorem dX0_takeToken_24 : decode cX0_takeToken 24 = .ok (.getfield 58, 3) := by decide +kernel
theorem dX0_takeToken_27 : decode cX0_takeToken 27 = .ok (.invokevirtual 61, 3) := by decide +kernel
theorem dX0_takeToken_30 : decode cX0_takeToken 30 = .ok (.ifCond .ne 9, 3) := by decide +kernel
theorem dX0_takeToken_33 : decode cX0_takeToken 33 = .ok (.aload_n 1, 1) := by decide +kernel
theorem dX0_takeToken_34 : decode cX0_takeToken 34 = .ok (.iconst 1, 1) := by decide +kernel
theorem dX0_takeToken_35 : decode cX0_takeToken 35 = .ok (.invokevirtual 47, 3) := by decide +kernel
theorem dX0_takeToken_38 : decode cX0_takeToken 38 = .ok (.ireturn, 1) := by decide +kernel
theorem dX0_takeToken_39 : decode cX0_takeToken 39 = .ok (.aload_n 1, 1) := by decide +kernel
theorem dX0_takeToken_40 : decode cX0_takeToken 40 = .ok (.getfield 58, 3) := by decide +kernel
theorem dX0_takeToken_43 : decode cX0_takeToken 43 = .ok (.bipush 40, 2) := by decide +kernel
theorem dX0_takeToken_45 : decode cX0_takeToken 45 = .ok (.if_icmp .ne 11, 3) := by decide +kernel
theorem dX0_takeToken_48 : decode cX0_takeToken 48 = .ok (.aload_n 0, 1) := by decide +kernel
theorem dX0_takeToken_49 : decode cX0_takeToken 49 = .ok (.aload_n 1, 1) := by decide +kernel
theorem dX0_takeToken_50 : decode cX0_takeToken 50 = .ok (.invokevirtual 64, 3) := by decide +kernel
theorem dX0_takeToken_53 : decode cX0_takeToken 53 = .ok (.goto 11, 3) := by decide +kernel
theorem dX0_takeToken_56 : decode cX0_takeToken 56 = .ok (.aload_n 0, 1) := by decide +kernel
theorem dX0_takeToken_57 : decode cX0_takeToken 57 = .ok (.aload_n 1, 1) := by decide +kernel
theorem dX0_takeToken_58 : decode cX0_takeToken 58 = .ok (.getfield 58, 3) := by decide +kernel
theorem dX0_takeToken_61 : decode cX0_takeToken 61 = .ok (.invokevirtual 67, 3) := by decide +kernel
theorem dX0_takeToken_64 : decode cX0_takeToken 64 = .ok (.ireturn, 1) := by decide +kernel
abbrev rm_X0_takeToken : Room := { frames := 2, cells := 0, slots := 0, locals := 45 }
def f_X0_takeToken_33 (N : Nat) (σ : St) : Option (Int32 × St) := bd (f_X8_refuse 1 σ) (fun r12_ σ12 => grd (zbb r12_) (some (r12_, σ12)))
def f_X0_takeToken (N : Nat) (σ : St) : Option (Int32 × St) := (if (σ.1 4803 0) = 1 then bd (f_X0_takeName N σ) (fun r10_ σ10 => grd (zbb r10_) (some (r10_, σ10))) else (if (σ.1 4803 0) = 3 then bo (f_X0_goesOn (σ.1 4810 0) σ) (fun r3_ => (if r3_ = 0 then f_X0_takeToken_33 N σ else (if (σ.1 4810 0) = 40 then bd (f_X0_takeOpening σ) (fun r8_ σ8 => grd (zbb r8_) (some (r8_, σ8))) else bd (f_X0_takeOther (σ.1 4810 0) σ) (fun r6_ σ6 => grd (zbb r6_) (some (r6_, σ6)))))) else f_X0_takeToken_33 N σ))
section
variable {p : Program} {l : Launch} {e : Env} {s : State} {m : MethodId} {args : Array Value} {below : List Frame} {meth : Method} {c : Code} {g : XG}
set_option maxRecDepth 4000 in
theorem w_X0_takeToken_33 (N : Nat) {r : Int32} {σ' : St} (C : xC KX g RX0 cX0_takeToken 2 (some .boolean) p s m args meth c) : ∀ (σ : St) (H : Heap) (locs : List Loc) (ls : Array Slot), xW KX g s σ H locs → lv_has ls 2 [(1, .ref (g.q 19))] → f_X0_takeToken_33 N σ = some (r, σ') → W p l e rm_X0_takeToken s m args below meth c H locs 0 0 (MQ below (xPost KX g (some (.int r)) σ') args s 0 0 (xA KX g.q)) (F0 m 33 ls []) := by
  have hx := C.1
  have hb := C.2.1
  intro σ H locs ls hW hl h
  unfold f_X0_takeToken_33 at h
  refine lv_aload_n hx hb dX0_takeToken_33 rfl (lv_at hl 0 rfl) ?_
  refine lv_iconst (v := 1) hx hb dX0_takeToken_34 rfl ?_
  obtain ⟨r12_, σ12, e12, h⟩ := xbd h
  refine xc_V (As := [.int 1]) (rest := []) C hW (m_X8_refuse 1 _ e12) mf_X8_refuse mv_X8_refuse ml_X0_47 ⟨rfl, rfl⟩ ⟨Nat.le_of_ble_eq_true rfl, Nat.le_of_ble_eq_true rfl⟩ KX_19 rfl hl.1 rfl rfl (Nat.le_of_ble_eq_true rfl) dX0_takeToken_35 (fun H locs hW => W.eq (g2 := F0 m 38 ls [.int r12_]) rfl ?_)
  obtain ⟨g13, h⟩ := xgd h
  cases h
  exact xr_z C hW g13 dX0_takeToken_38
set_option maxRecDepth 4000 in
theorem m_X0_takeToken (N : Nat) (σ : St) {r : Int32} {σ' : St} (h : f_X0_takeToken N σ = some (r, σ')) : xM l KX g yX0_takeToken cX0_takeToken 2 (some .boolean) rm_X0_takeToken [.ref (g.q 21), .ref (g.q 19)] σ (some (.int r)) σ' := by
  refine xmet pn_X0 rfl (Nat.le_of_ble_eq_true rfl) (lv := [(0, .ref (g.q 21)), (1, .ref (g.q 19))]) rfl (fun p e s m args below meth c ls C hW hl => ?_)
  have hx := C.1
  have hb := C.2.1
  unfold f_X0_takeToken at h
  refine lv_aload_n hx hb dX0_takeToken_0 rfl (lv_at hl 1 rfl) ?_
  refine xg_i C hW fg_0_40 KX_19 rfl (v := 4803) rfl (x := σ.1 4803 0) rfl dX0_takeToken_1 ?_
  refine lv_iconst (v := 1) hx hb dX0_takeToken_4 rfl ?_
  refine lv_icmp_ne (tgt := 14) hx hb dX0_takeToken_5 (by decide) (fun c1 => ?_) (fun c1 => ?_)
  · have h := xif c1 h
    refine lv_aload_n hx hb dX0_takeToken_14 rfl (lv_at hl 1 rfl) ?_
    refine xg_i C hW fg_0_40 KX_19 rfl (v := 4803) rfl (x := σ.1 4803 0) rfl dX0_takeToken_15 ?_
    refine lv_iconst (v := 3) hx hb dX0_takeToken_18 rfl ?_
    refine lv_icmp_ne (tgt := 33) hx hb dX0_takeToken_19 (by decide) (fun c2 => ?_) (fun c2 => ?_)
    · have h := xif c2 h
      exact w_X0_takeToken_33 N C _ _ _ _ hW (lv_sub hl [1] rfl) h
    · have h := xit c2 h
      refine lv_aload_n hx hb dX0_takeToken_22 rfl (lv_at hl 0 rfl) ?_
      refine lv_aload_n hx hb dX0_takeToken_23 rfl (lv_at hl 1 rfl) ?_
      refine xg_i C hW fg_0_58 KX_19 rfl (v := 4810) rfl (x := σ.1 4810 0) rfl dX0_takeToken_24 ?_
      obtain ⟨r3_, e3, h⟩ := xbo h
      refine xc_V (As := [.int (σ.1 4810 0)]) (rest := []) C hW (m_X0_goesOn (σ.1 4810 0) _ e3) mf_X0_goesOn mv_X0_goesOn ml_X0_61 ⟨rfl, rfl⟩ ⟨Nat.le_of_ble_eq_true rfl, Nat.le_of_ble_eq_true rfl⟩ KX_21 rfl hl.1 rfl rfl (Nat.le_of_ble_eq_true rfl) dX0_takeToken_27 (fun H locs hW => W.eq (g2 := F0 m 30 ls [.int r3_]) rfl ?_)
      refine lv_if_ne (tgt := 39) hx hb dX0_takeToken_30 (by decide) (fun c4 => ?_) (fun c4 => ?_)
      · have h := xif c4 h
        refine lv_aload_n hx hb dX0_takeToken_39 rfl (lv_at hl 1 rfl) ?_
        refine xg_i C hW fg_0_58 KX_19 rfl (v := 4810) rfl (x := σ.1 4810 0) rfl dX0_takeToken_40 ?_
        refine lv_bipush (v := 40) hx hb dX0_takeToken_43 rfl ?_
        refine lv_icmp_ne (tgt := 56) hx hb dX0_takeToken_45 (by decide) (fun c5 => ?_) (fun c5 => ?_)
        · have h := xif c5 h
          refine lv_aload_n hx hb dX0_takeToken_56 rfl (lv_at hl 0 rfl) ?_
          refine lv_aload_n hx hb dX0_takeToken_57 rfl (lv_at hl 1 rfl) ?_
          refine xg_i C hW fg_0_58 KX_19 rfl (v := 4810) rfl (x := σ.1 4810 0) rfl dX0_takeToken_58 ?_
          obtain ⟨r6_, σ6, e6, h⟩ := xbd h
          refine xc_V (As := [.int (σ.1 4810 0)]) (rest := []) C hW (m_X0_takeOther (σ.1 4810 0) _ e6) mf_X0_takeOther mv_X0_takeOther ml_X0_67 ⟨rfl, rfl⟩ ⟨Nat.le_of_ble_eq_true rfl, Nat.le_of_ble_eq_true rfl⟩ KX_21 rfl hl.1 rfl rfl (Nat.le_of_ble_eq_true rfl) dX0_takeToken_61 (fun H locs hW => W.eq (g2 := F0 m 64 ls [.int r6_]) rfl ?_)
          obtain ⟨g7, h⟩ := xgd h
          cases h
          exact xr_z C hW g7 dX0_takeToken_64
        · have h := xit c5 h
          refine lv_aload_n hx hb dX0_takeToken_48 rfl (lv_at hl 0 rfl) ?_
          refine lv_aload_n hx hb dX0_takeToken_49 rfl (lv_at hl 1 rfl) ?_
          obtain ⟨r8_, σ8, e8, h⟩ := xbd h
          refine xc_V (As := [.ref (g.q 19)]) (rest := []) C hW (m_X0_takeOpening _ e8) mf_X0_takeOpening mv_X0_takeOpening ml_X0_64 ⟨rfl, rfl⟩ ⟨Nat.le_of_ble_eq_true rfl, Nat.le_of_ble_eq_true rfl⟩ KX_21 rfl hl.1 rfl rfl (Nat.le_of_ble_eq_true rfl) dX0_takeToken_50 (fun H locs hW => W.eq (g2 := F0 m 53 ls [.int r8_]) rfl ?_)
          refine lv_goto (tgt := 64) hx hb dX0_takeToken_53 (by decide) ?_
          obtain ⟨g9, h⟩ := xgd h
          cases h
          exact xr_z C hW g9 dX0_takeToken_64
      · have h := xit c4 h
        exact w_X0_takeToken_33 N C _ _ _ _ hW (lv_sub hl [1] rfl) h
  · have h := xit c1 h
    refine lv_aload_n hx hb dX0_takeToken_8 rfl (lv_at hl 0 rfl) ?_
    refine lv_aload_n hx hb dX0_takeToken_9 rfl (lv_at hl 1 rfl) ?_
    obtain ⟨r10_, σ10, e10, h⟩ := xbd h
    refine xc_V (As := [.ref (g.q 19)]) (rest := []) C hW (m_X0_takeName N _ e10) mf_X0_takeName mv_X0_takeName ml_X0_55 ⟨rfl, rfl⟩ ⟨Nat.le_of_ble_eq_true rfl, Nat.le_of_ble_eq_true rfl⟩ KX_21 rfl hl.1 rfl rfl (Nat.le_of_ble_eq_true rfl) dX0_takeToken_10 (fun H locs hW => W.eq (g2 := F0 m 13 ls [.int r10_]) rfl ?_)
    obtain ⟨g11, h⟩ := xgd h
    cases h
    exact xr_z C hW g11 dX0_takeToken_13
end
theorem dX8_isDigit_0 : decode cX8_isDigit 0 = .ok (.iload_n 0, 1) := by decide +kernel
theorem dX8_isDigit_1 : decode cX8_isDigit 1 = .ok (.bipush 48, 2) := by decide +kernel
theorem dX8_isDigit_3 : decode cX8_isDigit 3 = .ok (.if_icmp .lt 13, 3) := by decide +kernel
theorem dX8_isDigit_6 : decode cX8_isDigit 6 = .ok (.iload_n 0, 1) := by decide +kernel
theorem dX8_isDigit_7 : decode cX8_isDigit 7 = .ok (.bipush 57, 2) := by decide +kernel
theorem dX8_isDigit_9 : decode cX8_isDigit 9 = .ok (.if_icmp .gt 7, 3) := by decide +kernel
theorem dX8_isDigit_12 : decode cX8_isDigit 12 = .ok (.iconst 1, 1) := by decide +kernel
theorem dX8_isDigit_13 : decode cX8_isDigit 13 = .ok (.goto 4, 3) := by decide +kernel
theorem dX8_isDigit_16 : decode cX8_isDigit 16 = .ok (.iconst 0, 1) := by decide +kernel
theorem dX8_isDigit_17 : decode cX8_isDigit 17 = .ok (.ireturn, 1) := by decide +kernel
abbrev rm_X8_isDigit : Room := { frames := 0, cells := 0, slots := 0, locals := 0 }
def f_X8_isDigit (x0 : Int32) (σ : St) : Int32 := (if x0 < 48 then 0 else (if 57 < x0 then 0 else 1))
section
variable {p : Program} {l : Launch} {e : Env} {s : State} {m : MethodId} {args : Array Value} {below : List Frame} {meth : Method} {c : Code} {g : XG}
set_option maxRecDepth 4000 in
theorem m_X8_isDigit (x0 : Int32) (σ : St) {r : Int32} (h : f_X8_isDigit x0 σ = r) : xM l KX g yX8_isDigit cX8_isDigit 1 (some .boolean) rm_X8_isDigit [.int x0] σ (some (.int r)) σ := by
  refine xmet pn_X8 rfl (Nat.le_of_ble_eq_true rfl) (lv := [(0, .int x0)]) rfl (fun p e s m args below meth c ls C hW hl => ?_)
  have hx := C.1
  have hb := C.2.1
  unfold f_X8_isDigit at h
  refine lv_iload_n hx hb dX8_isDigit_0 rfl (lv_at hl 0 rfl) ?_
  refine lv_bipush (v := 48) hx hb dX8_isDigit_1 rfl ?_
  refine lv_icmp_lt (tgt := 16) hx hb dX8_isDigit_3 (by decide) (fun c1 => ?_) (fun c1 => ?_)
  · have h := xit c1 h
    refine lv_iconst (v := 0) hx hb dX8_isDigit_16 rfl ?_
    cases h
    exact xr_z C hW (by decide) dX8_isDigit_17
  · have h := xif c1 h
    refine lv_iload_n hx hb dX8_isDigit_6 rfl (lv_at hl 0 rfl) ?_
    refine lv_bipush (v := 57) hx hb dX8_isDigit_7 rfl ?_
    refine lv_icmp_gt (tgt := 16) hx hb dX8_isDigit_9 (by decide) (fun c2 => ?_) (fun c2 => ?_)
    · have h := xit c2 h
      refine lv_iconst (v := 0) hx hb dX8_isDigit_16 rfl ?_
      cases h
      exact xr_z C hW (by decide) dX8_isDigit_17
    · have h := xif c2 h
      refine lv_iconst (v := 1) hx hb dX8_isDigit_12 rfl ?_
      refine lv_goto (tgt := 17) hx hb dX8_isDigit_13 (by decide) ?_
      cases h
      exact xr_z C hW (by decide) dX8_isDigit_17
end
theorem dX8_isLetter_0 : decode cX8_isLetter 0 = .ok (.iload_n 0, 1) := by decide +kernel
theorem dX8_isLetter_1 : decode cX8_isLetter 1 = .ok (.bipush 97, 2) := by decide +kernel
theorem dX8_isLetter_3 : decode cX8_isLetter 3 = .ok (.if_icmp .lt 13, 3) := by decide +kernel
theorem dX8_isLetter_6 : decode cX8_isLetter 6 = .ok (.iload_n 0, 1) := by decide +kernel
theorem dX8_isLetter_7 : decode cX8_isLetter 7 = .ok (.bipush 122, 2) := by decide +kernel
theorem dX8_isLetter_9 : decode cX8_isLetter 9 = .ok (.if_icmp .gt 7, 3) := by decide +kernel
theorem dX8_isLetter_12 : decode cX8_isLetter 12 = .ok (.iconst 1, 1) := by decide +kernel
theorem dX8_isLetter_13 : decode cX8_isLetter 13 = .ok (.goto 4, 3) := by decide +kernel
theorem dX8_isLetter_16 : decode cX8_isLetter 16 = .ok (.iconst 0, 1) := by decide +kernel
theorem dX8_isLetter_17 : decode cX8_isLetter 17 = .ok (.ireturn, 1) := by decide +kernel
abbrev rm_X8_isLetter : Room := { frames := 0, cells := 0, slots := 0, locals := 0 }
def f_X8_isLetter (x0 : Int32) (σ : St) : Int32 := (if x0 < 97 then 0 else (if 122 < x0 then 0 else 1))
section
variable {p : Program} {l : Launch} {e : Env} {s : State} {m : MethodId} {args : Array Value} {below : List Frame} {meth : Method} {c : Code} {g : XG}
set_option maxRecDepth 4000 in
theorem m_X8_isLetter (x0 : Int32) (σ : St) {r : Int32} (h : f_X8_isLetter x0 σ = r) : xM l KX g yX8_isLetter cX8_isLetter 1 (some .boolean) rm_X8_isLetter [.int x0] σ (some (.int r)) σ := by
  refine xmet pn_X8 rfl (Nat.le_of_ble_eq_true rfl) (lv := [(0, .int x0)]) rfl (fun p e s m args below meth c ls C hW hl => ?_)
  have hx := C.1
  have hb := C.2.1
  unfold f_X8_isLetter at h
  refine lv_iload_n hx hb dX8_isLetter_0 rfl (lv_at hl 0 rfl) ?_
  refine lv_bipush (v := 97) hx hb dX8_isLetter_1 rfl ?_
  refine lv_icmp_lt (tgt := 16) hx hb dX8_isLetter_3 (by decide) (fun c1 => ?_) (fun c1 => ?_)
  · have h := xit c1 h
    refine lv_iconst (v := 0) hx hb dX8_isLetter_16 rfl ?_
    cases h
    exact xr_z C hW (by decide) dX8_isLetter_17
  · have h := xif c1 h
    refine lv_iload_n hx hb dX8_isLetter_6 rfl (lv_at hl 0 rfl) ?_
    refine lv_bipush (v := 122) hx hb dX8_isLetter_7 rfl ?_
    refine lv_icmp_gt (tgt := 16) hx hb dX8_isLetter_9 (by decide) (fun c2 => ?_) (fun c2 => ?_)
    · have h := xit c2 h
      refine lv_iconst (v := 0) hx hb dX8_isLetter_16 rfl ?_
      cases h
      exact xr_z C hW (by decide) dX8_isLetter_17
    · have h := xif c2 h
      refine lv_iconst (v := 1) hx hb dX8_isLetter_12 rfl ?_
      refine lv_goto (tgt := 17) hx hb dX8_isLetter_13 (by decide) ?_
      cases h
      exact xr_z C hW (by decide) dX8_isLetter_17
end
