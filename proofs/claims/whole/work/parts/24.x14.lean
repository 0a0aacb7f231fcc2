theorem dX11_sign_0 : decode cX11_sign 0 = .ok (.aload_n 0, 1) := by decide +kernel
theorem dX11_sign_1 : decode cX11_sign 1 = .ok (.getfield 19, 3) := by decide +kernel
theorem dX11_sign_4 : decode cX11_sign 4 = .ok (.iload_n 1, 1) := by decide +kernel
theorem dX11_sign_5 : decode cX11_sign 5 = .ok (.invokevirtual 146, 3) := by decide +kernel
theorem dX11_sign_8 : decode cX11_sign 8 = .ok (.ifCond .ne 6, 3) := by decide +kernel
theorem dX11_sign_11 : decode cX11_sign 11 = .ok (.bipush (-9), 2) := by decide +kernel
theorem dX11_sign_13 : decode cX11_sign 13 = .ok (.ireturn, 1) := by decide +kernel
theorem dX11_sign_14 : decode cX11_sign 14 = .ok (.iload_n 2, 1) := by decide +kernel
theorem dX11_sign_15 : decode cX11_sign 15 = .ok (.tableswitch 69 0 3 #[29, 39, 49, 59], 29) := by decide +kernel
theorem dX11_sign_44 : decode cX11_sign 44 = .ok (.aload_n 0, 1) := by decide +kernel
theorem dX11_sign_45 : decode cX11_sign 45 = .ok (.getfield 19, 3) := by decide +kernel
theorem dX11_sign_48 : decode cX11_sign 48 = .ok (.getfield 150, 3) := by decide +kernel
theorem dX11_sign_51 : decode cX11_sign 51 = .ok (.iload_n 1, 1) := by decide +kernel
theorem dX11_sign_52 : decode cX11_sign 52 = .ok (.iaload, 1) := by decide +kernel
theorem dX11_sign_53 : decode cX11_sign 53 = .ok (.ireturn, 1) := by decide +kernel
theorem dX11_sign_54 : decode cX11_sign 54 = .ok (.aload_n 0, 1) := by decide +kernel
theorem dX11_sign_55 : decode cX11_sign 55 = .ok (.getfield 19, 3) := by decide +kernel
theorem dX11_sign_58 : decode cX11_sign 58 = .ok (.getfield 153, 3) := by decide +kernel
theorem dX11_sign_61 : decode cX11_sign 61 = .ok (.iload_n 1, 1) := by decide +kernel
theorem dX11_sign_62 : decode cX11_sign 62 = .ok (.iaload, 1) := by decide +kernel
theorem dX11_sign_63 : decode cX11_sign 63 = .ok (.ireturn, 1) := by decide +kernel
theorem dX11_sign_64 : decode cX11_sign 64 = .ok (.aload_n 0, 1) := by decide +kernel
theorem dX11_sign_65 : decode cX11_sign 65 = .ok (.getfield 19, 3) := by decide +kernel
theorem dX11_sign_68 : decode cX11_sign 68 = .ok (.getfield 156, 3) := by decide +kernel
theorem dX11_sign_71 : decode cX11_sign 71 = .ok (.iload_n 1, 1) := by decide +kernel
theorem dX11_sign_72 : decode cX11_sign 72 = .ok (.iaload, 1) := by decide +kernel
theorem dX11_sign_73 : decode cX11_sign 73 = .ok (.ireturn, 1) := by decide +kernel
theorem dX11_sign_74 : decode cX11_sign 74 = .ok (.aload_n 0, 1) := by decide +kernel
theorem dX11_sign_75 : decode cX11_sign 75 = .ok (.getfield 19, 3) := by decide +kernel
theorem dX11_sign_78 : decode cX11_sign 78 = .ok (.getfield 159, 3) := by decide +kernel
theorem dX11_sign_81 : decode cX11_sign 81 = .ok (.iload_n 1, 1) := by decide +kernel
theorem dX11_sign_82 : decode cX11_sign 82 = .ok (.iaload, 1) := by decide +kernel
theorem dX11_sign_83 : decode cX11_sign 83 = .ok (.ireturn, 1) := by decide +kernel
theorem dX11_sign_84 : decode cX11_sign 84 = .ok (.aload_n 0, 1) := by decide +kernel
theorem dX11_sign_85 : decode cX11_sign 85 = .ok (.getfield 19, 3) := by decide +kernel
theorem dX11_sign_88 : decode cX11_sign 88 = .ok (.getfield 162, 3) := by decide +kernel
theorem dX11_sign_91 : decode cX11_sign 91 = .ok (.iload_n 1, 1) := by decide +kernel
theorem dX11_sign_92 : decode cX11_sign 92 = .ok (.iaload, 1) := by decide +kernel
theorem dX11_sign_93 : decode cX11_sign 93 = .ok (.aload_n 0, 1) := by decide +kernel
theorem dX11_sign_94 : decode cX11_sign 94 = .ok (.getfield 19, 3) := by decide +kernel
theorem dX11_sign_97 : decode cX11_sign 97 = .ok (.getfield 159, 3) := by decide +kernel
theorem dX11_sign_100 : decode cX11_sign 100 = .ok (.iload_n 1, 1) := by decide +kernel
theorem dX11_sign_101 : decode cX11_sign 101 = .ok (.iaload, 1) := by decide +kernel
theorem dX11_sign_102 : decode cX11_sign 102 = .ok (.iload_n 2, 1) := by decide +kernel
theorem dX11_sign_103 : decode cX11_sign 103 = .ok (.bipush (-9), 2) := by decide +kernel
theorem dX11_sign_105 : decode cX11_sign 105 = .ok (.invokestatic 165, 3) := by decide +kernel
theorem dX11_sign_108 : decode cX11_sign 108 = .ok (.ireturn, 1) := by decide +kernel
abbrev rm_X11_sign : Room := { frames := 2, cells := 0, slots := 0, locals := 45 }
def f_X11_sign (x1 : Int32) (x2 : Int32) (σ : St) : Option Int32 := (if (f_X6_has 1 x1 σ) = 0 then some ((-9)) else (if x2 = 0 then grd (ib x1 40) (some (σ.1 4 x1.toNatClampNeg)) else (if x2 = 1 then grd (ib x1 40) (some (σ.1 5 x1.toNatClampNeg)) else (if x2 = 2 then grd (ib x1 40) (some (σ.1 6 x1.toNatClampNeg)) else (if x2 = 3 then grd (ib x1 40) (some (σ.1 7 x1.toNatClampNeg)) else grd (ib x1 40) (grd (ib x1 40) (some (f_X11_soundOf (σ.1 8 x1.toNatClampNeg) (σ.1 7 x1.toNatClampNeg) x2 ((-9)) σ))))))))
section
variable {p : Program} {l : Launch} {e : Env} {s : State} {m : MethodId} {args : Array Value} {below : List Frame} {meth : Method} {c : Code} {g : XG}
set_option maxRecDepth 4000 in
theorem m_X11_sign (x1 : Int32) (x2 : Int32) (σ : St) {r : Int32} (h : f_X11_sign x1 x2 σ = some r) : xM l KX g yX11_sign cX11_sign 3 (some .int) rm_X11_sign [.ref (g.q 0), .int x1, .int x2] σ (some (.int r)) σ := by
  refine xmet pn_X11 rfl (Nat.le_of_ble_eq_true rfl) (lv := [(0, .ref (g.q 0)), (1, .int x1), (2, .int x2)]) rfl (fun p e s m args below meth c ls C hW hl => ?_)
  have hx := C.1
  have hb := C.2.1
  unfold f_X11_sign at h
  refine lv_aload_n hx hb dX11_sign_0 rfl (lv_at hl 0 rfl) ?_
  refine xg_r C hW fg_11_19 KX_0 rfl dX11_sign_1 ?_
  refine lv_iload_n hx hb dX11_sign_4 rfl (lv_at hl 1 rfl) ?_
  refine xc_V (As := [.int x1]) (rest := []) C hW (m_X6_has 1 (Or.inl rfl) x1 _ rfl) mf_X6_has mv_X6_has ml_X11_146 ⟨rfl, rfl⟩ ⟨Nat.le_of_ble_eq_true rfl, Nat.le_of_ble_eq_true rfl⟩ (KX_sl (Or.inl rfl)) rfl hl.1 rfl rfl (Nat.le_of_ble_eq_true rfl) dX11_sign_5 (fun H locs hW => W.eq (g2 := F0 m 8 ls [.int (f_X6_has 1 x1 σ)]) rfl ?_)
  refine lv_if_ne (tgt := 14) hx hb dX11_sign_8 (by decide) (fun c1 => ?_) (fun c1 => ?_)
  · have h := xif c1 h
    refine lv_iload_n hx hb dX11_sign_14 rfl (lv_at hl 2 rfl) ?_
    by_cases c2 : x2 = 0
    · have h := xit c2 h
      refine lv_tableIn (off := 29) (tgt := 44) hx hb dX11_sign_15 (by rw [c2]; decide) (by rw [c2]; decide) (by rw [c2]; rfl) (by decide) ?_
      refine lv_aload_n hx hb dX11_sign_44 rfl (lv_at hl 0 rfl) ?_
      refine xg_r C hW fg_11_19 KX_0 rfl dX11_sign_45 ?_
      refine xg_r C hW fg_11_150 KX_1 rfl dX11_sign_48 ?_
      refine lv_iload_n hx hb dX11_sign_51 rfl (lv_at hl 1 rfl) ?_
      obtain ⟨g3, h⟩ := xgd h
      refine xa_i C hW KX_4 g3 (x := σ.1 4 x1.toNatClampNeg) rfl dX11_sign_52 ?_
      cases h
      exact xr_i C hW dX11_sign_53
    · have h := xif c2 h
      by_cases c4 : x2 = 1
      · have h := xit c4 h
        refine lv_tableIn (off := 39) (tgt := 54) hx hb dX11_sign_15 (by rw [c4]; decide) (by rw [c4]; decide) (by rw [c4]; rfl) (by decide) ?_
        refine lv_aload_n hx hb dX11_sign_54 rfl (lv_at hl 0 rfl) ?_
        refine xg_r C hW fg_11_19 KX_0 rfl dX11_sign_55 ?_
        refine xg_r C hW fg_11_153 KX_1 rfl dX11_sign_58 ?_
        refine lv_iload_n hx hb dX11_sign_61 rfl (lv_at hl 1 rfl) ?_
        obtain ⟨g5, h⟩ := xgd h
        refine xa_i C hW KX_5 g5 (x := σ.1 5 x1.toNatClampNeg) rfl dX11_sign_62 ?_
        cases h
        exact xr_i C hW dX11_sign_63
      · have h := xif c4 h
        by_cases c6 : x2 = 2
        · have h := xit c6 h
          refine lv_tableIn (off := 49) (tgt := 64) hx hb dX11_sign_15 (by rw [c6]; decide) (by rw [c6]; decide) (by rw [c6]; rfl) (by decide) ?_
          refine lv_aload_n hx hb dX11_sign_64 rfl (lv_at hl 0 rfl) ?_
          refine xg_r C hW fg_11_19 KX_0 rfl dX11_sign_65 ?_
          refine xg_r C hW fg_11_156 KX_1 rfl dX11_sign_68 ?_
          refine lv_iload_n hx hb dX11_sign_71 rfl (lv_at hl 1 rfl) ?_
          obtain ⟨g7, h⟩ := xgd h
          refine xa_i C hW KX_6 g7 (x := σ.1 6 x1.toNatClampNeg) rfl dX11_sign_72 ?_
          cases h
          exact xr_i C hW dX11_sign_73
        · have h := xif c6 h
          by_cases c8 : x2 = 3
          · have h := xit c8 h
            refine lv_tableIn (off := 59) (tgt := 74) hx hb dX11_sign_15 (by rw [c8]; decide) (by rw [c8]; decide) (by rw [c8]; rfl) (by decide) ?_
            refine lv_aload_n hx hb dX11_sign_74 rfl (lv_at hl 0 rfl) ?_
            refine xg_r C hW fg_11_19 KX_0 rfl dX11_sign_75 ?_
            refine xg_r C hW fg_11_159 KX_1 rfl dX11_sign_78 ?_
            refine lv_iload_n hx hb dX11_sign_81 rfl (lv_at hl 1 rfl) ?_
            obtain ⟨g9, h⟩ := xgd h
            refine xa_i C hW KX_7 g9 (x := σ.1 7 x1.toNatClampNeg) rfl dX11_sign_82 ?_
            cases h
            exact xr_i C hW dX11_sign_83
          · have h := xif c8 h
            refine lv_tableOut (tgt := 84) hx hb dX11_sign_15 (xsw_out (fun k h1 h2 => ?_)) (by decide) ?_
            · rcases (show k = 0 ∨ k = 1 ∨ k = 2 ∨ k = 3 by omega) with rfl | rfl | rfl | rfl
              · exact c2
              · exact c4
              · exact c6
              · exact c8
            · refine lv_aload_n hx hb dX11_sign_84 rfl (lv_at hl 0 rfl) ?_
              refine xg_r C hW fg_11_19 KX_0 rfl dX11_sign_85 ?_
              refine xg_r C hW fg_11_162 KX_1 rfl dX11_sign_88 ?_
              refine lv_iload_n hx hb dX11_sign_91 rfl (lv_at hl 1 rfl) ?_
              obtain ⟨g10, h⟩ := xgd h
              refine xa_i C hW KX_8 g10 (x := σ.1 8 x1.toNatClampNeg) rfl dX11_sign_92 ?_
              refine lv_aload_n hx hb dX11_sign_93 rfl (lv_at hl 0 rfl) ?_
              refine xg_r C hW fg_11_19 KX_0 rfl dX11_sign_94 ?_
              refine xg_r C hW fg_11_159 KX_1 rfl dX11_sign_97 ?_
              refine lv_iload_n hx hb dX11_sign_100 rfl (lv_at hl 1 rfl) ?_
              obtain ⟨g11, h⟩ := xgd h
              refine xa_i C hW KX_7 g11 (x := σ.1 7 x1.toNatClampNeg) rfl dX11_sign_101 ?_
              refine lv_iload_n hx hb dX11_sign_102 rfl (lv_at hl 2 rfl) ?_
              refine lv_bipush (v := (-9)) hx hb dX11_sign_103 rfl ?_
              refine xc_S (As := [.int (σ.1 8 x1.toNatClampNeg), .int (σ.1 7 x1.toNatClampNeg), .int x2, .int ((-9))]) (rest := []) C hW (m_X11_soundOf (σ.1 8 x1.toNatClampNeg) (σ.1 7 x1.toNatClampNeg) x2 ((-9)) _ rfl) mf_X11_soundOf mt_X11_soundOf ml_X11_165 ⟨rfl, rfl⟩ ⟨Nat.le_of_ble_eq_true rfl, Nat.le_of_ble_eq_true rfl⟩ hl.1 rfl rfl (Nat.le_of_ble_eq_true rfl) dX11_sign_105 (fun H locs hW => W.eq (g2 := F0 m 108 ls [.int (f_X11_soundOf (σ.1 8 x1.toNatClampNeg) (σ.1 7 x1.toNatClampNeg) x2 ((-9)) σ)]) rfl ?_)
              cases h
              exact xr_i C hW dX11_sign_108
  · have h := xit c1 h
    refine lv_bipush (v := (-9)) hx hb dX11_sign_11 rfl ?_
    cases h
    exact xr_i C hW dX11_sign_13
end
theorem dX11_named_0 : decode cX11_named 0 = .ok (.aload_n 0, 1) := by decide +kernel
theorem dX11_named_1 : decode cX11_named 1 = .ok (.getfield 10, 3) := by decide +kernel
theorem dX11_named_4 : decode cX11_named 4 = .ok (.invokevirtual 109, 3) := by decide +kernel
theorem dX11_named_7 : decode cX11_named 7 = .ok (.aload_n 0, 1) := by decide +kernel
theorem dX11_named_8 : decode cX11_named 8 = .ok (.getfield 10, 3) := by decide +kernel
theorem dX11_named_11 : decode cX11_named 11 = .ok (.invokevirtual 169, 3) := by decide +kernel
theorem dX11_named_14 : decode cX11_named 14 = .ok (.aload_n 0, 1) := by decide +kernel
theorem dX11_named_15 : decode cX11_named 15 = .ok (.getfield 10, 3) := by decide +kernel
theorem dX11_named_18 : decode cX11_named 18 = .ok (.getfield 172, 3) := by decide +kernel
theorem dX11_named_21 : decode cX11_named 21 = .ok (.iconst 1, 1) := by decide +kernel
theorem dX11_named_22 : decode cX11_named 22 = .ok (.if_icmp .ne 7, 3) := by decide +kernel
theorem dX11_named_25 : decode cX11_named 25 = .ok (.iconst 1, 1) := by decide +kernel
theorem dX11_named_26 : decode cX11_named 26 = .ok (.goto 4, 3) := by decide +kernel
theorem dX11_named_29 : decode cX11_named 29 = .ok (.iconst 0, 1) := by decide +kernel
theorem dX11_named_30 : decode cX11_named 30 = .ok (.istore_n 1, 1) := by decide +kernel
theorem dX11_named_31 : decode cX11_named 31 = .ok (.aload_n 0, 1) := by decide +kernel
theorem dX11_named_32 : decode cX11_named 32 = .ok (.getfield 10, 3) := by decide +kernel
theorem dX11_named_35 : decode cX11_named 35 = .ok (.getfield 175, 3) := by decide +kernel
theorem dX11_named_38 : decode cX11_named 38 = .ok (.lstore_n 2, 1) := by decide +kernel
theorem dX11_named_39 : decode cX11_named 39 = .ok (.aload_n 0, 1) := by decide +kernel
theorem dX11_named_40 : decode cX11_named 40 = .ok (.getfield 10, 3) := by decide +kernel
theorem dX11_named_43 : decode cX11_named 43 = .ok (.invokevirtual 169, 3) := by decide +kernel
theorem dX11_named_46 : decode cX11_named 46 = .ok (.aload_n 0, 1) := by decide +kernel
theorem dX11_named_47 : decode cX11_named 47 = .ok (.getfield 10, 3) := by decide +kernel
theorem dX11_named_50 : decode cX11_named 50 = .ok (.getfield 172, 3) := by decide +kernel
theorem dX11_named_53 : decode cX11_named 53 = .ok (.ifCond .ne 7, 3) := by decide +kernel
theorem dX11_named_56 : decode cX11_named 56 = .ok (.iconst 1, 1) := by decide +kernel
theorem dX11_named_57 : decode cX11_named 57 = .ok (.goto 4, 3) := by decide +kernel
theorem dX11_named_60 : decode cX11_named 60 = .ok (.iconst 0, 1) := by decide +kernel
theorem dX11_named_61 : decode cX11_named 61 = .ok (.istore 4, 2) := by decide +kernel
theorem dX11_named_63 : decode cX11_named 63 = .ok (.aload_n 0, 1) := by decide +kernel
theorem dX11_named_64 : decode cX11_named 64 = .ok (.getfield 10, 3) := by decide +kernel
theorem dX11_named_67 : decode cX11_named 67 = .ok (.invokevirtual 119, 3) := by decide +kernel
theorem dX11_named_70 : decode cX11_named 70 = .ok (.iload_n 1, 1) := by decide +kernel
theorem dX11_named_71 : decode cX11_named 71 = .ok (.ifCond .eq 19, 3) := by decide +kernel
theorem dX11_named_74 : decode cX11_named 74 = .ok (.iload 4, 2) := by decide +kernel
theorem dX11_named_76 : decode cX11_named 76 = .ok (.ifCond .eq 14, 3) := by decide +kernel
theorem dX11_named_79 : decode cX11_named 79 = .ok (.aload_n 0, 1) := by decide +kernel
theorem dX11_named_80 : decode cX11_named 80 = .ok (.getfield 19, 3) := by decide +kernel
theorem dX11_named_83 : decode cX11_named 83 = .ok (.lload_n 2, 1) := by decide +kernel
theorem dX11_named_84 : decode cX11_named 84 = .ok (.invokevirtual 179, 3) := by decide +kernel
theorem dX11_named_87 : decode cX11_named 87 = .ok (.goto 4, 3) := by decide +kernel
theorem dX11_named_90 : decode cX11_named 90 = .ok (.iconst (-1), 1) := by decide +kernel
theorem dX11_named_91 : decode cX11_named 91 = .ok (.ireturn, 1) := by decide +kernel
abbrev rm_X11_named : Room := { frames := 3, cells := 0, slots := 0, locals := 61 }
def f_X11_named_61 (N : Nat) (x1 : Int32) (x2 : Int64) (t0 : Int32) (σ : St) : Option (Int32 × St) := bo (f_X8_drain σ) (fun σ6 => (if x1 = 0 then some ((-1), σ6) else (if t0 = 0 then some ((-1), σ6) else bo (f_X6_find 1 N x2 σ6) (fun r9_ => some (r9_, σ6)))))
def f_X11_named_30 (N : Nat) (t0 : Int32) (σ : St) : Option (Int32 × St) := bo (f_X8_next N σ) (fun σ4 => (if (σ4.1 4803 0) = 0 then f_X11_named_61 N t0 (σ.2 4806 0) 1 σ4 else f_X11_named_61 N t0 (σ.2 4806 0) 0 σ4))
def f_X11_named (N : Nat) (σ : St) : Option (Int32 × St) := bo (f_X8_rewind σ) (fun σ1 => bo (f_X8_next N σ1) (fun σ2 => (if (σ2.1 4803 0) = 1 then f_X11_named_30 N 1 σ2 else f_X11_named_30 N 0 σ2)))
section
variable {p : Program} {l : Launch} {e : Env} {s : State} {m : MethodId} {args : Array Value} {below : List Frame} {meth : Method} {c : Code} {g : XG}
set_option maxRecDepth 4000 in
theorem w_X11_named_61 (N : Nat) {r : Int32} {σ' : St} (C : xC KX g RX11 cX11_named 5 (some .int) p s m args meth c) : ∀ (x1 : Int32) (x2 : Int64) (t0 : Int32) (σ : St) (H : Heap) (locs : List Loc) (ls : Array Slot), xW KX g s σ H locs → lv_has ls 5 [(0, .ref (g.q 0)), (1, .int x1), (2, .long x2)] → f_X11_named_61 N x1 x2 t0 σ = some (r, σ') → W p l e rm_X11_named s m args below meth c H locs 0 0 (MQ below (xPost KX g (some (.int r)) σ') args s 0 0 (xA KX g.q)) (F0 m 61 ls [.int t0]) := by
  have hx := C.1
  have hb := C.2.1
  intro x1 x2 t0 σ H locs ls hW hl h
  unfold f_X11_named_61 at h
  refine lv_istore (lv' := [(4, .int t0), (0, .ref (g.q 0)), (1, .int x1), (2, .long x2)]) hx hb dX11_named_61 hl (Nat.le_of_ble_eq_true rfl) rfl (fun ls hl => ?_)
  refine lv_aload_n hx hb dX11_named_63 rfl (lv_at hl 1 rfl) ?_
  refine xg_r C hW fg_11_10 KX_0 rfl dX11_named_64 ?_
  obtain ⟨σ6, e6, h⟩ := xbo h
  refine xc_V (As := []) (rest := []) C hW (m_X8_drain _ e6) mf_X8_drain mv_X8_drain ml_X11_119 ⟨rfl, rfl⟩ ⟨Nat.le_of_ble_eq_true rfl, Nat.le_of_ble_eq_true rfl⟩ KX_19 rfl hl.1 rfl rfl (Nat.le_of_ble_eq_true rfl) dX11_named_67 (fun H locs hW => W.eq (g2 := F0 m 70 ls []) rfl ?_)
  refine lv_iload_n hx hb dX11_named_70 rfl (lv_at hl 2 rfl) ?_
  refine lv_if_eq (tgt := 90) hx hb dX11_named_71 (by decide) (fun c7 => ?_) (fun c7 => ?_)
  · have h := xit c7 h
    refine lv_iconst (v := (-1)) hx hb dX11_named_90 rfl ?_
    cases h
    exact xr_i C hW dX11_named_91
  · have h := xif c7 h
    refine lv_iload hx hb dX11_named_74 (lv_at hl 0 rfl) ?_
    refine lv_if_eq (tgt := 90) hx hb dX11_named_76 (by decide) (fun c8 => ?_) (fun c8 => ?_)
    · have h := xit c8 h
      refine lv_iconst (v := (-1)) hx hb dX11_named_90 rfl ?_
      cases h
      exact xr_i C hW dX11_named_91
    · have h := xif c8 h
      refine lv_aload_n hx hb dX11_named_79 rfl (lv_at hl 1 rfl) ?_
      refine xg_r C hW fg_11_19 KX_0 rfl dX11_named_80 ?_
      refine lv_lload_n hx hb dX11_named_83 rfl (lv_at hl 3 rfl) ?_
      obtain ⟨r9_, e9, h⟩ := xbo h
      refine xc_V (As := [.long x2]) (rest := []) C hW (m_X6_find 1 (Or.inl rfl) N x2 _ e9) mf_X6_find mv_X6_find ml_X11_179 ⟨rfl, rfl⟩ ⟨Nat.le_of_ble_eq_true rfl, Nat.le_of_ble_eq_true rfl⟩ (KX_sl (Or.inl rfl)) rfl hl.1 rfl rfl (Nat.le_of_ble_eq_true rfl) dX11_named_84 (fun H locs hW => W.eq (g2 := F0 m 87 ls [.int r9_]) rfl ?_)
      refine lv_goto (tgt := 91) hx hb dX11_named_87 (by decide) ?_
      cases h
      exact xr_i C hW dX11_named_91
set_option maxRecDepth 4000 in
theorem w_X11_named_30 (N : Nat) {r : Int32} {σ' : St} (C : xC KX g RX11 cX11_named 5 (some .int) p s m args meth c) : ∀ (t0 : Int32) (σ : St) (H : Heap) (locs : List Loc) (ls : Array Slot), xW KX g s σ H locs → lv_has ls 5 [(0, .ref (g.q 0))] → f_X11_named_30 N t0 σ = some (r, σ') → W p l e rm_X11_named s m args below meth c H locs 0 0 (MQ below (xPost KX g (some (.int r)) σ') args s 0 0 (xA KX g.q)) (F0 m 30 ls [.int t0]) := by
  have hx := C.1
  have hb := C.2.1
  intro t0 σ H locs ls hW hl h
  unfold f_X11_named_30 at h
  refine lv_istore_n (lv' := [(1, .int t0), (0, .ref (g.q 0))]) hx hb dX11_named_30 rfl hl (Nat.le_of_ble_eq_true rfl) rfl (fun ls hl => ?_)
  refine lv_aload_n hx hb dX11_named_31 rfl (lv_at hl 1 rfl) ?_
  refine xg_r C hW fg_11_10 KX_0 rfl dX11_named_32 ?_
  refine xg_l C hW fg_11_175 KX_19 rfl (v := 4806) rfl (x := σ.2 4806 0) rfl dX11_named_35 ?_
  refine lv_lstore_n (lv' := [(2, .long (σ.2 4806 0)), (1, .int t0), (0, .ref (g.q 0))]) hx hb dX11_named_38 rfl hl (Nat.le_of_ble_eq_true rfl) rfl (fun ls hl => ?_)
  refine lv_aload_n hx hb dX11_named_39 rfl (lv_at hl 2 rfl) ?_
  refine xg_r C hW fg_11_10 KX_0 rfl dX11_named_40 ?_
  obtain ⟨σ4, e4, h⟩ := xbo h
  refine xc_V (As := []) (rest := []) C hW (m_X8_next N _ e4) mf_X8_next mv_X8_next ml_X11_169 ⟨rfl, rfl⟩ ⟨Nat.le_of_ble_eq_true rfl, Nat.le_of_ble_eq_true rfl⟩ KX_19 rfl hl.1 rfl rfl (Nat.le_of_ble_eq_true rfl) dX11_named_43 (fun H locs hW => W.eq (g2 := F0 m 46 ls []) rfl ?_)
  refine lv_aload_n hx hb dX11_named_46 rfl (lv_at hl 2 rfl) ?_
  refine xg_r C hW fg_11_10 KX_0 rfl dX11_named_47 ?_
  refine xg_i C hW fg_11_172 KX_19 rfl (v := 4803) rfl (x := σ4.1 4803 0) rfl dX11_named_50 ?_
  refine lv_if_ne (tgt := 60) hx hb dX11_named_53 (by decide) (fun c5 => ?_) (fun c5 => ?_)
  · have h := xif c5 h
    refine lv_iconst (v := 0) hx hb dX11_named_60 rfl ?_
    exact w_X11_named_61 N C t0 (σ.2 4806 0) 0 _ _ _ _ hW (lv_sub hl [2, 1, 0] rfl) h
  · have h := xit c5 h
    refine lv_iconst (v := 1) hx hb dX11_named_56 rfl ?_
    refine lv_goto (tgt := 61) hx hb dX11_named_57 (by decide) ?_
    exact w_X11_named_61 N C t0 (σ.2 4806 0) 1 _ _ _ _ hW (lv_sub hl [2, 1, 0] rfl) h
set_option maxRecDepth 4000 in
theorem m_X11_named (N : Nat) (σ : St) {r : Int32} {σ' : St} (h : f_X11_named N σ = some (r, σ')) : xM l KX g yX11_named cX11_named 5 (some .int) rm_X11_named [.ref (g.q 0)] σ (some (.int r)) σ' := by
  refine xmet pn_X11 rfl (Nat.le_of_ble_eq_true rfl) (lv := [(0, .ref (g.q 0))]) rfl (fun p e s m args below meth c ls C hW hl => ?_)
  have hx := C.1
  have hb := C.2.1
  unfold f_X11_named at h
  refine lv_aload_n hx hb dX11_named_0 rfl (lv_at hl 0 rfl) ?_
  refine xg_r C hW fg_11_10 KX_0 rfl dX11_named_1 ?_
  obtain ⟨σ1, e1, h⟩ := xbo h
  refine xc_V (As := []) (rest := []) C hW (m_X8_rewind _ e1) mf_X8_rewind mv_X8_rewind ml_X11_109 ⟨rfl, rfl⟩ ⟨Nat.le_of_ble_eq_true rfl, Nat.le_of_ble_eq_true rfl⟩ KX_19 rfl hl.1 rfl rfl (Nat.le_of_ble_eq_true rfl) dX11_named_4 (fun H locs hW => W.eq (g2 := F0 m 7 ls []) rfl ?_)
  refine lv_aload_n hx hb dX11_named_7 rfl (lv_at hl 0 rfl) ?_
  refine xg_r C hW fg_11_10 KX_0 rfl dX11_named_8 ?_
  obtain ⟨σ2, e2, h⟩ := xbo h
  refine xc_V (As := []) (rest := []) C hW (m_X8_next N _ e2) mf_X8_next mv_X8_next ml_X11_169 ⟨rfl, rfl⟩ ⟨Nat.le_of_ble_eq_true rfl, Nat.le_of_ble_eq_true rfl⟩ KX_19 rfl hl.1 rfl rfl (Nat.le_of_ble_eq_true rfl) dX11_named_11 (fun H locs hW => W.eq (g2 := F0 m 14 ls []) rfl ?_)
  refine lv_aload_n hx hb dX11_named_14 rfl (lv_at hl 0 rfl) ?_
  refine xg_r C hW fg_11_10 KX_0 rfl dX11_named_15 ?_
  refine xg_i C hW fg_11_172 KX_19 rfl (v := 4803) rfl (x := σ2.1 4803 0) rfl dX11_named_18 ?_
  refine lv_iconst (v := 1) hx hb dX11_named_21 rfl ?_
  refine lv_icmp_ne (tgt := 29) hx hb dX11_named_22 (by decide) (fun c3 => ?_) (fun c3 => ?_)
  · have h := xif c3 h
    refine lv_iconst (v := 0) hx hb dX11_named_29 rfl ?_
    exact w_X11_named_30 N C 0 _ _ _ _ hW (lv_sub hl [0] rfl) h
  · have h := xit c3 h
    refine lv_iconst (v := 1) hx hb dX11_named_25 rfl ?_
    refine lv_goto (tgt := 30) hx hb dX11_named_26 (by decide) ?_
    exact w_X11_named_30 N C 1 _ _ _ _ hW (lv_sub hl [0] rfl) h
end
theorem dX11_blocks_0 : decode cX11_blocks 0 = .ok (.aload_n 0, 1) := by decide +kernel
theorem dX11_blocks_1 : decode cX11_blocks 1 = .ok (.getfield 10, 3) := by decide +kernel
theorem dX11_blocks_4 : decode cX11_blocks 4 = .ok (.invokevirtual 109, 3) := by decide +kernel
theorem dX11_blocks_7 : decode cX11_blocks 7 = .ok (.aload_n 0, 1) := by decide +kernel
theorem dX11_blocks_8 : decode cX11_blocks 8 = .ok (.getfield 10, 3) := by decide +kernel
theorem dX11_blocks_11 : decode cX11_blocks 11 = .ok (.invokevirtual 112, 3) := by decide +kernel
theorem dX11_blocks_14 : decode cX11_blocks 14 = .ok (.aload_n 0, 1) := by decide +kernel
theorem dX11_blocks_15 : decode cX11_blocks 15 = .ok (.getfield 31, 3) := by decide +kernel
theorem dX11_blocks_18 : decode cX11_blocks 18 = .ok (.aload_n 0, 1) := by decide +kernel
theorem dX11_blocks_19 : decode cX11_blocks 19 = .ok (.getfield 10, 3) := by decide +kernel
theorem dX11_blocks_22 : decode cX11_blocks 22 = .ok (.invokevirtual 183, 3) := by decide +kernel
theorem dX11_blocks_25 : decode cX11_blocks 25 = .ok (.istore_n 1, 1) := by decide +kernel
theorem dX11_blocks_26 : decode cX11_blocks 26 = .ok (.aload_n 0, 1) := by decide +kernel
theorem dX11_blocks_27 : decode cX11_blocks 27 = .ok (.getfield 10, 3) := by decide +kernel
theorem dX11_blocks_30 : decode cX11_blocks 30 = .ok (.invokevirtual 119, 3) := by decide +kernel
theorem dX11_blocks_33 : decode cX11_blocks 33 = .ok (.iload_n 1, 1) := by decide +kernel
theorem dX11_blocks_34 : decode cX11_blocks 34 = .ok (.ifCond .ne 5, 3) := by decide +kernel
theorem dX11_blocks_37 : decode cX11_blocks 37 = .ok (.iconst (-1), 1) := by decide +kernel
theorem dX11_blocks_38 : decode cX11_blocks 38 = .ok (.ireturn, 1) := by decide +kernel
theorem dX11_blocks_39 : decode cX11_blocks 39 = .ok (.aload_n 0, 1) := by decide +kernel
theorem dX11_blocks_40 : decode cX11_blocks 40 = .ok (.getfield 40, 3) := by decide +kernel
theorem dX11_blocks_43 : decode cX11_blocks 43 = .ok (.invokevirtual 186, 3) := by decide +kernel
theorem dX11_blocks_46 : decode cX11_blocks 46 = .ok (.aload_n 0, 1) := by decide +kernel
theorem dX11_blocks_47 : decode cX11_blocks 47 = .ok (.getfield 40, 3) := by decide +kernel
theorem dX11_blocks_50 : decode cX11_blocks 50 = .ok (.getfield 189, 3) := by decide +kernel
theorem dX11_blocks_53 : decode cX11_blocks 53 = .ok (.ireturn, 1) := by decide +kernel
abbrev rm_X11_blocks : Room := { frames := 65, cells := 0, slots := 0, locals := 1554 }
def f_X11_blocks (N : Nat) (σ : St) : Option (Int32 × St) := bo (f_X8_rewind σ) (fun σ1 => bo (f_X8_forgetFault σ1) (fun σ2 => bd (f_X0_take N σ2) (fun r3_ σ3 => bo (f_X8_drain σ3) (fun σ4 => (if r3_ = 0 then some ((-1), σ4) else bo (f_X1_layOut N σ4) (fun σ6 => some (σ6.1 5602 0, σ6)))))))
section
variable {p : Program} {l : Launch} {e : Env} {s : State} {m : MethodId} {args : Array Value} {below : List Frame} {meth : Method} {c : Code} {g : XG}
set_option maxRecDepth 4000 in
theorem m_X11_blocks (N : Nat) (σ : St) {r : Int32} {σ' : St} (h : f_X11_blocks N σ = some (r, σ')) : xM l KX g yX11_blocks cX11_blocks 2 (some .int) rm_X11_blocks [.ref (g.q 0)] σ (some (.int r)) σ' := by
  refine xmet pn_X11 rfl (Nat.le_of_ble_eq_true rfl) (lv := [(0, .ref (g.q 0))]) rfl (fun p e s m args below meth c ls C hW hl => ?_)
  have hx := C.1
  have hb := C.2.1
  unfold f_X11_blocks at h
  refine lv_aload_n hx hb dX11_blocks_0 rfl (lv_at hl 0 rfl) ?_
  refine xg_r C hW fg_11_10 KX_0 rfl dX11_blocks_1 ?_
  obtain ⟨σ1, e1, h⟩ := xbo h
  refine xc_V (As := []) (rest := []) C hW (m_X8_rewind _ e1) mf_X8_rewind mv_X8_rewind ml_X11_109 ⟨rfl, rfl⟩ ⟨Nat.le_of_ble_eq_true rfl, Nat.le_of_ble_eq_true rfl⟩ KX_19 rfl hl.1 rfl rfl (Nat.le_of_ble_eq_true rfl) dX11_blocks_4 (fun H locs hW => W.eq (g2 := F0 m 7 ls []) rfl ?_)
  refine lv_aload_n hx hb dX11_blocks_7 rfl (lv_at hl 0 rfl) ?_
  refine xg_r C hW fg_11_10 KX_0 rfl dX11_blocks_8 ?_
  obtain ⟨σ2, e2, h⟩ := xbo h
  refine xc_V (As := []) (rest := []) C hW (m_X8_forgetFault _ e2) mf_X8_forgetFault mv_X8_forgetFault ml_X11_112 ⟨rfl, rfl⟩ ⟨Nat.le_of_ble_eq_true rfl, Nat.le_of_ble_eq_true rfl⟩ KX_19 rfl hl.1 rfl rfl (Nat.le_of_ble_eq_true rfl) dX11_blocks_11 (fun H locs hW => W.eq (g2 := F0 m 14 ls []) rfl ?_)
  refine lv_aload_n hx hb dX11_blocks_14 rfl (lv_at hl 0 rfl) ?_
  refine xg_r C hW fg_11_31 KX_0 rfl dX11_blocks_15 ?_
  refine lv_aload_n hx hb dX11_blocks_18 rfl (lv_at hl 0 rfl) ?_
  refine xg_r C hW fg_11_10 KX_0 rfl dX11_blocks_19 ?_
  obtain ⟨r3_, σ3, e3, h⟩ := xbd h
  refine xc_V (As := [.ref (g.q 19)]) (rest := []) C hW (m_X0_take N _ e3) mf_X0_take mv_X0_take ml_X11_183 ⟨rfl, rfl⟩ ⟨Nat.le_of_ble_eq_true rfl, Nat.le_of_ble_eq_true rfl⟩ KX_21 rfl hl.1 rfl rfl (Nat.le_of_ble_eq_true rfl) dX11_blocks_22 (fun H locs hW => W.eq (g2 := F0 m 25 ls [.int r3_]) rfl ?_)
  refine lv_istore_n (lv' := [(1, .int r3_), (0, .ref (g.q 0))]) hx hb dX11_blocks_25 rfl hl (Nat.le_of_ble_eq_true rfl) rfl (fun ls hl => ?_)
  refine lv_aload_n hx hb dX11_blocks_26 rfl (lv_at hl 1 rfl) ?_
  refine xg_r C hW fg_11_10 KX_0 rfl dX11_blocks_27 ?_
  obtain ⟨σ4, e4, h⟩ := xbo h
  refine xc_V (As := []) (rest := []) C hW (m_X8_drain _ e4) mf_X8_drain mv_X8_drain ml_X11_119 ⟨rfl, rfl⟩ ⟨Nat.le_of_ble_eq_true rfl, Nat.le_of_ble_eq_true rfl⟩ KX_19 rfl hl.1 rfl rfl (Nat.le_of_ble_eq_true rfl) dX11_blocks_30 (fun H locs hW => W.eq (g2 := F0 m 33 ls []) rfl ?_)
  refine lv_iload_n hx hb dX11_blocks_33 rfl (lv_at hl 0 rfl) ?_
  refine lv_if_ne (tgt := 39) hx hb dX11_blocks_34 (by decide) (fun c5 => ?_) (fun c5 => ?_)
  · have h := xif c5 h
    refine lv_aload_n hx hb dX11_blocks_39 rfl (lv_at hl 1 rfl) ?_
    refine xg_r C hW fg_11_40 KX_0 rfl dX11_blocks_40 ?_
    obtain ⟨σ6, e6, h⟩ := xbo h
    refine xc_V (As := []) (rest := []) C hW (m_X1_layOut N _ e6) mf_X1_layOut mv_X1_layOut ml_X11_186 ⟨rfl, rfl⟩ ⟨Nat.le_of_ble_eq_true rfl, Nat.le_of_ble_eq_true rfl⟩ KX_23 rfl hl.1 rfl rfl (Nat.le_of_ble_eq_true rfl) dX11_blocks_43 (fun H locs hW => W.eq (g2 := F0 m 46 ls []) rfl ?_)
    refine lv_aload_n hx hb dX11_blocks_46 rfl (lv_at hl 1 rfl) ?_
    refine xg_r C hW fg_11_40 KX_0 rfl dX11_blocks_47 ?_
    refine xg_i C hW fg_11_189 KX_23 rfl (v := 5602) rfl (x := σ6.1 5602 0) rfl dX11_blocks_50 ?_
    cases h
    exact xr_i C hW dX11_blocks_53
  · have h := xit c5 h
    refine lv_iconst (v := (-1)) hx hb dX11_blocks_37 rfl ?_
    cases h
    exact xr_i C hW dX11_blocks_38
end
theorem dX11_block_0 : decode cX11_block 0 = .ok (.iload_n 1, 1) := by decide +kernel
theorem dX11_block_1 : decode cX11_block 1 = .ok (.ifCond .lt 14, 3) := by decide +kernel
theorem dX11_block_4 : decode cX11_block 4 = .ok (.iload_n 1, 1) := by decide +kernel
theorem dX11_block_5 : decode cX11_block 5 = .ok (.aload_n 0, 1) := by decide +kernel
theorem dX11_block_6 : decode cX11_block 6 = .ok (.getfield 40, 3) := by decide +kernel
theorem dX11_block_9 : decode cX11_block 9 = .ok (.getfield 189, 3) := by decide +kernel
theorem dX11_block_12 : decode cX11_block 12 = .ok (.if_icmp .lt 6, 3) := by decide +kernel
theorem dX11_block_15 : decode cX11_block 15 = .ok (.bipush (-9), 2) := by decide +kernel
theorem dX11_block_17 : decode cX11_block 17 = .ok (.ireturn, 1) := by decide +kernel
theorem dX11_block_18 : decode cX11_block 18 = .ok (.aload_n 0, 1) := by decide +kernel
theorem dX11_block_19 : decode cX11_block 19 = .ok (.getfield 40, 3) := by decide +kernel
theorem dX11_block_22 : decode cX11_block 22 = .ok (.getfield 190, 3) := by decide +kernel
theorem dX11_block_25 : decode cX11_block 25 = .ok (.iload_n 1, 1) := by decide +kernel
theorem dX11_block_26 : decode cX11_block 26 = .ok (.iaload, 1) := by decide +kernel
theorem dX11_block_27 : decode cX11_block 27 = .ok (.istore_n 3, 1) := by decide +kernel
theorem dX11_block_28 : decode cX11_block 28 = .ok (.iload_n 3, 1) := by decide +kernel
theorem dX11_block_29 : decode cX11_block 29 = .ok (.invokestatic 193, 3) := by decide +kernel
theorem dX11_block_32 : decode cX11_block 32 = .ok (.istore 4, 2) := by decide +kernel
theorem dX11_block_34 : decode cX11_block 34 = .ok (.iload_n 2, 1) := by decide +kernel
theorem dX11_block_35 : decode cX11_block 35 = .ok (.tableswitch 117 0 6 #[41, 46, 51, 61, 71, 89, 103], 41) := by decide +kernel
theorem dX11_block_76 : decode cX11_block 76 = .ok (.iload_n 3, 1) := by decide +kernel
theorem dX11_block_77 : decode cX11_block 77 = .ok (.invokestatic 197, 3) := by decide +kernel
theorem dX11_block_80 : decode cX11_block 80 = .ok (.ireturn, 1) := by decide +kernel
theorem dX11_block_81 : decode cX11_block 81 = .ok (.iload_n 3, 1) := by decide +kernel
theorem dX11_block_82 : decode cX11_block 82 = .ok (.invokestatic 200, 3) := by decide +kernel
theorem dX11_block_85 : decode cX11_block 85 = .ok (.ireturn, 1) := by decide +kernel
theorem dX11_block_86 : decode cX11_block 86 = .ok (.aload_n 0, 1) := by decide +kernel
theorem dX11_block_87 : decode cX11_block 87 = .ok (.getfield 40, 3) := by decide +kernel
theorem dX11_block_90 : decode cX11_block 90 = .ok (.getfield 203, 3) := by decide +kernel
theorem dX11_block_93 : decode cX11_block 93 = .ok (.iload_n 1, 1) := by decide +kernel
theorem dX11_block_94 : decode cX11_block 94 = .ok (.iaload, 1) := by decide +kernel
theorem dX11_block_95 : decode cX11_block 95 = .ok (.ireturn, 1) := by decide +kernel
theorem dX11_block_96 : decode cX11_block 96 = .ok (.aload_n 0, 1) := by decide +kernel
theorem dX11_block_97 : decode cX11_block 97 = .ok (.getfield 19, 3) := by decide +kernel
theorem dX11_block_100 : decode cX11_block 100 = .ok (.iload 4, 2) := by decide +kernel
theorem dX11_block_102 : decode cX11_block 102 = .ok (.invokevirtual 206, 3) := by decide +kernel
theorem dX11_block_105 : decode cX11_block 105 = .ok (.ireturn, 1) := by decide +kernel
theorem dX11_block_106 : decode cX11_block 106 = .ok (.aload_n 0, 1) := by decide +kernel
theorem dX11_block_107 : decode cX11_block 107 = .ok (.getfield 19, 3) := by decide +kernel
theorem dX11_block_110 : decode cX11_block 110 = .ok (.iload 4, 2) := by decide +kernel
theorem dX11_block_112 : decode cX11_block 112 = .ok (.invokevirtual 209, 3) := by decide +kernel
theorem dX11_block_115 : decode cX11_block 115 = .ok (.ifCond .eq 7, 3) := by decide +kernel
theorem dX11_block_118 : decode cX11_block 118 = .ok (.iconst 1, 1) := by decide +kernel
theorem dX11_block_119 : decode cX11_block 119 = .ok (.goto 4, 3) := by decide +kernel
theorem dX11_block_122 : decode cX11_block 122 = .ok (.iconst 0, 1) := by decide +kernel
theorem dX11_block_123 : decode cX11_block 123 = .ok (.ireturn, 1) := by decide +kernel
theorem dX11_block_124 : decode cX11_block 124 = .ok (.aload_n 0, 1) := by decide +kernel
theorem dX11_block_125 : decode cX11_block 125 = .ok (.getfield 19, 3) := by decide +kernel
theorem dX11_block_128 : decode cX11_block 128 = .ok (.iload_n 3, 1) := by decide +kernel
theorem dX11_block_129 : decode cX11_block 129 = .ok (.invokestatic 197, 3) := by decide +kernel
theorem dX11_block_132 : decode cX11_block 132 = .ok (.iload 4, 2) := by decide +kernel
theorem dX11_block_134 : decode cX11_block 134 = .ok (.invokevirtual 212, 3) := by decide +kernel
theorem dX11_block_137 : decode cX11_block 137 = .ok (.ireturn, 1) := by decide +kernel
theorem dX11_block_138 : decode cX11_block 138 = .ok (.aload_n 0, 1) := by decide +kernel
theorem dX11_block_139 : decode cX11_block 139 = .ok (.getfield 19, 3) := by decide +kernel
theorem dX11_block_142 : decode cX11_block 142 = .ok (.iload_n 3, 1) := by decide +kernel
theorem dX11_block_143 : decode cX11_block 143 = .ok (.invokestatic 200, 3) := by decide +kernel
theorem dX11_block_146 : decode cX11_block 146 = .ok (.iload 4, 2) := by decide +kernel
theorem dX11_block_148 : decode cX11_block 148 = .ok (.invokevirtual 212, 3) := by decide +kernel
theorem dX11_block_151 : decode cX11_block 151 = .ok (.ireturn, 1) := by decide +kernel
theorem dX11_block_152 : decode cX11_block 152 = .ok (.bipush (-9), 2) := by decide +kernel
theorem dX11_block_154 : decode cX11_block 154 = .ok (.ireturn, 1) := by decide +kernel
abbrev rm_X11_block : Room := { frames := 2, cells := 0, slots := 0, locals := 80 }
def f_X11_block (x1 : Int32) (x2 : Int32) (σ : St) : Option Int32 := (if x1 < 0 then some ((-9)) else (if x1 < (σ.1 5602 0) then grd (ib x1 12) ((if x2 = 0 then some (f_X11_widthOf (σ.1 24 x1.toNatClampNeg) σ) else (if x2 = 1 then some (f_X11_heightOf (σ.1 24 x1.toNatClampNeg) σ) else (if x2 = 2 then grd (ib x1 12) (some (σ.1 25 x1.toNatClampNeg)) else (if x2 = 3 then bo (f_X6_percentOf 1 (f_X11_edgeOf (σ.1 24 x1.toNatClampNeg) σ) σ) (fun r9_ => some r9_) else (if x2 = 4 then bo (f_X6_isLegible 1 (f_X11_edgeOf (σ.1 24 x1.toNatClampNeg) σ) σ) (fun r11_ => (if r11_ = 0 then some 0 else some 1)) else (if x2 = 5 then bo (f_X6_shrunk 1 (f_X11_widthOf (σ.1 24 x1.toNatClampNeg) σ) (f_X11_edgeOf (σ.1 24 x1.toNatClampNeg) σ) σ) (fun r14_ => some r14_) else (if x2 = 6 then bo (f_X6_shrunk 1 (f_X11_heightOf (σ.1 24 x1.toNatClampNeg) σ) (f_X11_edgeOf (σ.1 24 x1.toNatClampNeg) σ) σ) (fun r16_ => some r16_) else some ((-9)))))))))) else some ((-9))))
section
variable {p : Program} {l : Launch} {e : Env} {s : State} {m : MethodId} {args : Array Value} {below : List Frame} {meth : Method} {c : Code} {g : XG}
set_option maxRecDepth 4000 in
theorem m_X11_block (x1 : Int32) (x2 : Int32) (σ : St) {r : Int32} (h : f_X11_block x1 x2 σ = some r) : xM l KX g yX11_block cX11_block 5 (some .int) rm_X11_block [.ref (g.q 0), .int x1, .int x2] σ (some (.int r)) σ := by
  refine xmet pn_X11 rfl (Nat.le_of_ble_eq_true rfl) (lv := [(0, .ref (g.q 0)), (1, .int x1), (2, .int x2)]) rfl (fun p e s m args below meth c ls C hW hl => ?_)
  have hx := C.1
  have hb := C.2.1
  unfold f_X11_block at h
  refine lv_iload_n hx hb dX11_block_0 rfl (lv_at hl 1 rfl) ?_
  refine lv_if_lt (tgt := 15) hx hb dX11_block_1 (by decide) (fun c1 => ?_) (fun c1 => ?_)
  · have h := xit c1 h
    refine lv_bipush (v := (-9)) hx hb dX11_block_15 rfl ?_
    cases h
    exact xr_i C hW dX11_block_17
  · have h := xif c1 h
    refine lv_iload_n hx hb dX11_block_4 rfl (lv_at hl 1 rfl) ?_
    refine lv_aload_n hx hb dX11_block_5 rfl (lv_at hl 0 rfl) ?_
    refine xg_r C hW fg_11_40 KX_0 rfl dX11_block_6 ?_
    refine xg_i C hW fg_11_189 KX_23 rfl (v := 5602) rfl (x := σ.1 5602 0) rfl dX11_block_9 ?_
    refine lv_icmp_lt (tgt := 18) hx hb dX11_block_12 (by decide) (fun c2 => ?_) (fun c2 => ?_)
    · have h := xit c2 h
      refine lv_aload_n hx hb dX11_block_18 rfl (lv_at hl 0 rfl) ?_
      refine xg_r C hW fg_11_40 KX_0 rfl dX11_block_19 ?_
      refine xg_r C hW fg_11_190 KX_23 rfl dX11_block_22 ?_
      refine lv_iload_n hx hb dX11_block_25 rfl (lv_at hl 1 rfl) ?_
      obtain ⟨g3, h⟩ := xgd h
      refine xa_i C hW KX_24 g3 (x := σ.1 24 x1.toNatClampNeg) rfl dX11_block_26 ?_
      refine lv_istore_n (lv' := [(3, .int (σ.1 24 x1.toNatClampNeg)), (0, .ref (g.q 0)), (1, .int x1), (2, .int x2)]) hx hb dX11_block_27 rfl hl (Nat.le_of_ble_eq_true rfl) rfl (fun ls hl => ?_)
      refine lv_iload_n hx hb dX11_block_28 rfl (lv_at hl 0 rfl) ?_
      refine xc_S (As := [.int (σ.1 24 x1.toNatClampNeg)]) (rest := []) C hW (m_X11_edgeOf (σ.1 24 x1.toNatClampNeg) _ rfl) mf_X11_edgeOf mt_X11_edgeOf ml_X11_193 ⟨rfl, rfl⟩ ⟨Nat.le_of_ble_eq_true rfl, Nat.le_of_ble_eq_true rfl⟩ hl.1 rfl rfl (Nat.le_of_ble_eq_true rfl) dX11_block_29 (fun H locs hW => W.eq (g2 := F0 m 32 ls [.int (f_X11_edgeOf (σ.1 24 x1.toNatClampNeg) σ)]) rfl ?_)
      refine lv_istore (lv' := [(4, .int (f_X11_edgeOf (σ.1 24 x1.toNatClampNeg) σ)), (3, .int (σ.1 24 x1.toNatClampNeg)), (0, .ref (g.q 0)), (1, .int x1), (2, .int x2)]) hx hb dX11_block_32 hl (Nat.le_of_ble_eq_true rfl) rfl (fun ls hl => ?_)
      refine lv_iload_n hx hb dX11_block_34 rfl (lv_at hl 4 rfl) ?_
      by_cases c4 : x2 = 0
      · have h := xit c4 h
        refine lv_tableIn (off := 41) (tgt := 76) hx hb dX11_block_35 (by rw [c4]; decide) (by rw [c4]; decide) (by rw [c4]; rfl) (by decide) ?_
        refine lv_iload_n hx hb dX11_block_76 rfl (lv_at hl 1 rfl) ?_
        refine xc_S (As := [.int (σ.1 24 x1.toNatClampNeg)]) (rest := []) C hW (m_X11_widthOf (σ.1 24 x1.toNatClampNeg) _ rfl) mf_X11_widthOf mt_X11_widthOf ml_X11_197 ⟨rfl, rfl⟩ ⟨Nat.le_of_ble_eq_true rfl, Nat.le_of_ble_eq_true rfl⟩ hl.1 rfl rfl (Nat.le_of_ble_eq_true rfl) dX11_block_77 (fun H locs hW => W.eq (g2 := F0 m 80 ls [.int (f_X11_widthOf (σ.1 24 x1.toNatClampNeg) σ)]) rfl ?_)
        cases h
        exact xr_i C hW dX11_block_80
      · have h := xif c4 h
        by_cases c5 : x2 = 1
        · have h := xit c5 h
          refine lv_tableIn (off := 46) (tgt := 81) hx hb dX11_block_35 (by rw [c5]; decide) (by rw [c5]; decide) (by rw [c5]; rfl) (by decide) ?_
          refine lv_iload_n hx hb dX11_block_81 rfl (lv_at hl 1 rfl) ?_
          refine xc_S (As := [.int (σ.1 24 x1.toNatClampNeg)]) (rest := []) C hW (m_X11_heightOf (σ.1 24 x1.toNatClampNeg) _ rfl) mf_X11_heightOf mt_X11_heightOf ml_X11_200 ⟨rfl, rfl⟩ ⟨Nat.le_of_ble_eq_true rfl, Nat.le_of_ble_eq_true rfl⟩ hl.1 rfl rfl (Nat.le_of_ble_eq_true rfl) dX11_block_82 (fun H locs hW => W.eq (g2 := F0 m 85 ls [.int (f_X11_heightOf (σ.1 24 x1.toNatClampNeg) σ)]) rfl ?_)
          cases h
          exact xr_i C hW dX11_block_85
        · have h := xif c5 h
          by_cases c6 : x2 = 2
          · have h := xit c6 h
            refine lv_tableIn (off := 51) (tgt := 86) hx hb dX11_block_35 (by rw [c6]; decide) (by rw [c6]; decide) (by rw [c6]; rfl) (by decide) ?_
            refine lv_aload_n hx hb dX11_block_86 rfl (lv_at hl 2 rfl) ?_
            refine xg_r C hW fg_11_40 KX_0 rfl dX11_block_87 ?_
            refine xg_r C hW fg_11_203 KX_23 rfl dX11_block_90 ?_
            refine lv_iload_n hx hb dX11_block_93 rfl (lv_at hl 3 rfl) ?_
            obtain ⟨g7, h⟩ := xgd h
            refine xa_i C hW KX_25 g7 (x := σ.1 25 x1.toNatClampNeg) rfl dX11_block_94 ?_
            cases h
            exact xr_i C hW dX11_block_95
          · have h := xif c6 h
            by_cases c8 : x2 = 3
            · have h := xit c8 h
              refine lv_tableIn (off := 61) (tgt := 96) hx hb dX11_block_35 (by rw [c8]; decide) (by rw [c8]; decide) (by rw [c8]; rfl) (by decide) ?_
              refine lv_aload_n hx hb dX11_block_96 rfl (lv_at hl 2 rfl) ?_
              refine xg_r C hW fg_11_19 KX_0 rfl dX11_block_97 ?_
              refine lv_iload hx hb dX11_block_100 (lv_at hl 0 rfl) ?_
              obtain ⟨r9_, e9, h⟩ := xbo h
              refine xc_V (As := [.int (f_X11_edgeOf (σ.1 24 x1.toNatClampNeg) σ)]) (rest := []) C hW (m_X6_percentOf 1 (Or.inl rfl) (f_X11_edgeOf (σ.1 24 x1.toNatClampNeg) σ) _ e9) mf_X6_percentOf mv_X6_percentOf ml_X11_206 ⟨rfl, rfl⟩ ⟨Nat.le_of_ble_eq_true rfl, Nat.le_of_ble_eq_true rfl⟩ (KX_sl (Or.inl rfl)) rfl hl.1 rfl rfl (Nat.le_of_ble_eq_true rfl) dX11_block_102 (fun H locs hW => W.eq (g2 := F0 m 105 ls [.int r9_]) rfl ?_)
              cases h
              exact xr_i C hW dX11_block_105
            · have h := xif c8 h
              by_cases c10 : x2 = 4
              · have h := xit c10 h
                refine lv_tableIn (off := 71) (tgt := 106) hx hb dX11_block_35 (by rw [c10]; decide) (by rw [c10]; decide) (by rw [c10]; rfl) (by decide) ?_
                refine lv_aload_n hx hb dX11_block_106 rfl (lv_at hl 2 rfl) ?_
                refine xg_r C hW fg_11_19 KX_0 rfl dX11_block_107 ?_
                refine lv_iload hx hb dX11_block_110 (lv_at hl 0 rfl) ?_
                obtain ⟨r11_, e11, h⟩ := xbo h
                refine xc_V (As := [.int (f_X11_edgeOf (σ.1 24 x1.toNatClampNeg) σ)]) (rest := []) C hW (m_X6_isLegible 1 (Or.inl rfl) (f_X11_edgeOf (σ.1 24 x1.toNatClampNeg) σ) _ e11) mf_X6_isLegible mv_X6_isLegible ml_X11_209 ⟨rfl, rfl⟩ ⟨Nat.le_of_ble_eq_true rfl, Nat.le_of_ble_eq_true rfl⟩ (KX_sl (Or.inl rfl)) rfl hl.1 rfl rfl (Nat.le_of_ble_eq_true rfl) dX11_block_112 (fun H locs hW => W.eq (g2 := F0 m 115 ls [.int r11_]) rfl ?_)
                refine lv_if_eq (tgt := 122) hx hb dX11_block_115 (by decide) (fun c12 => ?_) (fun c12 => ?_)
                · have h := xit c12 h
                  refine lv_iconst (v := 0) hx hb dX11_block_122 rfl ?_
                  cases h
                  exact xr_i C hW dX11_block_123
                · have h := xif c12 h
                  refine lv_iconst (v := 1) hx hb dX11_block_118 rfl ?_
                  refine lv_goto (tgt := 123) hx hb dX11_block_119 (by decide) ?_
                  cases h
                  exact xr_i C hW dX11_block_123
              · have h := xif c10 h
                by_cases c13 : x2 = 5
                · have h := xit c13 h
                  refine lv_tableIn (off := 89) (tgt := 124) hx hb dX11_block_35 (by rw [c13]; decide) (by rw [c13]; decide) (by rw [c13]; rfl) (by decide) ?_
                  refine lv_aload_n hx hb dX11_block_124 rfl (lv_at hl 2 rfl) ?_
                  refine xg_r C hW fg_11_19 KX_0 rfl dX11_block_125 ?_
                  refine lv_iload_n hx hb dX11_block_128 rfl (lv_at hl 1 rfl) ?_
                  refine xc_S (As := [.int (σ.1 24 x1.toNatClampNeg)]) (rest := [.ref (g.q 1)]) C hW (m_X11_widthOf (σ.1 24 x1.toNatClampNeg) _ rfl) mf_X11_widthOf mt_X11_widthOf ml_X11_197 ⟨rfl, rfl⟩ ⟨Nat.le_of_ble_eq_true rfl, Nat.le_of_ble_eq_true rfl⟩ hl.1 rfl rfl (Nat.le_of_ble_eq_true rfl) dX11_block_129 (fun H locs hW => W.eq (g2 := F0 m 132 ls [.int (f_X11_widthOf (σ.1 24 x1.toNatClampNeg) σ), .ref (g.q 1)]) rfl ?_)
                  refine lv_iload hx hb dX11_block_132 (lv_at hl 0 rfl) ?_
                  obtain ⟨r14_, e14, h⟩ := xbo h
                  refine xc_V (As := [.int (f_X11_widthOf (σ.1 24 x1.toNatClampNeg) σ), .int (f_X11_edgeOf (σ.1 24 x1.toNatClampNeg) σ)]) (rest := []) C hW (m_X6_shrunk 1 (Or.inl rfl) (f_X11_widthOf (σ.1 24 x1.toNatClampNeg) σ) (f_X11_edgeOf (σ.1 24 x1.toNatClampNeg) σ) _ e14) mf_X6_shrunk mv_X6_shrunk ml_X11_212 ⟨rfl, rfl⟩ ⟨Nat.le_of_ble_eq_true rfl, Nat.le_of_ble_eq_true rfl⟩ (KX_sl (Or.inl rfl)) rfl hl.1 rfl rfl (Nat.le_of_ble_eq_true rfl) dX11_block_134 (fun H locs hW => W.eq (g2 := F0 m 137 ls [.int r14_]) rfl ?_)
                  cases h
                  exact xr_i C hW dX11_block_137
                · have h := xif c13 h
                  by_cases c15 : x2 = 6
                  · have h := xit c15 h
                    refine lv_tableIn (off := 103) (tgt := 138) hx hb dX11_block_35 (by rw [c15]; decide) (by rw [c15]; decide) (by rw [c15]; rfl) (by decide) ?_
                    refine lv_aload_n hx hb dX11_block_138 rfl (lv_at hl 2 rfl) ?_
                    refine xg_r C hW fg_11_19 KX_0 rfl dX11_block_139 ?_
                    refine lv_iload_n hx hb dX11_block_142 rfl (lv_at hl 1 rfl) ?_
                    refine xc_S (As := [.int (σ.1 24 x1.toNatClampNeg)]) (rest := [.ref (g.q 1)]) C hW (m_X11_heightOf (σ.1 24 x1.toNatClampNeg) _ rfl) mf_X11_heightOf mt_X11_heightOf ml_X11_200 ⟨rfl, rfl⟩ ⟨Nat.le_of_ble_eq_true rfl, Nat.le_of_ble_eq_true rfl⟩ hl.1 rfl rfl (Nat.le_of_ble_eq_true rfl) dX11_block_143 (fun H locs hW => W.eq (g2 := F0 m 146 ls [.int (f_X11_heightOf (σ.1 24 x1.toNatClampNeg) σ), .ref (g.q 1)]) rfl ?_)
                    refine lv_iload hx hb dX11_block_146 (lv_at hl 0 rfl) ?_
                    obtain ⟨r16_, e16, h⟩ := xbo h
                    refine xc_V (As := [.int (f_X11_heightOf (σ.1 24 x1.toNatClampNeg) σ), .int (f_X11_edgeOf (σ.1 24 x1.toNatClampNeg) σ)]) (rest := []) C hW (m_X6_shrunk 1 (Or.inl rfl) (f_X11_heightOf (σ.1 24 x1.toNatClampNeg) σ) (f_X11_edgeOf (σ.1 24 x1.toNatClampNeg) σ) _ e16) mf_X6_shrunk mv_X6_shrunk ml_X11_212 ⟨rfl, rfl⟩ ⟨Nat.le_of_ble_eq_true rfl, Nat.le_of_ble_eq_true rfl⟩ (KX_sl (Or.inl rfl)) rfl hl.1 rfl rfl (Nat.le_of_ble_eq_true rfl) dX11_block_148 (fun H locs hW => W.eq (g2 := F0 m 151 ls [.int r16_]) rfl ?_)
                    cases h
                    exact xr_i C hW dX11_block_151
                  · have h := xif c15 h
                    refine lv_tableOut (tgt := 152) hx hb dX11_block_35 (xsw_out (fun k h1 h2 => ?_)) (by decide) ?_
                    · rcases (show k = 0 ∨ k = 1 ∨ k = 2 ∨ k = 3 ∨ k = 4 ∨ k = 5 ∨ k = 6 by omega) with rfl | rfl | rfl | rfl | rfl | rfl | rfl
                      · exact c4
                      · exact c5
                      · exact c6
                      · exact c8
                      · exact c10
                      · exact c13
                      · exact c15
                    · refine lv_bipush (v := (-9)) hx hb dX11_block_152 rfl ?_
                      cases h
                      exact xr_i C hW dX11_block_154
    · have h := xif c2 h
      refine lv_bipush (v := (-9)) hx hb dX11_block_15 rfl ?_
      cases h
      exact xr_i C hW dX11_block_17
end
theorem dX11_box_0 : decode cX11_box 0 = .ok (.iload_n 1, 1) := by decide +kernel
theorem dX11_box_1 : decode cX11_box 1 = .ok (.ifCond .lt 14, 3) := by decide +kernel
theorem dX11_box_4 : decode cX11_box 4 = .ok (.iload_n 1, 1) := by decide +kernel
theorem dX11_box_5 : decode cX11_box 5 = .ok (.aload_n 0, 1) := by decide +kernel
theorem dX11_box_6 : decode cX11_box 6 = .ok (.getfield 40, 3) := by decide +kernel
theorem dX11_box_9 : decode cX11_box 9 = .ok (.getfield 216, 3) := by decide +kernel
theorem dX11_box_12 : decode cX11_box 12 = .ok (.if_icmp .lt 6, 3) := by decide +kernel
theorem dX11_box_15 : decode cX11_box 15 = .ok (.bipush (-9), 2) := by decide +kernel
theorem dX11_box_17 : decode cX11_box 17 = .ok (.ireturn, 1) := by decide +kernel
theorem dX11_box_18 : decode cX11_box 18 = .ok (.iload_n 2, 1) := by decide +kernel
theorem dX11_box_19 : decode cX11_box 19 = .ok (.tableswitch 97 0 5 #[37, 47, 57, 70, 79, 88], 37) := by decide +kernel
theorem dX11_box_56 : decode cX11_box 56 = .ok (.aload_n 0, 1) := by decide +kernel
theorem dX11_box_57 : decode cX11_box 57 = .ok (.getfield 40, 3) := by decide +kernel
theorem dX11_box_60 : decode cX11_box 60 = .ok (.getfield 219, 3) := by decide +kernel
theorem dX11_box_63 : decode cX11_box 63 = .ok (.iload_n 1, 1) := by decide +kernel
theorem dX11_box_64 : decode cX11_box 64 = .ok (.iaload, 1) := by decide +kernel
theorem dX11_box_65 : decode cX11_box 65 = .ok (.ireturn, 1) := by decide +kernel
theorem dX11_box_66 : decode cX11_box 66 = .ok (.aload_n 0, 1) := by decide +kernel
theorem dX11_box_67 : decode cX11_box 67 = .ok (.getfield 40, 3) := by decide +kernel
theorem dX11_box_70 : decode cX11_box 70 = .ok (.getfield 222, 3) := by decide +kernel
theorem dX11_box_73 : decode cX11_box 73 = .ok (.iload_n 1, 1) := by decide +kernel
theorem dX11_box_74 : decode cX11_box 74 = .ok (.iaload, 1) := by decide +kernel
theorem dX11_box_75 : decode cX11_box 75 = .ok (.ireturn, 1) := by decide +kernel
theorem dX11_box_76 : decode cX11_box 76 = .ok (.aload_n 0, 1) := by decide +kernel
theorem dX11_box_77 : decode cX11_box 77 = .ok (.getfield 40, 3) := by decide +kernel
theorem dX11_box_80 : decode cX11_box 80 = .ok (.iload_n 1, 1) := by decide +kernel
theorem dX11_box_81 : decode cX11_box 81 = .ok (.aload_n 0, 1) := by decide +kernel
theorem dX11_box_82 : decode cX11_box 82 = .ok (.getfield 225, 3) := by decide +kernel
theorem dX11_box_85 : decode cX11_box 85 = .ok (.invokevirtual 229, 3) := by decide +kernel
theorem dX11_box_88 : decode cX11_box 88 = .ok (.ireturn, 1) := by decide +kernel
theorem dX11_box_89 : decode cX11_box 89 = .ok (.aload_n 0, 1) := by decide +kernel
theorem dX11_box_90 : decode cX11_box 90 = .ok (.getfield 40, 3) := by decide +kernel
theorem dX11_box_93 : decode cX11_box 93 = .ok (.iload_n 1, 1) := by decide +kernel
theorem dX11_box_94 : decode cX11_box 94 = .ok (.invokevirtual 233, 3) := by decide +kernel
theorem dX11_box_97 : decode cX11_box 97 = .ok (.ireturn, 1) := by decide +kernel
theorem dX11_box_98 : decode cX11_box 98 = .ok (.aload_n 0, 1) := by decide +kernel
theorem dX11_box_99 : decode cX11_box 99 = .ok (.getfield 40, 3) := by decide +kernel
theorem dX11_box_102 : decode cX11_box 102 = .ok (.iload_n 1, 1) := by decide +kernel
theorem dX11_box_103 : decode cX11_box 103 = .ok (.invokevirtual 236, 3) := by decide +kernel
theorem dX11_box_106 : decode cX11_box 106 = .ok (.ireturn, 1) := by decide +kernel
theorem dX11_box_107 : decode cX11_box 107 = .ok (.aload_n 0, 1) := by decide +kernel
theorem dX11_box_108 : decode cX11_box 108 = .ok (.getfield 40, 3) := by decide +kernel
theorem dX11_box_111 : decode cX11_box 111 = .ok (.iload_n 1, 1) := by decide +kernel
theorem dX11_box_112 : decode cX11_box 112 = .ok (.invokevirtual 239, 3) := by decide +kernel
theorem dX11_box_115 : decode cX11_box 115 = .ok (.ireturn, 1) := by decide +kernel
theorem dX11_box_116 : decode cX11_box 116 = .ok (.bipush (-9), 2) := by decide +kernel
theorem dX11_box_118 : decode cX11_box 118 = .ok (.ireturn, 1) := by decide +kernel
abbrev rm_X11_box : Room := { frames := 5, cells := 0, slots := 0, locals := 148 }
def f_X11_box (x1 : Int32) (x2 : Int32) (σ : St) : Option Int32 := (if x1 < 0 then some ((-9)) else (if x1 < (σ.1 5605 0) then (if x2 = 0 then grd (ib x1 24) (some (σ.1 26 x1.toNatClampNeg)) else (if x2 = 1 then grd (ib x1 24) (some (σ.1 27 x1.toNatClampNeg)) else (if x2 = 2 then bo (f_X1_leftEdge x1 (σ.1 1012 0) σ) (fun r8_ => some r8_) else (if x2 = 3 then bo (f_X1_upperEdge x1 σ) (fun r10_ => some r10_) else (if x2 = 4 then bo (f_X1_boxWidth x1 σ) (fun r12_ => some r12_) else (if x2 = 5 then bo (f_X1_boxHeight x1 σ) (fun r14_ => some r14_) else some ((-9)))))))) else some ((-9))))
section
variable {p : Program} {l : Launch} {e : Env} {s : State} {m : MethodId} {args : Array Value} {below : List Frame} {meth : Method} {c : Code} {g : XG}
set_option maxRecDepth 4000 in
theorem m_X11_box (x1 : Int32) (x2 : Int32) (σ : St) {r : Int32} (h : f_X11_box x1 x2 σ = some r) : xM l KX g yX11_box cX11_box 3 (some .int) rm_X11_box [.ref (g.q 0), .int x1, .int x2] σ (some (.int r)) σ := by
  refine xmet pn_X11 rfl (Nat.le_of_ble_eq_true rfl) (lv := [(0, .ref (g.q 0)), (1, .int x1), (2, .int x2)]) rfl (fun p e s m args below meth c ls C hW hl => ?_)
  have hx := C.1
  have hb := C.2.1
  unfold f_X11_box at h
  refine lv_iload_n hx hb dX11_box_0 rfl (lv_at hl 1 rfl) ?_
  refine lv_if_lt (tgt := 15) hx hb dX11_box_1 (by decide) (fun c1 => ?_) (fun c1 => ?_)
  · have h := xit c1 h
    refine lv_bipush (v := (-9)) hx hb dX11_box_15 rfl ?_
    cases h
    exact xr_i C hW dX11_box_17
  · have h := xif c1 h
    refine lv_iload_n hx hb dX11_box_4 rfl (lv_at hl 1 rfl) ?_
    refine lv_aload_n hx hb dX11_box_5 rfl (lv_at hl 0 rfl) ?_
    refine xg_r C hW fg_11_40 KX_0 rfl dX11_box_6 ?_
    refine xg_i C hW fg_11_216 KX_23 rfl (v := 5605) rfl (x := σ.1 5605 0) rfl dX11_box_9 ?_
    refine lv_icmp_lt (tgt := 18) hx hb dX11_box_12 (by decide) (fun c2 => ?_) (fun c2 => ?_)
    · have h := xit c2 h
      refine lv_iload_n hx hb dX11_box_18 rfl (lv_at hl 2 rfl) ?_
      by_cases c3 : x2 = 0
      · have h := xit c3 h
        refine lv_tableIn (off := 37) (tgt := 56) hx hb dX11_box_19 (by rw [c3]; decide) (by rw [c3]; decide) (by rw [c3]; rfl) (by decide) ?_
        refine lv_aload_n hx hb dX11_box_56 rfl (lv_at hl 0 rfl) ?_
        refine xg_r C hW fg_11_40 KX_0 rfl dX11_box_57 ?_
        refine xg_r C hW fg_11_219 KX_23 rfl dX11_box_60 ?_
        refine lv_iload_n hx hb dX11_box_63 rfl (lv_at hl 1 rfl) ?_
        obtain ⟨g4, h⟩ := xgd h
        refine xa_i C hW KX_26 g4 (x := σ.1 26 x1.toNatClampNeg) rfl dX11_box_64 ?_
        cases h
        exact xr_i C hW dX11_box_65
      · have h := xif c3 h
        by_cases c5 : x2 = 1
        · have h := xit c5 h
          refine lv_tableIn (off := 47) (tgt := 66) hx hb dX11_box_19 (by rw [c5]; decide) (by rw [c5]; decide) (by rw [c5]; rfl) (by decide) ?_
          refine lv_aload_n hx hb dX11_box_66 rfl (lv_at hl 0 rfl) ?_
          refine xg_r C hW fg_11_40 KX_0 rfl dX11_box_67 ?_
          refine xg_r C hW fg_11_222 KX_23 rfl dX11_box_70 ?_
          refine lv_iload_n hx hb dX11_box_73 rfl (lv_at hl 1 rfl) ?_
          obtain ⟨g6, h⟩ := xgd h
          refine xa_i C hW KX_27 g6 (x := σ.1 27 x1.toNatClampNeg) rfl dX11_box_74 ?_
          cases h
          exact xr_i C hW dX11_box_75
        · have h := xif c5 h
          by_cases c7 : x2 = 2
          · have h := xit c7 h
            refine lv_tableIn (off := 57) (tgt := 76) hx hb dX11_box_19 (by rw [c7]; decide) (by rw [c7]; decide) (by rw [c7]; rfl) (by decide) ?_
            refine lv_aload_n hx hb dX11_box_76 rfl (lv_at hl 0 rfl) ?_
            refine xg_r C hW fg_11_40 KX_0 rfl dX11_box_77 ?_
            refine lv_iload_n hx hb dX11_box_80 rfl (lv_at hl 1 rfl) ?_
            refine lv_aload_n hx hb dX11_box_81 rfl (lv_at hl 0 rfl) ?_
            refine xg_i C hW fg_11_225 KX_0 rfl (v := 1012) rfl (x := σ.1 1012 0) rfl dX11_box_82 ?_
            obtain ⟨r8_, e8, h⟩ := xbo h
            refine xc_V (As := [.int x1, .int (σ.1 1012 0)]) (rest := []) C hW (m_X1_leftEdge x1 (σ.1 1012 0) _ e8) mf_X1_leftEdge mv_X1_leftEdge ml_X11_229 ⟨rfl, rfl⟩ ⟨Nat.le_of_ble_eq_true rfl, Nat.le_of_ble_eq_true rfl⟩ KX_23 rfl hl.1 rfl rfl (Nat.le_of_ble_eq_true rfl) dX11_box_85 (fun H locs hW => W.eq (g2 := F0 m 88 ls [.int r8_]) rfl ?_)
            cases h
            exact xr_i C hW dX11_box_88
          · have h := xif c7 h
            by_cases c9 : x2 = 3
            · have h := xit c9 h
              refine lv_tableIn (off := 70) (tgt := 89) hx hb dX11_box_19 (by rw [c9]; decide) (by rw [c9]; decide) (by rw [c9]; rfl) (by decide) ?_
              refine lv_aload_n hx hb dX11_box_89 rfl (lv_at hl 0 rfl) ?_
              refine xg_r C hW fg_11_40 KX_0 rfl dX11_box_90 ?_
              refine lv_iload_n hx hb dX11_box_93 rfl (lv_at hl 1 rfl) ?_
              obtain ⟨r10_, e10, h⟩ := xbo h
              refine xc_V (As := [.int x1]) (rest := []) C hW (m_X1_upperEdge x1 _ e10) mf_X1_upperEdge mv_X1_upperEdge ml_X11_233 ⟨rfl, rfl⟩ ⟨Nat.le_of_ble_eq_true rfl, Nat.le_of_ble_eq_true rfl⟩ KX_23 rfl hl.1 rfl rfl (Nat.le_of_ble_eq_true rfl) dX11_box_94 (fun H locs hW => W.eq (g2 := F0 m 97 ls [.int r10_]) rfl ?_)
              cases h
              exact xr_i C hW dX11_box_97
            · have h := xif c9 h
              by_cases c11 : x2 = 4
              · have h := xit c11 h
                refine lv_tableIn (off := 79) (tgt := 98) hx hb dX11_box_19 (by rw [c11]; decide) (by rw [c11]; decide) (by rw [c11]; rfl) (by decide) ?_
                refine lv_aload_n hx hb dX11_box_98 rfl (lv_at hl 0 rfl) ?_
                refine xg_r C hW fg_11_40 KX_0 rfl dX11_box_99 ?_
                refine lv_iload_n hx hb dX11_box_102 rfl (lv_at hl 1 rfl) ?_
                obtain ⟨r12_, e12, h⟩ := xbo h
                refine xc_V (As := [.int x1]) (rest := []) C hW (m_X1_boxWidth x1 _ e12) mf_X1_boxWidth mv_X1_boxWidth ml_X11_236 ⟨rfl, rfl⟩ ⟨Nat.le_of_ble_eq_true rfl, Nat.le_of_ble_eq_true rfl⟩ KX_23 rfl hl.1 rfl rfl (Nat.le_of_ble_eq_true rfl) dX11_box_103 (fun H locs hW => W.eq (g2 := F0 m 106 ls [.int r12_]) rfl ?_)
                cases h
                exact xr_i C hW dX11_box_106
              · have h := xif c11 h
                by_cases c13 : x2 = 5
                · have h := xit c13 h
                  refine lv_tableIn (off := 88) (tgt := 107) hx hb dX11_box_19 (by rw [c13]; decide) (by rw [c13]; decide) (by rw [c13]; rfl) (by decide) ?_
                  refine lv_aload_n hx hb dX11_box_107 rfl (lv_at hl 0 rfl) ?_
                  refine xg_r C hW fg_11_40 KX_0 rfl dX11_box_108 ?_
                  refine lv_iload_n hx hb dX11_box_111 rfl (lv_at hl 1 rfl) ?_
                  obtain ⟨r14_, e14, h⟩ := xbo h
                  refine xc_V (As := [.int x1]) (rest := []) C hW (m_X1_boxHeight x1 _ e14) mf_X1_boxHeight mv_X1_boxHeight ml_X11_239 ⟨rfl, rfl⟩ ⟨Nat.le_of_ble_eq_true rfl, Nat.le_of_ble_eq_true rfl⟩ KX_23 rfl hl.1 rfl rfl (Nat.le_of_ble_eq_true rfl) dX11_box_112 (fun H locs hW => W.eq (g2 := F0 m 115 ls [.int r14_]) rfl ?_)
                  cases h
                  exact xr_i C hW dX11_box_115
                · have h := xif c13 h
                  refine lv_tableOut (tgt := 116) hx hb dX11_box_19 (xsw_out (fun k h1 h2 => ?_)) (by decide) ?_
                  · rcases (show k = 0 ∨ k = 1 ∨ k = 2 ∨ k = 3 ∨ k = 4 ∨ k = 5 by omega) with rfl | rfl | rfl | rfl | rfl | rfl
                    · exact c3
                    · exact c5
                    · exact c7
                    · exact c9
                    · exact c11
                    · exact c13
                  · refine lv_bipush (v := (-9)) hx hb dX11_box_116 rfl ?_
                    cases h
                    exact xr_i C hW dX11_box_118
    · have h := xif c2 h
      refine lv_bipush (v := (-9)) hx hb dX11_box_15 rfl ?_
      cases h
      exact xr_i C hW dX11_box_17
end
theorem dX11_face_0 : decode cX11_face 0 = .ok (.aload_n 0, 1) := by decide +kernel
theorem dX11_face_1 : decode cX11_face 1 = .ok (.getfield 225, 3) := by decide +kernel
theorem dX11_face_4 : decode cX11_face 4 = .ok (.iload_n 1, 1) := by decide +kernel
theorem dX11_face_5 : decode cX11_face 5 = .ok (.if_icmp .ne 7, 3) := by decide +kernel
theorem dX11_face_8 : decode cX11_face 8 = .ok (.iconst 0, 1) := by decide +kernel
theorem dX11_face_9 : decode cX11_face 9 = .ok (.goto 4, 3) := by decide +kernel
theorem dX11_face_12 : decode cX11_face 12 = .ok (.iconst 1, 1) := by decide +kernel
theorem dX11_face_13 : decode cX11_face 13 = .ok (.istore_n 2, 1) := by decide +kernel
theorem dX11_face_14 : decode cX11_face 14 = .ok (.aload_n 0, 1) := by decide +kernel
theorem dX11_face_15 : decode cX11_face 15 = .ok (.iload_n 1, 1) := by decide +kernel
theorem dX11_face_16 : decode cX11_face 16 = .ok (.putfield 225, 3) := by decide +kernel
theorem dX11_face_19 : decode cX11_face 19 = .ok (.iload_n 2, 1) := by decide +kernel
theorem dX11_face_20 : decode cX11_face 20 = .ok (.ireturn, 1) := by decide +kernel
abbrev rm_X11_face : Room := { frames := 0, cells := 0, slots := 0, locals := 0 }
def f_X11_face_13 (x1 : Int32) (t0 : Int32) (σ : St) : Option (Int32 × St) := grd (zbb x1) (some (t0, (si σ 1012 0 x1)))
def f_X11_face (x1 : Int32) (σ : St) : Option (Int32 × St) := (if (σ.1 1012 0) = x1 then f_X11_face_13 x1 0 σ else f_X11_face_13 x1 1 σ)
section
variable {p : Program} {l : Launch} {e : Env} {s : State} {m : MethodId} {args : Array Value} {below : List Frame} {meth : Method} {c : Code} {g : XG}
set_option maxRecDepth 4000 in
theorem w_X11_face_13 {r : Int32} {σ' : St} (C : xC KX g RX11 cX11_face 3 (some .int) p s m args meth c) : ∀ (x1 : Int32) (t0 : Int32) (σ : St) (H : Heap) (locs : List Loc) (ls : Array Slot), xW KX g s σ H locs → lv_has ls 3 [(0, .ref (g.q 0)), (1, .int x1)] → f_X11_face_13 x1 t0 σ = some (r, σ') → W p l e rm_X11_face s m args below meth c H locs 0 0 (MQ below (xPost KX g (some (.int r)) σ') args s 0 0 (xA KX g.q)) (F0 m 13 ls [.int t0]) := by
  have hx := C.1
  have hb := C.2.1
  intro x1 t0 σ H locs ls hW hl h
  unfold f_X11_face_13 at h
  refine lv_istore_n (lv' := [(2, .int t0), (0, .ref (g.q 0)), (1, .int x1)]) hx hb dX11_face_13 rfl hl (Nat.le_of_ble_eq_true rfl) rfl (fun ls hl => ?_)
  refine lv_aload_n hx hb dX11_face_14 rfl (lv_at hl 1 rfl) ?_
  refine lv_iload_n hx hb dX11_face_15 rfl (lv_at hl 2 rfl) ?_
  obtain ⟨g2, h⟩ := xgd h
  refine xp_i C hW fp_11_225 KX_0 rfl (v := 1012) rfl (zbb_n g2) (zbb_f g2) dX11_face_16 (fun H locs hW => ?_)
  refine lv_iload_n hx hb dX11_face_19 rfl (lv_at hl 0 rfl) ?_
  cases h
  exact xr_i C hW dX11_face_20
set_option maxRecDepth 4000 in
theorem m_X11_face (x1 : Int32) (σ : St) {r : Int32} {σ' : St} (h : f_X11_face x1 σ = some (r, σ')) : xM l KX g yX11_face cX11_face 3 (some .int) rm_X11_face [.ref (g.q 0), .int x1] σ (some (.int r)) σ' := by
  refine xmet pn_X11 rfl (Nat.le_of_ble_eq_true rfl) (lv := [(0, .ref (g.q 0)), (1, .int x1)]) rfl (fun p e s m args below meth c ls C hW hl => ?_)
  have hx := C.1
  have hb := C.2.1
  unfold f_X11_face at h
  refine lv_aload_n hx hb dX11_face_0 rfl (lv_at hl 0 rfl) ?_
  refine xg_i C hW fg_11_225 KX_0 rfl (v := 1012) rfl (x := σ.1 1012 0) rfl dX11_face_1 ?_
  refine lv_iload_n hx hb dX11_face_4 rfl (lv_at hl 1 rfl) ?_
  refine lv_icmp_ne (tgt := 12) hx hb dX11_face_5 (by decide) (fun c1 => ?_) (fun c1 => ?_)
  · have h := xif c1 h
    refine lv_iconst (v := 1) hx hb dX11_face_12 rfl ?_
    exact w_X11_face_13 C x1 1 _ _ _ _ hW (lv_sub hl [0, 1] rfl) h
  · have h := xit c1 h
    refine lv_iconst (v := 0) hx hb dX11_face_8 rfl ?_
    refine lv_goto (tgt := 13) hx hb dX11_face_9 (by decide) ?_
    exact w_X11_face_13 C x1 0 _ _ _ _ hW (lv_sub hl [0, 1] rfl) h
end
theorem dX11_term_0 : decode cX11_term 0 = .ok (.aload_n 0, 1) := by decide +kernel
theorem dX11_term_1 : decode cX11_term 1 = .ok (.getfield 10, 3) := by decide +kernel
theorem dX11_term_4 : decode cX11_term 4 = .ok (.invokevirtual 109, 3) := by decide +kernel
theorem dX11_term_7 : decode cX11_term 7 = .ok (.aload_n 0, 1) := by decide +kernel
theorem dX11_term_8 : decode cX11_term 8 = .ok (.getfield 47, 3) := by decide +kernel
theorem dX11_term_11 : decode cX11_term 11 = .ok (.aload_n 0, 1) := by decide +kernel
theorem dX11_term_12 : decode cX11_term 12 = .ok (.getfield 10, 3) := by decide +kernel
theorem dX11_term_15 : decode cX11_term 15 = .ok (.invokevirtual 242, 3) := by decide +kernel
theorem dX11_term_18 : decode cX11_term 18 = .ok (.istore_n 1, 1) := by decide +kernel
theorem dX11_term_19 : decode cX11_term 19 = .ok (.aload_n 0, 1) := by decide +kernel
theorem dX11_term_20 : decode cX11_term 20 = .ok (.getfield 10, 3) := by decide +kernel
theorem dX11_term_23 : decode cX11_term 23 = .ok (.invokevirtual 119, 3) := by decide +kernel
theorem dX11_term_26 : decode cX11_term 26 = .ok (.iload_n 1, 1) := by decide +kernel
theorem dX11_term_27 : decode cX11_term 27 = .ok (.ireturn, 1) := by decide +kernel
abbrev rm_X11_term : Room := { frames := 4, cells := 0, slots := 0, locals := 88 }
def f_X11_term (N : Nat) (σ : St) : Option (Int32 × St) := bo (f_X8_rewind σ) (fun σ1 => bd (f_X9_take N σ1) (fun r2_ σ2 => bo (f_X8_drain σ2) (fun σ3 => some (r2_, σ3))))
section
variable {p : Program} {l : Launch} {e : Env} {s : State} {m : MethodId} {args : Array Value} {below : List Frame} {meth : Method} {c : Code} {g : XG}
set_option maxRecDepth 4000 in
theorem m_X11_term (N : Nat) (σ : St) {r : Int32} {σ' : St} (h : f_X11_term N σ = some (r, σ')) : xM l KX g yX11_term cX11_term 2 (some .int) rm_X11_term [.ref (g.q 0)] σ (some (.int r)) σ' := by
  refine xmet pn_X11 rfl (Nat.le_of_ble_eq_true rfl) (lv := [(0, .ref (g.q 0))]) rfl (fun p e s m args below meth c ls C hW hl => ?_)
  have hx := C.1
  have hb := C.2.1
  unfold f_X11_term at h
  refine lv_aload_n hx hb dX11_term_0 rfl (lv_at hl 0 rfl) ?_
  refine xg_r C hW fg_11_10 KX_0 rfl dX11_term_1 ?_
  obtain ⟨σ1, e1, h⟩ := xbo h
  refine xc_V (As := []) (rest := []) C hW (m_X8_rewind _ e1) mf_X8_rewind mv_X8_rewind ml_X11_109 ⟨rfl, rfl⟩ ⟨Nat.le_of_ble_eq_true rfl, Nat.le_of_ble_eq_true rfl⟩ KX_19 rfl hl.1 rfl rfl (Nat.le_of_ble_eq_true rfl) dX11_term_4 (fun H locs hW => W.eq (g2 := F0 m 7 ls []) rfl ?_)
  refine lv_aload_n hx hb dX11_term_7 rfl (lv_at hl 0 rfl) ?_
  refine xg_r C hW fg_11_47 KX_0 rfl dX11_term_8 ?_
  refine lv_aload_n hx hb dX11_term_11 rfl (lv_at hl 0 rfl) ?_
  refine xg_r C hW fg_11_10 KX_0 rfl dX11_term_12 ?_
  obtain ⟨r2_, σ2, e2, h⟩ := xbd h
  refine xc_V (As := [.ref (g.q 19)]) (rest := []) C hW (m_X9_take N _ e2) mf_X9_take mv_X9_take ml_X11_242 ⟨rfl, rfl⟩ ⟨Nat.le_of_ble_eq_true rfl, Nat.le_of_ble_eq_true rfl⟩ KX_33 rfl hl.1 rfl rfl (Nat.le_of_ble_eq_true rfl) dX11_term_15 (fun H locs hW => W.eq (g2 := F0 m 18 ls [.int r2_]) rfl ?_)
  refine lv_istore_n (lv' := [(1, .int r2_), (0, .ref (g.q 0))]) hx hb dX11_term_18 rfl hl (Nat.le_of_ble_eq_true rfl) rfl (fun ls hl => ?_)
  refine lv_aload_n hx hb dX11_term_19 rfl (lv_at hl 1 rfl) ?_
  refine xg_r C hW fg_11_10 KX_0 rfl dX11_term_20 ?_
  obtain ⟨σ3, e3, h⟩ := xbo h
  refine xc_V (As := []) (rest := []) C hW (m_X8_drain _ e3) mf_X8_drain mv_X8_drain ml_X11_119 ⟨rfl, rfl⟩ ⟨Nat.le_of_ble_eq_true rfl, Nat.le_of_ble_eq_true rfl⟩ KX_19 rfl hl.1 rfl rfl (Nat.le_of_ble_eq_true rfl) dX11_term_23 (fun H locs hW => W.eq (g2 := F0 m 26 ls []) rfl ?_)
  refine lv_iload_n hx hb dX11_term_26 rfl (lv_at hl 0 rfl) ?_
  cases h
  exact xr_i C hW dX11_term_27
end
theorem dX11_about_0 : decode cX11_about 0 = .ok (.aload_n 0, 1) := by decide +kernel
theorem dX11_about_1 : decode cX11_about 1 = .ok (.getfield 47, 3) := by decide +kernel
theorem dX11_about_4 : decode cX11_about 4 = .ok (.iload_n 1, 1) := by decide +kernel
theorem dX11_about_5 : decode cX11_about 5 = .ok (.invokevirtual 243, 3) := by decide +kernel
theorem dX11_about_8 : decode cX11_about 8 = .ok (.ifCond .ne 6, 3) := by decide +kernel
theorem dX11_about_11 : decode cX11_about 11 = .ok (.bipush (-9), 2) := by decide +kernel
theorem dX11_about_13 : decode cX11_about 13 = .ok (.ireturn, 1) := by decide +kernel
theorem dX11_about_14 : decode cX11_about 14 = .ok (.iload_n 2, 1) := by decide +kernel
theorem dX11_about_15 : decode cX11_about 15 = .ok (.ifCond .ne 13, 3) := by decide +kernel
theorem dX11_about_18 : decode cX11_about 18 = .ok (.aload_n 0, 1) := by decide +kernel
theorem dX11_about_19 : decode cX11_about 19 = .ok (.getfield 47, 3) := by decide +kernel
theorem dX11_about_22 : decode cX11_about 22 = .ok (.getfield 244, 3) := by decide +kernel
theorem dX11_about_25 : decode cX11_about 25 = .ok (.iload_n 1, 1) := by decide +kernel
theorem dX11_about_26 : decode cX11_about 26 = .ok (.iaload, 1) := by decide +kernel
theorem dX11_about_27 : decode cX11_about 27 = .ok (.ireturn, 1) := by decide +kernel
theorem dX11_about_28 : decode cX11_about 28 = .ok (.iload_n 2, 1) := by decide +kernel
theorem dX11_about_29 : decode cX11_about 29 = .ok (.iconst 1, 1) := by decide +kernel
theorem dX11_about_30 : decode cX11_about 30 = .ok (.if_icmp .ne 23, 3) := by decide +kernel
theorem dX11_about_33 : decode cX11_about 33 = .ok (.aload_n 0, 1) := by decide +kernel
theorem dX11_about_34 : decode cX11_about 34 = .ok (.getfield 47, 3) := by decide +kernel
theorem dX11_about_37 : decode cX11_about 37 = .ok (.getfield 245, 3) := by decide +kernel
theorem dX11_about_40 : decode cX11_about 40 = .ok (.iload_n 1, 1) := by decide +kernel
theorem dX11_about_41 : decode cX11_about 41 = .ok (.laload, 1) := by decide +kernel
theorem dX11_about_42 : decode cX11_about 42 = .ok (.lconst 0, 1) := by decide +kernel
theorem dX11_about_43 : decode cX11_about 43 = .ok (.lcmp, 1) := by decide +kernel
theorem dX11_about_44 : decode cX11_about 44 = .ok (.ifCond .ne 7, 3) := by decide +kernel
theorem dX11_about_47 : decode cX11_about 47 = .ok (.iconst 0, 1) := by decide +kernel
theorem dX11_about_48 : decode cX11_about 48 = .ok (.goto 4, 3) := by decide +kernel
theorem dX11_about_51 : decode cX11_about 51 = .ok (.iconst 1, 1) := by decide +kernel
theorem dX11_about_52 : decode cX11_about 52 = .ok (.ireturn, 1) := by decide +kernel
theorem dX11_about_53 : decode cX11_about 53 = .ok (.aload_n 0, 1) := by decide +kernel
theorem dX11_about_54 : decode cX11_about 54 = .ok (.getfield 47, 3) := by decide +kernel
theorem dX11_about_57 : decode cX11_about 57 = .ok (.getfield 248, 3) := by decide +kernel
theorem dX11_about_60 : decode cX11_about 60 = .ok (.iload_n 1, 1) := by decide +kernel
theorem dX11_about_61 : decode cX11_about 61 = .ok (.iaload, 1) := by decide +kernel
theorem dX11_about_62 : decode cX11_about 62 = .ok (.aload_n 0, 1) := by decide +kernel
theorem dX11_about_63 : decode cX11_about 63 = .ok (.getfield 47, 3) := by decide +kernel
theorem dX11_about_66 : decode cX11_about 66 = .ok (.getfield 244, 3) := by decide +kernel
theorem dX11_about_69 : decode cX11_about 69 = .ok (.iload_n 1, 1) := by decide +kernel
theorem dX11_about_70 : decode cX11_about 70 = .ok (.iaload, 1) := by decide +kernel
theorem dX11_about_71 : decode cX11_about 71 = .ok (.iload_n 2, 1) := by decide +kernel
theorem dX11_about_72 : decode cX11_about 72 = .ok (.bipush (-9), 2) := by decide +kernel
theorem dX11_about_74 : decode cX11_about 74 = .ok (.invokestatic 165, 3) := by decide +kernel
theorem dX11_about_77 : decode cX11_about 77 = .ok (.ireturn, 1) := by decide +kernel
abbrev rm_X11_about : Room := { frames := 2, cells := 0, slots := 0, locals := 45 }
def f_X11_about (x1 : Int32) (x2 : Int32) (σ : St) : Option Int32 := (if (f_X9_has x1 σ) = 0 then some ((-9)) else (if x2 = 0 then grd (ib x1 40) (some (σ.1 36 x1.toNatClampNeg)) else (if x2 = 1 then grd (ib x1 40) ((if (lg_cmp (σ.2 37 x1.toNatClampNeg) 0) = 0 then some 0 else some 1)) else grd (ib x1 40) (grd (ib x1 40) (some (f_X11_soundOf (σ.1 35 x1.toNatClampNeg) (σ.1 36 x1.toNatClampNeg) x2 ((-9)) σ))))))
section
variable {p : Program} {l : Launch} {e : Env} {s : State} {m : MethodId} {args : Array Value} {below : List Frame} {meth : Method} {c : Code} {g : XG}
set_option maxRecDepth 4000 in
theorem m_X11_about (x1 : Int32) (x2 : Int32) (σ : St) {r : Int32} (h : f_X11_about x1 x2 σ = some r) : xM l KX g yX11_about cX11_about 3 (some .int) rm_X11_about [.ref (g.q 0), .int x1, .int x2] σ (some (.int r)) σ := by
  refine xmet pn_X11 rfl (Nat.le_of_ble_eq_true rfl) (lv := [(0, .ref (g.q 0)), (1, .int x1), (2, .int x2)]) rfl (fun p e s m args below meth c ls C hW hl => ?_)
  have hx := C.1
  have hb := C.2.1
  unfold f_X11_about at h
  refine lv_aload_n hx hb dX11_about_0 rfl (lv_at hl 0 rfl) ?_
  refine xg_r C hW fg_11_47 KX_0 rfl dX11_about_1 ?_
  refine lv_iload_n hx hb dX11_about_4 rfl (lv_at hl 1 rfl) ?_
  refine xc_V (As := [.int x1]) (rest := []) C hW (m_X9_has x1 _ rfl) mf_X9_has mv_X9_has ml_X11_243 ⟨rfl, rfl⟩ ⟨Nat.le_of_ble_eq_true rfl, Nat.le_of_ble_eq_true rfl⟩ KX_33 rfl hl.1 rfl rfl (Nat.le_of_ble_eq_true rfl) dX11_about_5 (fun H locs hW => W.eq (g2 := F0 m 8 ls [.int (f_X9_has x1 σ)]) rfl ?_)
  refine lv_if_ne (tgt := 14) hx hb dX11_about_8 (by decide) (fun c1 => ?_) (fun c1 => ?_)
  · have h := xif c1 h
    refine lv_iload_n hx hb dX11_about_14 rfl (lv_at hl 2 rfl) ?_
    refine lv_if_ne (tgt := 28) hx hb dX11_about_15 (by decide) (fun c2 => ?_) (fun c2 => ?_)
    · have h := xif c2 h
      refine lv_iload_n hx hb dX11_about_28 rfl (lv_at hl 2 rfl) ?_
      refine lv_iconst (v := 1) hx hb dX11_about_29 rfl ?_
      refine lv_icmp_ne (tgt := 53) hx hb dX11_about_30 (by decide) (fun c3 => ?_) (fun c3 => ?_)
      · have h := xif c3 h
        refine lv_aload_n hx hb dX11_about_53 rfl (lv_at hl 0 rfl) ?_
        refine xg_r C hW fg_11_47 KX_0 rfl dX11_about_54 ?_
        refine xg_r C hW fg_11_248 KX_33 rfl dX11_about_57 ?_
        refine lv_iload_n hx hb dX11_about_60 rfl (lv_at hl 1 rfl) ?_
        obtain ⟨g4, h⟩ := xgd h
        refine xa_i C hW KX_35 g4 (x := σ.1 35 x1.toNatClampNeg) rfl dX11_about_61 ?_
        refine lv_aload_n hx hb dX11_about_62 rfl (lv_at hl 0 rfl) ?_
        refine xg_r C hW fg_11_47 KX_0 rfl dX11_about_63 ?_
        refine xg_r C hW fg_11_244 KX_33 rfl dX11_about_66 ?_
        refine lv_iload_n hx hb dX11_about_69 rfl (lv_at hl 1 rfl) ?_
        obtain ⟨g5, h⟩ := xgd h
        refine xa_i C hW KX_36 g5 (x := σ.1 36 x1.toNatClampNeg) rfl dX11_about_70 ?_
        refine lv_iload_n hx hb dX11_about_71 rfl (lv_at hl 2 rfl) ?_
        refine lv_bipush (v := (-9)) hx hb dX11_about_72 rfl ?_
        refine xc_S (As := [.int (σ.1 35 x1.toNatClampNeg), .int (σ.1 36 x1.toNatClampNeg), .int x2, .int ((-9))]) (rest := []) C hW (m_X11_soundOf (σ.1 35 x1.toNatClampNeg) (σ.1 36 x1.toNatClampNeg) x2 ((-9)) _ rfl) mf_X11_soundOf mt_X11_soundOf ml_X11_165 ⟨rfl, rfl⟩ ⟨Nat.le_of_ble_eq_true rfl, Nat.le_of_ble_eq_true rfl⟩ hl.1 rfl rfl (Nat.le_of_ble_eq_true rfl) dX11_about_74 (fun H locs hW => W.eq (g2 := F0 m 77 ls [.int (f_X11_soundOf (σ.1 35 x1.toNatClampNeg) (σ.1 36 x1.toNatClampNeg) x2 ((-9)) σ)]) rfl ?_)
        cases h
        exact xr_i C hW dX11_about_77
      · have h := xit c3 h
        refine lv_aload_n hx hb dX11_about_33 rfl (lv_at hl 0 rfl) ?_
        refine xg_r C hW fg_11_47 KX_0 rfl dX11_about_34 ?_
        refine xg_r C hW fg_11_245 KX_33 rfl dX11_about_37 ?_
        refine lv_iload_n hx hb dX11_about_40 rfl (lv_at hl 1 rfl) ?_
        obtain ⟨g6, h⟩ := xgd h
        refine xa_l C hW KX_37 g6 (x := σ.2 37 x1.toNatClampNeg) rfl dX11_about_41 ?_
        refine lv_lconst (v := 0) hx hb dX11_about_42 rfl ?_
        refine W.lcmp hx hb dX11_about_43 ?_
        refine lv_if_ne (tgt := 51) hx hb dX11_about_44 (by decide) (fun c7 => ?_) (fun c7 => ?_)
        · have h := xif c7 h
          refine lv_iconst (v := 1) hx hb dX11_about_51 rfl ?_
          cases h
          exact xr_i C hW dX11_about_52
        · have h := xit c7 h
          refine lv_iconst (v := 0) hx hb dX11_about_47 rfl ?_
          refine lv_goto (tgt := 52) hx hb dX11_about_48 (by decide) ?_
          cases h
          exact xr_i C hW dX11_about_52
    · have h := xit c2 h
      refine lv_aload_n hx hb dX11_about_18 rfl (lv_at hl 0 rfl) ?_
      refine xg_r C hW fg_11_47 KX_0 rfl dX11_about_19 ?_
      refine xg_r C hW fg_11_244 KX_33 rfl dX11_about_22 ?_
      refine lv_iload_n hx hb dX11_about_25 rfl (lv_at hl 1 rfl) ?_
      obtain ⟨g8, h⟩ := xgd h
      refine xa_i C hW KX_36 g8 (x := σ.1 36 x1.toNatClampNeg) rfl dX11_about_26 ?_
      cases h
      exact xr_i C hW dX11_about_27
  · have h := xit c1 h
    refine lv_bipush (v := (-9)) hx hb dX11_about_11 rfl ?_
    cases h
    exact xr_i C hW dX11_about_13
end
theorem dX11_spellings_0 : decode cX11_spellings 0 = .ok (.aload_n 0, 1) := by decide +kernel
theorem dX11_spellings_1 : decode cX11_spellings 1 = .ok (.getfield 47, 3) := by decide +kernel
theorem dX11_spellings_4 : decode cX11_spellings 4 = .ok (.iload_n 1, 1) := by decide +kernel
theorem dX11_spellings_5 : decode cX11_spellings 5 = .ok (.invokevirtual 243, 3) := by decide +kernel
theorem dX11_spellings_8 : decode cX11_spellings 8 = .ok (.ifCond .ne 6, 3) := by decide +kernel
theorem dX11_spellings_11 : decode cX11_spellings 11 = .ok (.bipush (-2), 2) := by decide +kernel
theorem dX11_spellings_13 : decode cX11_spellings 13 = .ok (.ireturn, 1) := by decide +kernel
theorem dX11_spellings_14 : decode cX11_spellings 14 = .ok (.aload_n 0, 1) := by decide +kernel
theorem dX11_spellings_15 : decode cX11_spellings 15 = .ok (.getfield 72, 3) := by decide +kernel
theorem dX11_spellings_18 : decode cX11_spellings 18 = .ok (.iload_n 1, 1) := by decide +kernel
theorem dX11_spellings_19 : decode cX11_spellings 19 = .ok (.invokevirtual 249, 3) := by decide +kernel
theorem dX11_spellings_22 : decode cX11_spellings 22 = .ok (.istore_n 2, 1) := by decide +kernel
theorem dX11_spellings_23 : decode cX11_spellings 23 = .ok (.iload_n 2, 1) := by decide +kernel
theorem dX11_spellings_24 : decode cX11_spellings 24 = .ok (.ldc 252, 2) := by decide +kernel
theorem dX11_spellings_26 : decode cX11_spellings 26 = .ok (.if_icmp .le 8, 3) := by decide +kernel
theorem dX11_spellings_29 : decode cX11_spellings 29 = .ok (.bipush (-3), 2) := by decide +kernel
theorem dX11_spellings_31 : decode cX11_spellings 31 = .ok (.goto 4, 3) := by decide +kernel
theorem dX11_spellings_34 : decode cX11_spellings 34 = .ok (.iload_n 2, 1) := by decide +kernel
theorem dX11_spellings_35 : decode cX11_spellings 35 = .ok (.ireturn, 1) := by decide +kernel
abbrev rm_X11_spellings : Room := { frames := 26, cells := 0, slots := 0, locals := 1340 }
def f_X11_spellings (N : Nat) (x1 : Int32) (σ : St) : Option (Int32 × St) := (if (f_X9_has x1 σ) = 0 then some ((-2), σ) else bd (f_X2_spellingsOf N x1 σ) (fun r2_ σ2 => (if r2_ ≤ 100000 then some (r2_, σ2) else some ((-3), σ2))))
section
variable {p : Program} {l : Launch} {e : Env} {s : State} {m : MethodId} {args : Array Value} {below : List Frame} {meth : Method} {c : Code} {g : XG}
set_option maxRecDepth 4000 in
theorem m_X11_spellings (N : Nat) (x1 : Int32) (σ : St) {r : Int32} {σ' : St} (h : f_X11_spellings N x1 σ = some (r, σ')) : xM l KX g yX11_spellings cX11_spellings 3 (some .int) rm_X11_spellings [.ref (g.q 0), .int x1] σ (some (.int r)) σ' := by
  refine xmet pn_X11 rfl (Nat.le_of_ble_eq_true rfl) (lv := [(0, .ref (g.q 0)), (1, .int x1)]) rfl (fun p e s m args below meth c ls C hW hl => ?_)
  have hx := C.1
  have hb := C.2.1
  unfold f_X11_spellings at h
  refine lv_aload_n hx hb dX11_spellings_0 rfl (lv_at hl 0 rfl) ?_
  refine xg_r C hW fg_11_47 KX_0 rfl dX11_spellings_1 ?_
  refine lv_iload_n hx hb dX11_spellings_4 rfl (lv_at hl 1 rfl) ?_
  refine xc_V (As := [.int x1]) (rest := []) C hW (m_X9_has x1 _ rfl) mf_X9_has mv_X9_has ml_X11_243 ⟨rfl, rfl⟩ ⟨Nat.le_of_ble_eq_true rfl, Nat.le_of_ble_eq_true rfl⟩ KX_33 rfl hl.1 rfl rfl (Nat.le_of_ble_eq_true rfl) dX11_spellings_5 (fun H locs hW => W.eq (g2 := F0 m 8 ls [.int (f_X9_has x1 σ)]) rfl ?_)
  refine lv_if_ne (tgt := 14) hx hb dX11_spellings_8 (by decide) (fun c1 => ?_) (fun c1 => ?_)
  · have h := xif c1 h
    refine lv_aload_n hx hb dX11_spellings_14 rfl (lv_at hl 0 rfl) ?_
    refine xg_r C hW fg_11_72 KX_0 rfl dX11_spellings_15 ?_
    refine lv_iload_n hx hb dX11_spellings_18 rfl (lv_at hl 1 rfl) ?_
    obtain ⟨r2_, σ2, e2, h⟩ := xbd h
    refine xc_V (As := [.int x1]) (rest := []) C hW (m_X2_spellingsOf N x1 _ e2) mf_X2_spellingsOf mv_X2_spellingsOf ml_X11_249 ⟨rfl, rfl⟩ ⟨Nat.le_of_ble_eq_true rfl, Nat.le_of_ble_eq_true rfl⟩ KX_46 rfl hl.1 rfl rfl (Nat.le_of_ble_eq_true rfl) dX11_spellings_19 (fun H locs hW => W.eq (g2 := F0 m 22 ls [.int r2_]) rfl ?_)
    refine lv_istore_n (lv' := [(2, .int r2_), (0, .ref (g.q 0)), (1, .int x1)]) hx hb dX11_spellings_22 rfl hl (Nat.le_of_ble_eq_true rfl) rfl (fun ls hl => ?_)
    refine lv_iload_n hx hb dX11_spellings_23 rfl (lv_at hl 0 rfl) ?_
    refine lv_ldc (v := 100000) hx hb C.ow (C.hts _ kc_X11_252) dX11_spellings_24 ?_
    refine lv_icmp_le (tgt := 34) hx hb dX11_spellings_26 (by decide) (fun c3 => ?_) (fun c3 => ?_)
    · have h := xit c3 h
      refine lv_iload_n hx hb dX11_spellings_34 rfl (lv_at hl 0 rfl) ?_
      cases h
      exact xr_i C hW dX11_spellings_35
    · have h := xif c3 h
      refine lv_bipush (v := (-3)) hx hb dX11_spellings_29 rfl ?_
      refine lv_goto (tgt := 35) hx hb dX11_spellings_31 (by decide) ?_
      cases h
      exact xr_i C hW dX11_spellings_35
  · have h := xit c1 h
    refine lv_bipush (v := (-2)) hx hb dX11_spellings_11 rfl ?_
    cases h
    exact xr_i C hW dX11_spellings_13
end
theorem dX11_best_0 : decode cX11_best 0 = .ok (.aload_n 0, 1) := by decide +kernel
theorem dX11_best_1 : decode cX11_best 1 = .ok (.getfield 47, 3) := by decide +kernel
theorem dX11_best_4 : decode cX11_best 4 = .ok (.iload_n 1, 1) := by decide +kernel
theorem dX11_best_5 : decode cX11_best 5 = .ok (.invokevirtual 243, 3) := by decide +kernel
theorem dX11_best_8 : decode cX11_best 8 = .ok (.ifCond .ne 6, 3) := by decide +kernel
theorem dX11_best_11 : decode cX11_best 11 = .ok (.bipush (-2), 2) := by decide +kernel
theorem dX11_best_13 : decode cX11_best 13 = .ok (.ireturn, 1) := by decide +kernel
theorem dX11_best_14 : decode cX11_best 14 = .ok (.aload_n 0, 1) := by decide +kernel
theorem dX11_best_15 : decode cX11_best 15 = .ok (.getfield 72, 3) := by decide +kernel
theorem dX11_best_18 : decode cX11_best 18 = .ok (.iload_n 1, 1) := by decide +kernel
theorem dX11_best_19 : decode cX11_best 19 = .ok (.invokevirtual 253, 3) := by decide +kernel
theorem dX11_best_22 : decode cX11_best 22 = .ok (.ireturn, 1) := by decide +kernel
abbrev rm_X11_best : Room := { frames := 6, cells := 0, slots := 0, locals := 131 }
def f_X11_best (N : Nat) (x1 : Int32) (σ : St) : Option (Int32 × St) := (if (f_X9_has x1 σ) = 0 then some ((-2), σ) else bd (f_X2_bestPaint N x1 σ) (fun r2_ σ2 => some (r2_, σ2)))
section
variable {p : Program} {l : Launch} {e : Env} {s : State} {m : MethodId} {args : Array Value} {below : List Frame} {meth : Method} {c : Code} {g : XG}
set_option maxRecDepth 4000 in
theorem m_X11_best (N : Nat) (x1 : Int32) (σ : St) {r : Int32} {σ' : St} (h : f_X11_best N x1 σ = some (r, σ')) : xM l KX g yX11_best cX11_best 2 (some .int) rm_X11_best [.ref (g.q 0), .int x1] σ (some (.int r)) σ' := by
  refine xmet pn_X11 rfl (Nat.le_of_ble_eq_true rfl) (lv := [(0, .ref (g.q 0)), (1, .int x1)]) rfl (fun p e s m args below meth c ls C hW hl => ?_)
  have hx := C.1
  have hb := C.2.1
  unfold f_X11_best at h
  refine lv_aload_n hx hb dX11_best_0 rfl (lv_at hl 0 rfl) ?_
  refine xg_r C hW fg_11_47 KX_0 rfl dX11_best_1 ?_
  refine lv_iload_n hx hb dX11_best_4 rfl (lv_at hl 1 rfl) ?_
  refine xc_V (As := [.int x1]) (rest := []) C hW (m_X9_has x1 _ rfl) mf_X9_has mv_X9_has ml_X11_243 ⟨rfl, rfl⟩ ⟨Nat.le_of_ble_eq_true rfl, Nat.le_of_ble_eq_true rfl⟩ KX_33 rfl hl.1 rfl rfl (Nat.le_of_ble_eq_true rfl) dX11_best_5 (fun H locs hW => W.eq (g2 := F0 m 8 ls [.int (f_X9_has x1 σ)]) rfl ?_)
  refine lv_if_ne (tgt := 14) hx hb dX11_best_8 (by decide) (fun c1 => ?_) (fun c1 => ?_)
  · have h := xif c1 h
    refine lv_aload_n hx hb dX11_best_14 rfl (lv_at hl 0 rfl) ?_
    refine xg_r C hW fg_11_72 KX_0 rfl dX11_best_15 ?_
    refine lv_iload_n hx hb dX11_best_18 rfl (lv_at hl 1 rfl) ?_
    obtain ⟨r2_, σ2, e2, h⟩ := xbd h
    refine xc_V (As := [.int x1]) (rest := []) C hW (m_X2_bestPaint N x1 _ e2) mf_X2_bestPaint mv_X2_bestPaint ml_X11_253 ⟨rfl, rfl⟩ ⟨Nat.le_of_ble_eq_true rfl, Nat.le_of_ble_eq_true rfl⟩ KX_46 rfl hl.1 rfl rfl (Nat.le_of_ble_eq_true rfl) dX11_best_19 (fun H locs hW => W.eq (g2 := F0 m 22 ls [.int r2_]) rfl ?_)
    cases h
    exact xr_i C hW dX11_best_22
  · have h := xit c1 h
    refine lv_bipush (v := (-2)) hx hb dX11_best_11 rfl ?_
    cases h
    exact xr_i C hW dX11_best_13
end
theorem dX11_bestSign_0 : decode cX11_bestSign 0 = .ok (.aload_n 0, 1) := by decide +kernel
theorem dX11_bestSign_1 : decode cX11_bestSign 1 = .ok (.getfield 47, 3) := by decide +kernel
theorem dX11_bestSign_4 : decode cX11_bestSign 4 = .ok (.iload_n 1, 1) := by decide +kernel
theorem dX11_bestSign_5 : decode cX11_bestSign 5 = .ok (.invokevirtual 243, 3) := by decide +kernel
theorem dX11_bestSign_8 : decode cX11_bestSign 8 = .ok (.ifCond .ne 5, 3) := by decide +kernel
theorem dX11_bestSign_11 : decode cX11_bestSign 11 = .ok (.iconst (-1), 1) := by decide +kernel
theorem dX11_bestSign_12 : decode cX11_bestSign 12 = .ok (.ireturn, 1) := by decide +kernel
theorem dX11_bestSign_13 : decode cX11_bestSign 13 = .ok (.aload_n 0, 1) := by decide +kernel
theorem dX11_bestSign_14 : decode cX11_bestSign 14 = .ok (.getfield 72, 3) := by decide +kernel
theorem dX11_bestSign_17 : decode cX11_bestSign 17 = .ok (.iload_n 1, 1) := by decide +kernel
theorem dX11_bestSign_18 : decode cX11_bestSign 18 = .ok (.iload_n 2, 1) := by decide +kernel
theorem dX11_bestSign_19 : decode cX11_bestSign 19 = .ok (.invokevirtual 256, 3) := by decide +kernel
theorem dX11_bestSign_22 : decode cX11_bestSign 22 = .ok (.ireturn, 1) := by decide +kernel
abbrev rm_X11_bestSign : Room := { frames := 6, cells := 0, slots := 0, locals := 132 }
def f_X11_bestSign (N : Nat) (x1 : Int32) (x2 : Int32) (σ : St) : Option (Int32 × St) := (if (f_X9_has x1 σ) = 0 then some ((-1), σ) else bd (f_X2_bestSignAt N x1 x2 σ) (fun r2_ σ2 => some (r2_, σ2)))
section
variable {p : Program} {l : Launch} {e : Env} {s : State} {m : MethodId} {args : Array Value} {below : List Frame} {meth : Method} {c : Code} {g : XG}
set_option maxRecDepth 4000 in
theorem m_X11_bestSign (N : Nat) (x1 : Int32) (x2 : Int32) (σ : St) {r : Int32} {σ' : St} (h : f_X11_bestSign N x1 x2 σ = some (r, σ')) : xM l KX g yX11_bestSign cX11_bestSign 3 (some .int) rm_X11_bestSign [.ref (g.q 0), .int x1, .int x2] σ (some (.int r)) σ' := by
  refine xmet pn_X11 rfl (Nat.le_of_ble_eq_true rfl) (lv := [(0, .ref (g.q 0)), (1, .int x1), (2, .int x2)]) rfl (fun p e s m args below meth c ls C hW hl => ?_)
  have hx := C.1
  have hb := C.2.1
  unfold f_X11_bestSign at h
  refine lv_aload_n hx hb dX11_bestSign_0 rfl (lv_at hl 0 rfl) ?_
  refine xg_r C hW fg_11_47 KX_0 rfl dX11_bestSign_1 ?_
  refine lv_iload_n hx hb dX11_bestSign_4 rfl (lv_at hl 1 rfl) ?_
  refine xc_V (As := [.int x1]) (rest := []) C hW (m_X9_has x1 _ rfl) mf_X9_has mv_X9_has ml_X11_243 ⟨rfl, rfl⟩ ⟨Nat.le_of_ble_eq_true rfl, Nat.le_of_ble_eq_true rfl⟩ KX_33 rfl hl.1 rfl rfl (Nat.le_of_ble_eq_true rfl) dX11_bestSign_5 (fun H locs hW => W.eq (g2 := F0 m 8 ls [.int (f_X9_has x1 σ)]) rfl ?_)
  refine lv_if_ne (tgt := 13) hx hb dX11_bestSign_8 (by decide) (fun c1 => ?_) (fun c1 => ?_)
  · have h := xif c1 h
    refine lv_aload_n hx hb dX11_bestSign_13 rfl (lv_at hl 0 rfl) ?_
    refine xg_r C hW fg_11_72 KX_0 rfl dX11_bestSign_14 ?_
    refine lv_iload_n hx hb dX11_bestSign_17 rfl (lv_at hl 1 rfl) ?_
    refine lv_iload_n hx hb dX11_bestSign_18 rfl (lv_at hl 2 rfl) ?_
    obtain ⟨r2_, σ2, e2, h⟩ := xbd h
    refine xc_V (As := [.int x1, .int x2]) (rest := []) C hW (m_X2_bestSignAt N x1 x2 _ e2) mf_X2_bestSignAt mv_X2_bestSignAt ml_X11_256 ⟨rfl, rfl⟩ ⟨Nat.le_of_ble_eq_true rfl, Nat.le_of_ble_eq_true rfl⟩ KX_46 rfl hl.1 rfl rfl (Nat.le_of_ble_eq_true rfl) dX11_bestSign_19 (fun H locs hW => W.eq (g2 := F0 m 22 ls [.int r2_]) rfl ?_)
    cases h
    exact xr_i C hW dX11_bestSign_22
  · have h := xit c1 h
    refine lv_iconst (v := (-1)) hx hb dX11_bestSign_11 rfl ?_
    cases h
    exact xr_i C hW dX11_bestSign_12
end
