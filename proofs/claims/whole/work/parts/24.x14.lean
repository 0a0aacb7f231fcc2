theorem dX11_box_0 : decode cX11_box 0 = .ok (.iload_n 1, 1) := by decide +kernel
theorem dX11_box_1 : decode cX11_box 1 = .ok (.ifCond .lt 14, 3) := by decide +kernel
theorem dX11_box_4 : decode cX11_box 4 = .ok (.iload_n 1, 1) := by decide +kernel
theorem dX11_box_5 : decode cX11_box 5 = .ok (.aload_n 0, 1) := by decide +kernel
theorem dX11_box_6 : decode cX11_box 6 = .ok (.getfield 40, 3) := by decide +kernel
theorem dX11_box_9 : decode cX11_box 9 = .ok (.getfield 216, 3) := by decide +kernel
theorem dX11_box_12 : decode cX11_box 12 = .ok (.if_icmp .lt 6, 3) := by decide +kernel
theorem dX11_box_15 : decode cX11_box 15 = .ok (.bipush (-9), 2) := by decide +kernel
theorem dX11_box_17 : decode cX11_box 17 = .ok (.ireturn, 1) := by decide +kernel
theorem dX11_box_18 : decode cX11_box 18 = .ok (.iload_n 2, 1) := by decide +kernel
theorem dX11_box_19 : decode cX11_box 19 = .ok (.tableswitch 97 0 5 #[37, 47, 57, 70, 79, 88], 37) := by decide +kernel
theorem dX11_box_56 : decode cX11_box 56 = .ok (.aload_n 0, 1) := by decide +kernel
theorem dX11_box_57 : decode cX11_box 57 = .ok (.getfield 40, 3) := by decide +kernel
theorem dX11_box_60 : decode cX11_box 60 = .ok (.getfield 219, 3) := by decide +kernel
theorem dX11_box_63 : decode cX11_box 63 = .ok (.iload_n 1, 1) := by decide +kernel
theorem dX11_box_64 : decode cX11_box 64 = .ok (.iaload, 1) := by decide +kernel
theorem dX11_box_65 : decode cX11_box 65 = .ok (.ireturn, 1) := by decide +kernel
theorem dX11_box_66 : decode cX11_box 66 = .ok (.aload_n 0, 1) := by decide +kernel
theorem dX11_box_67 : decode cX11_box 67 = .ok (.getfield 40, 3) := by decide +kernel
theorem dX11_box_70 : decode cX11_box 70 = .ok (.getfield 222, 3) := by decide +kernel
theorem dX11_box_73 : decode cX11_box 73 = .ok (.iload_n 1, 1) := by decide +kernel
theorem dX11_box_74 : decode cX11_box 74 = .ok (.iaload, 1) := by decide +kernel
theorem dX11_box_75 : decode cX11_box 75 = .ok (.ireturn, 1) := by decide +kernel
theorem dX11_box_76 : decode cX11_box 76 = .ok (.aload_n 0, 1) := by decide +kernel
theorem dX11_box_77 : decode cX11_box 77 = .ok (.getfield 40, 3) := by decide +kernel
theorem dX11_box_80 : decode cX11_box 80 = .ok (.iload_n 1, 1) := by decide +kernel
theorem dX11_box_81 : decode cX11_box 81 = .ok (.aload_n 0, 1) := by decide +kernel
theorem dX11_box_82 : decode cX11_box 82 = .ok (.getfield 225, 3) := by decide +kernel
theorem dX11_box_85 : decode cX11_box 85 = .ok (.invokevirtual 229, 3) := by decide +kernel
theorem dX11_box_88 : decode cX11_box 88 = .ok (.ireturn, 1) := by decide +kernel
theorem dX11_box_89 : decode cX11_box 89 = .ok (.aload_n 0, 1) := by decide +kernel
theorem dX11_box_90 : decode cX11_box 90 = .ok (.getfield 40, 3) := by decide +kernel
theorem dX11_box_93 : decode cX11_box 93 = .ok (.iload_n 1, 1) := by decide +kernel
theorem dX11_box_94 : decode cX11_box 94 = .ok (.invokevirtual 233, 3) := by decide +kernel
theorem dX11_box_97 : decode cX11_box 97 = .ok (.ireturn, 1) := by decide +kernel
theorem dX11_box_98 : decode cX11_box 98 = .ok (.aload_n 0, 1) := by decide +kernel
theorem dX11_box_99 : decode cX11_box 99 = .ok (.getfield 40, 3) := by decide +kernel
theorem dX11_box_102 : decode cX11_box 102 = .ok (.iload_n 1, 1) := by decide +kernel
theorem dX11_box_103 : decode cX11_box 103 = .ok (.invokevirtual 236, 3) := by decide +kernel
theorem dX11_box_106 : decode cX11_box 106 = .ok (.ireturn, 1) := by decide +kernel
theorem dX11_box_107 : decode cX11_box 107 = .ok (.aload_n 0, 1) := by decide +kernel
theorem dX11_box_108 : decode cX11_box 108 = .ok (.getfield 40, 3) := by decide +kernel
theorem dX11_box_111 : decode cX11_box 111 = .ok (.iload_n 1, 1) := by decide +kernel
theorem dX11_box_112 : decode cX11_box 112 = .ok (.invokevirtual 239, 3) := by decide +kernel
theorem dX11_box_115 : decode cX11_box 115 = .ok (.ireturn, 1) := by decide +kernel
theorem dX11_box_116 : decode cX11_box 116 = .ok (.bipush (-9), 2) := by decide +kernel
theorem dX11_box_118 : decode cX11_box 118 = .ok (.ireturn, 1) := by decide +kernel
abbrev rm_X11_box : Room := { frames := 5, cells := 0, slots := 0, locals := 148 }
def f_X11_box (x1 : Int32) (x2 : Int32) (σ : St) : Option Int32 := (if x1 < 0 then some ((-9)) else (if x1 < (σ.1 5605 0) then (if x2 = 0 then grd (ib x1 24) (some (σ.1 26 x1.toNatClampNeg)) else (if x2 = 1 then grd (ib x1 24) (some (σ.1 27 x1.toNatClampNeg)) else (if x2 = 2 then bo (f_X1_leftEdge x1 (σ.1 1012 0) σ) (fun r8_ => some r8_) else (if x2 = 3 then bo (f_X1_upperEdge x1 σ) (fun r10_ => some r10_) else (if x2 = 4 then bo (f_X1_boxWidth x1 σ) (fun r12_ => some r12_) else (if x2 = 5 then bo (f_X1_boxHeight x1 σ) (fun r14_ => some r14_) else some ((-9)))))))) else some ((-9))))
section
variable {p : Program} {l : Launch} {e : Env} {s : State} {m : MethodId} {args : Array Value} {below : List Frame} {meth : Method} {c : Code} {g : XG}
set_option maxRecDepth 4000 in
theorem m_X11_box (x1 : Int32) (x2 : Int32) (σ : St) {r : Int32} (h : f_X11_box x1 x2 σ = some r) : xM l KX g yX11_box cX11_box 3 (some .int) rm_X11_box [.ref (g.q 0), .int x1, .int x2] σ (some (.int r)) σ := by
  refine xmet pn_X11 rfl (Nat.le_of_ble_eq_true rfl) (lv := [(0, .ref (g.q 0)), (1, .int x1), (2, .int x2)]) rfl (fun p e s m args below meth c ls C hW hl => ?_)
  have hx := C.1
  have hb := C.2.1
  unfold f_X11_box at h
  refine lv_iload_n hx hb dX11_box_0 rfl (lv_at hl 1 rfl) ?_
  refine lv_if_lt (tgt := 15) hx hb dX11_box_1 (by decide) (fun c1 => ?_) (fun c1 => ?_)
  · have h := xit c1 h
    refine lv_bipush (v := (-9)) hx hb dX11_box_15 rfl ?_
    cases h
    exact xr_i C hW dX11_box_17
  · have h := xif c1 h
    refine lv_iload_n hx hb dX11_box_4 rfl (lv_at hl 1 rfl) ?_
    refine lv_aload_n hx hb dX11_box_5 rfl (lv_at hl 0 rfl) ?_
    refine xg_r C hW fg_11_40 KX_0 rfl dX11_box_6 ?_
    refine xg_i C hW fg_11_216 KX_23 rfl (v := 5605) rfl (x := σ.1 5605 0) rfl dX11_box_9 ?_
    refine lv_icmp_lt (tgt := 18) hx hb dX11_box_12 (by decide) (fun c2 => ?_) (fun c2 => ?_)
    · have h := xit c2 h
      refine lv_iload_n hx hb dX11_box_18 rfl (lv_at hl 2 rfl) ?_
      by_cases c3 : x2 = 0
      · have h := xit c3 h
        refine lv_tableIn (off := 37) (tgt := 56) hx hb dX11_box_19 (by rw [c3]; decide) (by rw [c3]; decide) (by rw [c3]; rfl) (by decide) ?_
        refine lv_aload_n hx hb dX11_box_56 rfl (lv_at hl 0 rfl) ?_
        refine xg_r C hW fg_11_40 KX_0 rfl dX11_box_57 ?_
        refine xg_r C hW fg_11_219 KX_23 rfl dX11_box_60 ?_
        refine lv_iload_n hx hb dX11_box_63 rfl (lv_at hl 1 rfl) ?_
        obtain ⟨g4, h⟩ := xgd h
        refine xa_i C hW KX_26 g4 (x := σ.1 26 x1.toNatClampNeg) rfl dX11_box_64 ?_
        cases h
        exact xr_i C hW dX11_box_65
      · have h := xif c3 h
        by_cases c5 : x2 = 1
        · have h := xit c5 h
          refine lv_tableIn (off := 47) (tgt := 66) hx hb dX11_box_19 (by rw [c5]; decide) (by rw [c5]; decide) (by rw [c5]; rfl) (by decide) ?_
          refine lv_aload_n hx hb dX11_box_66 rfl (lv_at hl 0 rfl) ?_
          refine xg_r C hW fg_11_40 KX_0 rfl dX11_box_67 ?_
          refine xg_r C hW fg_11_222 KX_23 rfl dX11_box_70 ?_
          refine lv_iload_n hx hb dX11_box_73 rfl (lv_at hl 1 rfl) ?_
          obtain ⟨g6, h⟩ := xgd h
          refine xa_i C hW KX_27 g6 (x := σ.1 27 x1.toNatClampNeg) rfl dX11_box_74 ?_
          cases h
          exact xr_i C hW dX11_box_75
        · have h := xif c5 h
          by_cases c7 : x2 = 2
          · have h := xit c7 h
            refine lv_tableIn (off := 57) (tgt := 76) hx hb dX11_box_19 (by rw [c7]; decide) (by rw [c7]; decide) (by rw [c7]; rfl) (by decide) ?_
            refine lv_aload_n hx hb dX11_box_76 rfl (lv_at hl 0 rfl) ?_
            refine xg_r C hW fg_11_40 KX_0 rfl dX11_box_77 ?_
            refine lv_iload_n hx hb dX11_box_80 rfl (lv_at hl 1 rfl) ?_
            refine lv_aload_n hx hb dX11_box_81 rfl (lv_at hl 0 rfl) ?_
            refine xg_i C hW fg_11_225 KX_0 rfl (v := 1012) rfl (x := σ.1 1012 0) rfl dX11_box_82 ?_
            obtain ⟨r8_, e8, h⟩ := xbo h
            refine xc_V (As := [.int x1, .int (σ.1 1012 0)]) (rest := []) C hW (m_X1_leftEdge x1 (σ.1 1012 0) _ e8) mf_X1_leftEdge mv_X1_leftEdge ml_X11_229 ⟨rfl, rfl⟩ ⟨Nat.le_of_ble_eq_true rfl, Nat.le_of_ble_eq_true rfl⟩ KX_23 rfl hl.1 rfl rfl (Nat.le_of_ble_eq_true rfl) dX11_box_85 (fun H locs hW => W.eq (g2 := F0 m 88 ls [.int r8_]) rfl ?_)
            cases h
            exact xr_i C hW dX11_box_88
          · have h := xif c7 h
            by_cases c9 : x2 = 3
            · have h := xit c9 h
              refine lv_tableIn (off := 70) (tgt := 89) hx hb dX11_box_19 (by rw [c9]; decide) (by rw [c9]; decide) (by rw [c9]; rfl) (by decide) ?_
              refine lv_aload_n hx hb dX11_box_89 rfl (lv_at hl 0 rfl) ?_
              refine xg_r C hW fg_11_40 KX_0 rfl dX11_box_90 ?_
              refine lv_iload_n hx hb dX11_box_93 rfl (lv_at hl 1 rfl) ?_
              obtain ⟨r10_, e10, h⟩ := xbo h
              refine xc_V (As := [.int x1]) (rest := []) C hW (m_X1_upperEdge x1 _ e10) mf_X1_upperEdge mv_X1_upperEdge ml_X11_233 ⟨rfl, rfl⟩ ⟨Nat.le_of_ble_eq_true rfl, Nat.le_of_ble_eq_true rfl⟩ KX_23 rfl hl.1 rfl rfl (Nat.le_of_ble_eq_true rfl) dX11_box_94 (fun H locs hW => W.eq (g2 := F0 m 97 ls [.int r10_]) rfl ?_)
              cases h
              exact xr_i C hW dX11_box_97
            · have h := xif c9 h
              by_cases c11 : x2 = 4
              · have h := xit c11 h
                refine lv_tableIn (off := 79) (tgt := 98) hx hb dX11_box_19 (by rw [c11]; decide) (by rw [c11]; decide) (by rw [c11]; rfl) (by decide) ?_
                refine lv_aload_n hx hb dX11_box_98 rfl (lv_at hl 0 rfl) ?_
                refine xg_r C hW fg_11_40 KX_0 rfl dX11_box_99 ?_
                refine lv_iload_n hx hb dX11_box_102 rfl (lv_at hl 1 rfl) ?_
                obtain ⟨r12_, e12, h⟩ := xbo h
                refine xc_V (As := [.int x1]) (rest := []) C hW (m_X1_boxWidth x1 _ e12) mf_X1_boxWidth mv_X1_boxWidth ml_X11_236 ⟨rfl, rfl⟩ ⟨Nat.le_of_ble_eq_true rfl, Nat.le_of_ble_eq_true rfl⟩ KX_23 rfl hl.1 rfl rfl (Nat.le_of_ble_eq_true rfl) dX11_box_103 (fun H locs hW => W.eq (g2 := F0 m 106 ls [.int r12_]) rfl ?_)
                cases h
                exact xr_i C hW dX11_box_106
              · have h := xif c11 h
                by_cases c13 : x2 = 5
                · have h := xit c13 h
                  refine lv_tableIn (off := 88) (tgt := 107) hx hb dX11_box_19 (by rw [c13]; decide) (by rw [c13]; decide) (by rw [c13]; rfl) (by decide) ?_
                  refine lv_aload_n hx hb dX11_box_107 rfl (lv_at hl 0 rfl) ?_
                  refine xg_r C hW fg_11_40 KX_0 rfl dX11_box_108 ?_
                  refine lv_iload_n hx hb dX11_box_111 rfl (lv_at hl 1 rfl) ?_
                  obtain ⟨r14_, e14, h⟩ := xbo h
                  refine xc_V (As := [.int x1]) (rest := []) C hW (m_X1_boxHeight x1 _ e14) mf_X1_boxHeight mv_X1_boxHeight ml_X11_239 ⟨rfl, rfl⟩ ⟨Nat.le_of_ble_eq_true rfl, Nat.le_of_ble_eq_true rfl⟩ KX_23 rfl hl.1 rfl rfl (Nat.le_of_ble_eq_true rfl) dX11_box_112 (fun H locs hW => W.eq (g2 := F0 m 115 ls [.int r14_]) rfl ?_)
                  cases h
                  exact xr_i C hW dX11_box_115
                · have h := xif c13 h
                  refine lv_tableOut (tgt := 116) hx hb dX11_box_19 (xsw_out (fun k h1 h2 => ?_)) (by decide) ?_
                  · rcases (show k = 0 ∨ k = 1 ∨ k = 2 ∨ k = 3 ∨ k = 4 ∨ k = 5 by omega) with rfl | rfl | rfl | rfl | rfl | rfl
                    · exact c3
                    · exact c5
                    · exact c7
                    · exact c9
                    · exact c11
                    · exact c13
                  · refine lv_bipush (v := (-9)) hx hb dX11_box_116 rfl ?_
                    cases h
                    exact xr_i C hW dX11_box_118
    · have h := xif c2 h
      refine lv_bipush (v := (-9)) hx hb dX11_box_15 rfl ?_
      cases h
      exact xr_i C hW dX11_box_17
end
theorem dX11_face_0 : decode cX11_face 0 = .ok (.aload_n 0, 1) := by decide +kernel
theorem dX11_face_1 : decode cX11_face 1 = .ok (.getfield 225, 3) := by decide +kernel
theorem dX11_face_4 : decode cX11_face 4 = .ok (.iload_n 1, 1) := by decide +kernel
theorem dX11_face_5 : decode cX11_face 5 = .ok (.if_icmp .ne 7, 3) := by decide +kernel
theorem dX11_face_8 : decode cX11_face 8 = .ok (.iconst 0, 1) := by decide +kernel
theorem dX11_face_9 : decode cX11_face 9 = .ok (.goto 4, 3) := by decide +kernel
theorem dX11_face_12 : decode cX11_face 12 = .ok (.iconst 1, 1) := by decide +kernel
theorem dX11_face_13 : decode cX11_face 13 = .ok (.istore_n 2, 1) := by decide +kernel
theorem dX11_face_14 : decode cX11_face 14 = .ok (.aload_n 0, 1) := by decide +kernel
theorem dX11_face_15 : decode cX11_face 15 = .ok (.iload_n 1, 1) := by decide +kernel
theorem dX11_face_16 : decode cX11_face 16 = .ok (.putfield 225, 3) := by decide +kernel
theorem dX11_face_19 : decode cX11_face 19 = .ok (.iload_n 2, 1) := by decide +kernel
theorem dX11_face_20 : decode cX11_face 20 = .ok (.ireturn, 1) := by decide +kernel
abbrev rm_X11_face : Room := { frames := 0, cells := 0, slots := 0, locals := 0 }
def f_X11_face_13 (x1 : Int32) (t0 : Int32) (σ : St) : Option (Int32 × St) := grd (zbb x1) (some (t0, (si σ 1012 0 x1)))
def f_X11_face (x1 : Int32) (σ : St) : Option (Int32 × St) := (if (σ.1 1012 0) = x1 then f_X11_face_13 x1 0 σ else f_X11_face_13 x1 1 σ)
section
variable {p : Program} {l : Launch} {e : Env} {s : State} {m : MethodId} {args : Array Value} {below : List Frame} {meth : Method} {c : Code} {g : XG}
set_option maxRecDepth 4000 in
theorem w_X11_face_13 {r : Int32} {σ' : St} (C : xC KX g RX11 cX11_face 3 (some .int) p s m args meth c) : ∀ (x1 : Int32) (t0 : Int32) (σ : St) (H : Heap) (locs : List Loc) (ls : Array Slot), xW KX g s σ H locs → lv_has ls 3 [(0, .ref (g.q 0)), (1, .int x1)] → f_X11_face_13 x1 t0 σ = some (r, σ') → W p l e rm_X11_face s m args below meth c H locs 0 0 (MQ below (xPost KX g (some (.int r)) σ') args s 0 0 (xA KX g.q)) (F0 m 13 ls [.int t0]) := by
  have hx := C.1
  have hb := C.2.1
  intro x1 t0 σ H locs ls hW hl h
  unfold f_X11_face_13 at h
  refine lv_istore_n (lv' := [(2, .int t0), (0, .ref (g.q 0)), (1, .int x1)]) hx hb dX11_face_13 rfl hl (Nat.le_of_ble_eq_true rfl) rfl (fun ls hl => ?_)
  refine lv_aload_n hx hb dX11_face_14 rfl (lv_at hl 1 rfl) ?_
  refine lv_iload_n hx hb dX11_face_15 rfl (lv_at hl 2 rfl) ?_
  obtain ⟨g2, h⟩ := xgd h
  refine xp_i C hW fp_11_225 KX_0 rfl (v := 1012) rfl (zbb_n g2) (zbb_f g2) dX11_face_16 (fun H locs hW => ?_)
  refine lv_iload_n hx hb dX11_face_19 rfl (lv_at hl 0 rfl) ?_
  cases h
  exact xr_i C hW dX11_face_20
set_option maxRecDepth 4000 in
theorem m_X11_face (x1 : Int32) (σ : St) {r : Int32} {σ' : St} (h : f_X11_face x1 σ = some (r, σ')) : xM l KX g yX11_face cX11_face 3 (some .int) rm_X11_face [.ref (g.q 0), .int x1] σ (some (.int r)) σ' := by
  refine xmet pn_X11 rfl (Nat.le_of_ble_eq_true rfl) (lv := [(0, .ref (g.q 0)), (1, .int x1)]) rfl (fun p e s m args below meth c ls C hW hl => ?_)
  have hx := C.1
  have hb := C.2.1
  unfold f_X11_face at h
  refine lv_aload_n hx hb dX11_face_0 rfl (lv_at hl 0 rfl) ?_
  refine xg_i C hW fg_11_225 KX_0 rfl (v := 1012) rfl (x := σ.1 1012 0) rfl dX11_face_1 ?_
  refine lv_iload_n hx hb dX11_face_4 rfl (lv_at hl 1 rfl) ?_
  refine lv_icmp_ne (tgt := 12) hx hb dX11_face_5 (by decide) (fun c1 => ?_) (fun c1 => ?_)
  · have h := xif c1 h
    refine lv_iconst (v := 1) hx hb dX11_face_12 rfl ?_
    exact w_X11_face_13 C x1 1 _ _ _ _ hW (lv_sub hl [0, 1] rfl) h
  · have h := xit c1 h
    refine lv_iconst (v := 0) hx hb dX11_face_8 rfl ?_
    refine lv_goto (tgt := 13) hx hb dX11_face_9 (by decide) ?_
    exact w_X11_face_13 C x1 0 _ _ _ _ hW (lv_sub hl [0, 1] rfl) h
end
theorem dX11_term_0 : decode cX11_term 0 = .ok (.aload_n 0, 1) := by decide +kernel
theorem dX11_term_1 : decode cX11_term 1 = .ok (.getfield 10, 3) := by decide +kernel
theorem dX11_term_4 : decode cX11_term 4 = .ok (.invokevirtual 109, 3) := by decide +kernel
theorem dX11_term_7 : decode cX11_term 7 = .ok (.aload_n 0, 1) := by decide +kernel
theorem dX11_term_8 : decode cX11_term 8 = .ok (.getfield 47, 3) := by decide +kernel
theorem dX11_term_11 : decode cX11_term 11 = .ok (.aload_n 0, 1) := by decide +kernel
theorem dX11_term_12 : decode cX11_term 12 = .ok (.getfield 10, 3) := by decide +kernel
theorem dX11_term_15 : decode cX11_term 15 = .ok (.invokevirtual 242, 3) := by decide +kernel
theorem dX11_term_18 : decode cX11_term 18 = .ok (.istore_n 1, 1) := by decide +kernel
theorem dX11_term_19 : decode cX11_term 19 = .ok (.aload_n 0, 1) := by decide +kernel
theorem dX11_term_20 : decode cX11_term 20 = .ok (.getfield 10, 3) := by decide +kernel
theorem dX11_term_23 : decode cX11_term 23 = .ok (.invokevirtual 119, 3) := by decide +kernel
theorem dX11_term_26 : decode cX11_term 26 = .ok (.iload_n 1, 1) := by decide +kernel
theorem dX11_term_27 : decode cX11_term 27 = .ok (.ireturn, 1) := by decide +kernel
abbrev rm_X11_term : Room := { frames := 4, cells := 0, slots := 0, locals := 88 }
def f_X11_term (N : Nat) (σ : St) : Option (Int32 × St) := bo (f_X8_rewind σ) (fun σ1 => bd (f_X9_take N σ1) (fun r2_ σ2 => bo (f_X8_drain σ2) (fun σ3 => some (r2_, σ3))))
section
variable {p : Program} {l : Launch} {e : Env} {s : State} {m : MethodId} {args : Array Value} {below : List Frame} {meth : Method} {c : Code} {g : XG}
set_option maxRecDepth 4000 in
theorem m_X11_term (N : Nat) (σ : St) {r : Int32} {σ' : St} (h : f_X11_term N σ = some (r, σ')) : xM l KX g yX11_term cX11_term 2 (some .int) rm_X11_term [.ref (g.q 0)] σ (some (.int r)) σ' := by
  refine xmet pn_X11 rfl (Nat.le_of_ble_eq_true rfl) (lv := [(0, .ref (g.q 0))]) rfl (fun p e s m args below meth c ls C hW hl => ?_)
  have hx := C.1
  have hb := C.2.1
  unfold f_X11_term at h
  refine lv_aload_n hx hb dX11_term_0 rfl (lv_at hl 0 rfl) ?_
  refine xg_r C hW fg_11_10 KX_0 rfl dX11_term_1 ?_
  obtain ⟨σ1, e1, h⟩ := xbo h
  refine xc_V (As := []) (rest := []) C hW (m_X8_rewind _ e1) mf_X8_rewind mv_X8_rewind ml_X11_109 ⟨rfl, rfl⟩ ⟨Nat.le_of_ble_eq_true rfl, Nat.le_of_ble_eq_true rfl⟩ KX_19 rfl hl.1 rfl rfl (Nat.le_of_ble_eq_true rfl) dX11_term_4 (fun H locs hW => W.eq (g2 := F0 m 7 ls []) rfl ?_)
  refine lv_aload_n hx hb dX11_term_7 rfl (lv_at hl 0 rfl) ?_
  refine xg_r C hW fg_11_47 KX_0 rfl dX11_term_8 ?_
  refine lv_aload_n hx hb dX11_term_11 rfl (lv_at hl 0 rfl) ?_
  refine xg_r C hW fg_11_10 KX_0 rfl dX11_term_12 ?_
  obtain ⟨r2_, σ2, e2, h⟩ := xbd h
  refine xc_V (As := [.ref (g.q 19)]) (rest := []) C hW (m_X9_take N _ e2) mf_X9_take mv_X9_take ml_X11_242 ⟨rfl, rfl⟩ ⟨Nat.le_of_ble_eq_true rfl, Nat.le_of_ble_eq_true rfl⟩ KX_33 rfl hl.1 rfl rfl (Nat.le_of_ble_eq_true rfl) dX11_term_15 (fun H locs hW => W.eq (g2 := F0 m 18 ls [.int r2_]) rfl ?_)
  refine lv_istore_n (lv' := [(1, .int r2_), (0, .ref (g.q 0))]) hx hb dX11_term_18 rfl hl (Nat.le_of_ble_eq_true rfl) rfl (fun ls hl => ?_)
  refine lv_aload_n hx hb dX11_term_19 rfl (lv_at hl 1 rfl) ?_
  refine xg_r C hW fg_11_10 KX_0 rfl dX11_term_20 ?_
  obtain ⟨σ3, e3, h⟩ := xbo h
  refine xc_V (As := []) (rest := []) C hW (m_X8_drain _ e3) mf_X8_drain mv_X8_drain ml_X11_119 ⟨rfl, rfl⟩ ⟨Nat.le_of_ble_eq_true rfl, Nat.le_of_ble_eq_true rfl⟩ KX_19 rfl hl.1 rfl rfl (Nat.le_of_ble_eq_true rfl) dX11_term_23 (fun H locs hW => W.eq (g2 := F0 m 26 ls []) rfl ?_)
  refine lv_iload_n hx hb dX11_term_26 rfl (lv_at hl 0 rfl) ?_
  cases h
  exact xr_i C hW dX11_term_27
end
theorem dX11_about_0 : decode cX11_about 0 = .ok (.aload_n 0, 1) := by decide +kernel
theorem dX11_about_1 : decode cX11_about 1 = .ok (.getfield 47, 3) := by decide +kernel
theorem dX11_about_4 : decode cX11_about 4 = .ok (.iload_n 1, 1) := by decide +kernel
theorem dX11_about_5 : decode cX11_about 5 = .ok (.invokevirtual 243, 3) := by decide +kernel
theorem dX11_about_8 : decode cX11_about 8 = .ok (.ifCond .ne 6, 3) := by decide +kernel
theorem dX11_about_11 : decode cX11_about 11 = .ok (.bipush (-9), 2) := by decide +kernel
theorem dX11_about_13 : decode cX11_about 13 = .ok (.ireturn, 1) := by decide +kernel
theorem dX11_about_14 : decode cX11_about 14 = .ok (.iload_n 2, 1) := by decide +kernel
theorem dX11_about_15 : decode cX11_about 15 = .ok (.ifCond .ne 13, 3) := by decide +kernel
theorem dX11_about_18 : decode cX11_about 18 = .ok (.aload_n 0, 1) := by decide +kernel
theorem dX11_about_19 : decode cX11_about 19 = .ok (.getfield 47, 3) := by decide +kernel
theorem dX11_about_22 : decode cX11_about 22 = .ok (.getfield 244, 3) := by decide +kernel
theorem dX11_about_25 : decode cX11_about 25 = .ok (.iload_n 1, 1) := by decide +kernel
theorem dX11_about_26 : decode cX11_about 26 = .ok (.iaload, 1) := by decide +kernel
theorem dX11_about_27 : decode cX11_about 27 = .ok (.ireturn, 1) := by decide +kernel
theorem dX11_about_28 : decode cX11_about 28 = .ok (.iload_n 2, 1) := by decide +kernel
theorem dX11_about_29 : decode cX11_about 29 = .ok (.iconst 1, 1) := by decide +kernel
theorem dX11_about_30 : decode cX11_about 30 = .ok (.if_icmp .ne 23, 3) := by decide +kernel
theorem dX11_about_33 : decode cX11_about 33 = .ok (.aload_n 0, 1) := by decide +kernel
theorem dX11_about_34 : decode cX11_about 34 = .ok (.getfield 47, 3) := by decide +kernel
theorem dX11_about_37 : decode cX11_about 37 = .ok (.getfield 245, 3) := by decide +kernel
theorem dX11_about_40 : decode cX11_about 40 = .ok (.iload_n 1, 1) := by decide +kernel
theorem dX11_about_41 : decode cX11_about 41 = .ok (.laload, 1) := by decide +kernel
theorem dX11_about_42 : decode cX11_about 42 = .ok (.lconst 0, 1) := by decide +kernel
theorem dX11_about_43 : decode cX11_about 43 = .ok (.lcmp, 1) := by decide +kernel
theorem dX11_about_44 : decode cX11_about 44 = .ok (.ifCond .ne 7, 3) := by decide +kernel
theorem dX11_about_47 : decode cX11_about 47 = .ok (.iconst 0, 1) := by decide +kernel
theorem dX11_about_48 : decode cX11_about 48 = .ok (.goto 4, 3) := by decide +kernel
theorem dX11_about_51 : decode cX11_about 51 = .ok (.iconst 1, 1) := by decide +kernel
theorem dX11_about_52 : decode cX11_about 52 = .ok (.ireturn, 1) := by decide +kernel
theorem dX11_about_53 : decode cX11_about 53 = .ok (.aload_n 0, 1) := by decide +kernel
theorem dX11_about_54 : decode cX11_about 54 = .ok (.getfield 47, 3) := by decide +kernel
theorem dX11_about_57 : decode cX11_about 57 = .ok (.getfield 248, 3) := by decide +kernel
theorem dX11_about_60 : decode cX11_about 60 = .ok (.iload_n 1, 1) := by decide +kernel
theorem dX11_about_61 : decode cX11_about 61 = .ok (.iaload, 1) := by decide +kernel
theorem dX11_about_62 : decode cX11_about 62 = .ok (.aload_n 0, 1) := by decide +kernel
theorem dX11_about_63 : decode cX11_about 63 = .ok (.getfield 47, 3) := by decide +kernel
theorem dX11_about_66 : decode cX11_about 66 = .ok (.getfield 244, 3) := by decide +kernel
theorem dX11_about_69 : decode cX11_about 69 = .ok (.iload_n 1, 1) := by decide +kernel
theorem dX11_about_70 : decode cX11_about 70 = .ok (.iaload, 1) := by decide +kernel
theorem dX11_about_71 : decode cX11_about 71 = .ok (.iload_n 2, 1) := by decide +kernel
theorem dX11_about_72 : decode cX11_about 72 = .ok (.bipush (-9), 2) := by decide +kernel
theorem dX11_about_74 : decode cX11_about 74 = .ok (.invokestatic 165, 3) := by decide +kernel
theorem dX11_about_77 : decode cX11_about 77 = .ok (.ireturn, 1) := by decide +kernel
abbrev rm_X11_about : Room := { frames := 2, cells := 0, slots := 0, locals := 45 }
def f_X11_about (x1 : Int32) (x2 : Int32) (σ : St) : Option Int32 := (if (f_X9_has x1 σ) = 0 then some ((-9)) else (if x2 = 0 then grd (ib x1 40) (some (σ.1 36 x1.toNatClampNeg)) else (if x2 = 1 then grd (ib x1 40) ((if (lg_cmp (σ.2 37 x1.toNatClampNeg) 0) = 0 then some 0 else some 1)) else grd (ib x1 40) (grd (ib x1 40) (some (f_X11_soundOf (σ.1 35 x1.toNatClampNeg) (σ.1 36 x1.toNatClampNeg) x2 ((-9)) σ))))))
section
variable {p : Program} {l : Launch} {e : Env} {s : State} {m : MethodId} {args : Array Value} {below : List Frame} {meth : Method} {c : Code} {g : XG}
set_option maxRecDepth 4000 in
theorem m_X11_about (x1 : Int32) (x2 : Int32) (σ : St) {r : Int32} (h : f_X11_about x1 x2 σ = some r) : xM l KX g yX11_about cX11_about 3 (some .int) rm_X11_about [.ref (g.q 0), .int x1, .int x2] σ (some (.int r)) σ := by
  refine xmet pn_X11 rfl (Nat.le_of_ble_eq_true rfl) (lv := [(0, .ref (g.q 0)), (1, .int x1), (2, .int x2)]) rfl (fun p e s m args below meth c ls C hW hl => ?_)
  have hx := C.1
  have hb := C.2.1
  unfold f_X11_about at h
  refine lv_aload_n hx hb dX11_about_0 rfl (lv_at hl 0 rfl) ?_
  refine xg_r C hW fg_11_47 KX_0 rfl dX11_about_1 ?_
  refine lv_iload_n hx hb dX11_about_4 rfl (lv_at hl 1 rfl) ?_
  refine xc_V (As := [.int x1]) (rest := []) C hW (m_X9_has x1 _ rfl) mf_X9_has mv_X9_has ml_X11_243 ⟨rfl, rfl⟩ ⟨Nat.le_of_ble_eq_true rfl, Nat.le_of_ble_eq_true rfl⟩ KX_33 rfl hl.1 rfl rfl (Nat.le_of_ble_eq_true rfl) dX11_about_5 (fun H locs hW => W.eq (g2 := F0 m 8 ls [.int (f_X9_has x1 σ)]) rfl ?_)
  refine lv_if_ne (tgt := 14) hx hb dX11_about_8 (by decide) (fun c1 => ?_) (fun c1 => ?_)
  · have h := xif c1 h
    refine lv_iload_n hx hb dX11_about_14 rfl (lv_at hl 2 rfl) ?_
    refine lv_if_ne (tgt := 28) hx hb dX11_about_15 (by decide) (fun c2 => ?_) (fun c2 => ?_)
    · have h := xif c2 h
      refine lv_iload_n hx hb dX11_about_28 rfl (lv_at hl 2 rfl) ?_
      refine lv_iconst (v := 1) hx hb dX11_about_29 rfl ?_
      refine lv_icmp_ne (tgt := 53) hx hb dX11_about_30 (by decide) (fun c3 => ?_) (fun c3 => ?_)
      · have h := xif c3 h
        refine lv_aload_n hx hb dX11_about_53 rfl (lv_at hl 0 rfl) ?_
        refine xg_r C hW fg_11_47 KX_0 rfl dX11_about_54 ?_
        refine xg_r C hW fg_11_248 KX_33 rfl dX11_about_57 ?_
        refine lv_iload_n hx hb dX11_about_60 rfl (lv_at hl 1 rfl) ?_
        obtain ⟨g4, h⟩ := xgd h
        refine xa_i C hW KX_35 g4 (x := σ.1 35 x1.toNatClampNeg) rfl dX11_about_61 ?_
        refine lv_aload_n hx hb dX11_about_62 rfl (lv_at hl 0 rfl) ?_
        refine xg_r C hW fg_11_47 KX_0 rfl dX11_about_63 ?_
        refine xg_r C hW fg_11_244 KX_33 rfl dX11_about_66 ?_
        refine lv_iload_n hx hb dX11_about_69 rfl (lv_at hl 1 rfl) ?_
        obtain ⟨g5, h⟩ := xgd h
        refine xa_i C hW KX_36 g5 (x := σ.1 36 x1.toNatClampNeg) rfl dX11_about_70 ?_
        refine lv_iload_n hx hb dX11_about_71 rfl (lv_at hl 2 rfl) ?_
        refine lv_bipush (v := (-9)) hx hb dX11_about_72 rfl ?_
        refine xc_S (As := [.int (σ.1 35 x1.toNatClampNeg), .int (σ.1 36 x1.toNatClampNeg), .int x2, .int ((-9))]) (rest := []) C hW (m_X11_soundOf (σ.1 35 x1.toNatClampNeg) (σ.1 36 x1.toNatClampNeg) x2 ((-9)) _ rfl) mf_X11_soundOf mt_X11_soundOf ml_X11_165 ⟨rfl, rfl⟩ ⟨Nat.le_of_ble_eq_true rfl, Nat.le_of_ble_eq_true rfl⟩ hl.1 rfl rfl (Nat.le_of_ble_eq_true rfl) dX11_about_74 (fun H locs hW => W.eq (g2 := F0 m 77 ls [.int (f_X11_soundOf (σ.1 35 x1.toNatClampNeg) (σ.1 36 x1.toNatClampNeg) x2 ((-9)) σ)]) rfl ?_)
        cases h
        exact xr_i C hW dX11_about_77
      · have h := xit c3 h
        refine lv_aload_n hx hb dX11_about_33 rfl (lv_at hl 0 rfl) ?_
        refine xg_r C hW fg_11_47 KX_0 rfl dX11_about_34 ?_
        refine xg_r C hW fg_11_245 KX_33 rfl dX11_about_37 ?_
        refine lv_iload_n hx hb dX11_about_40 rfl (lv_at hl 1 rfl) ?_
        obtain ⟨g6, h⟩ := xgd h
        refine xa_l C hW KX_37 g6 (x := σ.2 37 x1.toNatClampNeg) rfl dX11_about_41 ?_
        refine lv_lconst (v := 0) hx hb dX11_about_42 rfl ?_
        refine W.lcmp hx hb dX11_about_43 ?_
        refine lv_if_ne (tgt := 51) hx hb dX11_about_44 (by decide) (fun c7 => ?_) (fun c7 => ?_)
        · have h := xif c7 h
          refine lv_iconst (v := 1) hx hb dX11_about_51 rfl ?_
          cases h
          exact xr_i C hW dX11_about_52
        · have h := xit c7 h
          refine lv_iconst (v := 0) hx hb dX11_about_47 rfl ?_
          refine lv_goto (tgt := 52) hx hb dX11_about_48 (by decide) ?_
          cases h
          exact xr_i C hW dX11_about_52
    · have h := xit c2 h
      refine lv_aload_n hx hb dX11_about_18 rfl (lv_at hl 0 rfl) ?_
      refine xg_r C hW fg_11_47 KX_0 rfl dX11_about_19 ?_
      refine xg_r C hW fg_11_244 KX_33 rfl dX11_about_22 ?_
      refine lv_iload_n hx hb dX11_about_25 rfl (lv_at hl 1 rfl) ?_
      obtain ⟨g8, h⟩ := xgd h
      refine xa_i C hW KX_36 g8 (x := σ.1 36 x1.toNatClampNeg) rfl dX11_about_26 ?_
      cases h
      exact xr_i C hW dX11_about_27
  · have h := xit c1 h
    refine lv_bipush (v := (-9)) hx hb dX11_about_11 rfl ?_
    cases h
    exact xr_i C hW dX11_about_13
end
theorem dX11_spellings_0 : decode cX11_spellings 0 = .ok (.aload_n 0, 1) := by decide +kernel
theorem dX11_spellings_1 : decode cX11_spellings 1 = .ok (.getfield 47, 3) := by decide +kernel
theorem dX11_spellings_4 : decode cX11_spellings 4 = .ok (.iload_n 1, 1) := by decide +kernel
theorem dX11_spellings_5 : decode cX11_spellings 5 = .ok (.invokevirtual 243, 3) := by decide +kernel
theorem dX11_spellings_8 : decode cX11_spellings 8 = .ok (.ifCond .ne 6, 3) := by decide +kernel
theorem dX11_spellings_11 : decode cX11_spellings 11 = .ok (.bipush (-2), 2) := by decide +kernel
theorem dX11_spellings_13 : decode cX11_spellings 13 = .ok (.ireturn, 1) := by decide +kernel
theorem dX11_spellings_14 : decode cX11_spellings 14 = .ok (.aload_n 0, 1) := by decide +kernel
theorem dX11_spellings_15 : decode cX11_spellings 15 = .ok (.getfield 72, 3) := by decide +kernel
theorem dX11_spellings_18 : decode cX11_spellings 18 = .ok (.iload_n 1, 1) := by decide +kernel
theorem dX11_spellings_19 : decode cX11_spellings 19 = .ok (.invokevirtual 249, 3) := by decide +kernel
theorem dX11_spellings_22 : decode cX11_spellings 22 = .ok (.istore_n 2, 1) := by decide +kernel
theorem dX11_spellings_23 : decode cX11_spellings 23 = .ok (.iload_n 2, 1) := by decide +kernel
theorem dX11_spellings_24 : decode cX11_spellings 24 = .ok (.ldc 252, 2) := by decide +kernel
theorem dX11_spellings_26 : decode cX11_spellings 26 = .ok (.if_icmp .le 8, 3) := by decide +kernel
theorem dX11_spellings_29 : decode cX11_spellings 29 = .ok (.bipush (-3), 2) := by decide +kernel
theorem dX11_spellings_31 : decode cX11_spellings 31 = .ok (.goto 4, 3) := by decide +kernel
theorem dX11_spellings_34 : decode cX11_spellings 34 = .ok (.iload_n 2, 1) := by decide +kernel
theorem dX11_spellings_35 : decode cX11_spellings 35 = .ok (.ireturn, 1) := by decide +kernel
abbrev rm_X11_spellings : Room := { frames := 26, cells := 0, slots := 0, locals := 1340 }
def f_X11_spellings (N : Nat) (x1 : Int32) (σ : St) : Option (Int32 × St) := (if (f_X9_has x1 σ) = 0 then some ((-2), σ) else bd (f_X2_spellingsOf N x1 σ) (fun r2_ σ2 => (if r2_ ≤ 100000 then some (r2_, σ2) else some ((-3), σ2))))
section
variable {p : Program} {l : Launch} {e : Env} {s : State} {m : MethodId} {args : Array Value} {below : List Frame} {meth : Method} {c : Code} {g : XG}
set_option maxRecDepth 4000 in
theorem m_X11_spellings (N : Nat) (x1 : Int32) (σ : St) {r : Int32} {σ' : St} (h : f_X11_spellings N x1 σ = some (r, σ')) : xM l KX g yX11_spellings cX11_spellings 3 (some .int) rm_X11_spellings [.ref (g.q 0), .int x1] σ (some (.int r)) σ' := by
  refine xmet pn_X11 rfl (Nat.le_of_ble_eq_true rfl) (lv := [(0, .ref (g.q 0)), (1, .int x1)]) rfl (fun p e s m args below meth c ls C hW hl => ?_)
  have hx := C.1
  have hb := C.2.1
  unfold f_X11_spellings at h
  refine lv_aload_n hx hb dX11_spellings_0 rfl (lv_at hl 0 rfl) ?_
  refine xg_r C hW fg_11_47 KX_0 rfl dX11_spellings_1 ?_
  refine lv_iload_n hx hb dX11_spellings_4 rfl (lv_at hl 1 rfl) ?_
  refine xc_V (As := [.int x1]) (rest := []) C hW (m_X9_has x1 _ rfl) mf_X9_has mv_X9_has ml_X11_243 ⟨rfl, rfl⟩ ⟨Nat.le_of_ble_eq_true rfl, Nat.le_of_ble_eq_true rfl⟩ KX_33 rfl hl.1 rfl rfl (Nat.le_of_ble_eq_true rfl) dX11_spellings_5 (fun H locs hW => W.eq (g2 := F0 m 8 ls [.int (f_X9_has x1 σ)]) rfl ?_)
  refine lv_if_ne (tgt := 14) hx hb dX11_spellings_8 (by decide) (fun c1 => ?_) (fun c1 => ?_)
  · have h := xif c1 h
    refine lv_aload_n hx hb dX11_spellings_14 rfl (lv_at hl 0 rfl) ?_
    refine xg_r C hW fg_11_72 KX_0 rfl dX11_spellings_15 ?_
    refine lv_iload_n hx hb dX11_spellings_18 rfl (lv_at hl 1 rfl) ?_
    obtain ⟨r2_, σ2, e2, h⟩ := xbd h
    refine xc_V (As := [.int x1]) (rest := []) C hW (m_X2_spellingsOf N x1 _ e2) mf_X2_spellingsOf mv_X2_spellingsOf ml_X11_249 ⟨rfl, rfl⟩ ⟨Nat.le_of_ble_eq_true rfl, Nat.le_of_ble_eq_true rfl⟩ KX_46 rfl hl.1 rfl rfl (Nat.le_of_ble_eq_true rfl) dX11_spellings_19 (fun H locs hW => W.eq (g2 := F0 m 22 ls [.int r2_]) rfl ?_)
    refine lv_istore_n (lv' := [(2, .int r2_), (0, .ref (g.q 0)), (1, .int x1)]) hx hb dX11_spellings_22 rfl hl (Nat.le_of_ble_eq_true rfl) rfl (fun ls hl => ?_)
    refine lv_iload_n hx hb dX11_spellings_23 rfl (lv_at hl 0 rfl) ?_
    refine lv_ldc (v := 100000) hx hb C.ow (C.hts _ kc_X11_252) dX11_spellings_24 ?_
    refine lv_icmp_le (tgt := 34) hx hb dX11_spellings_26 (by decide) (fun c3 => ?_) (fun c3 => ?_)
    · have h := xit c3 h
      refine lv_iload_n hx hb dX11_spellings_34 rfl (lv_at hl 0 rfl) ?_
      cases h
      exact xr_i C hW dX11_spellings_35
    · have h := xif c3 h
      refine lv_bipush (v := (-3)) hx hb dX11_spellings_29 rfl ?_
      refine lv_goto (tgt := 35) hx hb dX11_spellings_31 (by decide) ?_
      cases h
      exact xr_i C hW dX11_spellings_35
  · have h := xit c1 h
    refine lv_bipush (v := (-2)) hx hb dX11_spellings_11 rfl ?_
    cases h
    exact xr_i C hW dX11_spellings_13
end
theorem dX11_best_0 : decode cX11_best 0 = .ok (.aload_n 0, 1) := by decide +kernel
theorem dX11_best_1 : decode cX11_best 1 = .ok (.getfield 47, 3) := by decide +kernel
theorem dX11_best_4 : decode cX11_best 4 = .ok (.iload_n 1, 1) := by decide +kernel
theorem dX11_best_5 : decode cX11_best 5 = .ok (.invokevirtual 243, 3) := by decide +kernel
theorem dX11_best_8 : decode cX11_best 8 = .ok (.ifCond .ne 6, 3) := by decide +kernel
theorem dX11_best_11 : decode cX11_best 11 = .ok (.bipush (-2), 2) := by decide +kernel
theorem dX11_best_13 : decode cX11_best 13 = .ok (.ireturn, 1) := by decide +kernel
theorem dX11_best_14 : decode cX11_best 14 = .ok (.aload_n 0, 1) := by decide +kernel
theorem dX11_best_15 : decode cX11_best 15 = .ok (.getfield 72, 3) := by decide +kernel
theorem dX11_best_18 : decode cX11_best 18 = .ok (.iload_n 1, 1) := by decide +kernel
theorem dX11_best_19 : decode cX11_best 19 = .ok (.invokevirtual 253, 3) := by decide +kernel
theorem dX11_best_22 : decode cX11_best 22 = .ok (.ireturn, 1) := by decide +kernel
abbrev rm_X11_best : Room := { frames := 6, cells := 0, slots := 0, locals := 131 }
def f_X11_best (N : Nat) (x1 : Int32) (σ : St) : Option (Int32 × St) := (if (f_X9_has x1 σ) = 0 then some ((-2), σ) else bd (f_X2_bestPaint N x1 σ) (fun r2_ σ2 => some (r2_, σ2)))
section
variable {p : Program} {l : Launch} {e : Env} {s : State} {m : MethodId} {args : Array Value} {below : List Frame} {meth : Method} {c : Code} {g : XG}
set_option maxRecDepth 4000 in
theorem m_X11_best (N : Nat) (x1 : Int32) (σ : St) {r : Int32} {σ' : St} (h : f_X11_best N x1 σ = some (r, σ')) : xM l KX g yX11_best cX11_best 2 (some .int) rm_X11_best [.ref (g.q 0), .int x1] σ (some (.int r)) σ' := by
  refine xmet pn_X11 rfl (Nat.le_of_ble_eq_true rfl) (lv := [(0, .ref (g.q 0)), (1, .int x1)]) rfl (fun p e s m args below meth c ls C hW hl => ?_)
  have hx := C.1
  have hb := C.2.1
  unfold f_X11_best at h
  refine lv_aload_n hx hb dX11_best_0 rfl (lv_at hl 0 rfl) ?_
  refine xg_r C hW fg_11_47 KX_0 rfl dX11_best_1 ?_
  refine lv_iload_n hx hb dX11_best_4 rfl (lv_at hl 1 rfl) ?_
  refine xc_V (As := [.int x1]) (rest := []) C hW (m_X9_has x1 _ rfl) mf_X9_has mv_X9_has ml_X11_243 ⟨rfl, rfl⟩ ⟨Nat.le_of_ble_eq_true rfl, Nat.le_of_ble_eq_true rfl⟩ KX_33 rfl hl.1 rfl rfl (Nat.le_of_ble_eq_true rfl) dX11_best_5 (fun H locs hW => W.eq (g2 := F0 m 8 ls [.int (f_X9_has x1 σ)]) rfl ?_)
  refine lv_if_ne (tgt := 14) hx hb dX11_best_8 (by decide) (fun c1 => ?_) (fun c1 => ?_)
  · have h := xif c1 h
    refine lv_aload_n hx hb dX11_best_14 rfl (lv_at hl 0 rfl) ?_
    refine xg_r C hW fg_11_72 KX_0 rfl dX11_best_15 ?_
    refine lv_iload_n hx hb dX11_best_18 rfl (lv_at hl 1 rfl) ?_
    obtain ⟨r2_, σ2, e2, h⟩ := xbd h
    refine xc_V (As := [.int x1]) (rest := []) C hW (m_X2_bestPaint N x1 _ e2) mf_X2_bestPaint mv_X2_bestPaint ml_X11_253 ⟨rfl, rfl⟩ ⟨Nat.le_of_ble_eq_true rfl, Nat.le_of_ble_eq_true rfl⟩ KX_46 rfl hl.1 rfl rfl (Nat.le_of_ble_eq_true rfl) dX11_best_19 (fun H locs hW => W.eq (g2 := F0 m 22 ls [.int r2_]) rfl ?_)
    cases h
    exact xr_i C hW dX11_best_22
  · have h := xit c1 h
    refine lv_bipush (v := (-2)) hx hb dX11_best_11 rfl ?_
    cases h
    exact xr_i C hW dX11_best_13
end
theorem dX11_bestSign_0 : decode cX11_bestSign 0 = .ok (.aload_n 0, 1) := by decide +kernel
theorem dX11_bestSign_1 : decode cX11_bestSign 1 = .ok (.getfield 47, 3) := by decide +kernel
theorem dX11_bestSign_4 : decode cX11_bestSign 4 = .ok (.iload_n 1, 1) := by decide +kernel
theorem dX11_bestSign_5 : decode cX11_bestSign 5 = .ok (.invokevirtual 243, 3) := by decide +kernel
theorem dX11_bestSign_8 : decode cX11_bestSign 8 = .ok (.ifCond .ne 5, 3) := by decide +kernel
theorem dX11_bestSign_11 : decode cX11_bestSign 11 = .ok (.iconst (-1), 1) := by decide +kernel
theorem dX11_bestSign_12 : decode cX11_bestSign 12 = .ok (.ireturn, 1) := by decide +kernel
theorem dX11_bestSign_13 : decode cX11_bestSign 13 = .ok (.aload_n 0, 1) := by decide +kernel
theorem dX11_bestSign_14 : decode cX11_bestSign 14 = .ok (.getfield 72, 3) := by decide +kernel
theorem dX11_bestSign_17 : decode cX11_bestSign 17 = .ok (.iload_n 1, 1) := by decide +kernel
theorem dX11_bestSign_18 : decode cX11_bestSign 18 = .ok (.iload_n 2, 1) := by decide +kernel
theorem dX11_bestSign_19 : decode cX11_bestSign 19 = .ok (.invokevirtual 256, 3) := by decide +kernel
theorem dX11_bestSign_22 : decode cX11_bestSign 22 = .ok (.ireturn, 1) := by decide +kernel
abbrev rm_X11_bestSign : Room := { frames := 6, cells := 0, slots := 0, locals := 132 }
def f_X11_bestSign (N : Nat) (x1 : Int32) (x2 : Int32) (σ : St) : Option (Int32 × St) := (if (f_X9_has x1 σ) = 0 then some ((-1), σ) else bd (f_X2_bestSignAt N x1 x2 σ) (fun r2_ σ2 => some (r2_, σ2)))
section
variable {p : Program} {l : Launch} {e : Env} {s : State} {m : MethodId} {args : Array Value} {below : List Frame} {meth : Method} {c : Code} {g : XG}
set_option maxRecDepth 4000 in
theorem m_X11_bestSign (N : Nat) (x1 : Int32) (x2 : Int32) (σ : St) {r : Int32} {σ' : St} (h : f_X11_bestSign N x1 x2 σ = some (r, σ')) : xM l KX g yX11_bestSign cX11_bestSign 3 (some .int) rm_X11_bestSign [.ref (g.q 0), .int x1, .int x2] σ (some (.int r)) σ' := by
  refine xmet pn_X11 rfl (Nat.le_of_ble_eq_true rfl) (lv := [(0, .ref (g.q 0)), (1, .int x1), (2, .int x2)]) rfl (fun p e s m args below meth c ls C hW hl => ?_)
  have hx := C.1
  have hb := C.2.1
  unfold f_X11_bestSign at h
  refine lv_aload_n hx hb dX11_bestSign_0 rfl (lv_at hl 0 rfl) ?_
  refine xg_r C hW fg_11_47 KX_0 rfl dX11_bestSign_1 ?_
  refine lv_iload_n hx hb dX11_bestSign_4 rfl (lv_at hl 1 rfl) ?_
  refine xc_V (As := [.int x1]) (rest := []) C hW (m_X9_has x1 _ rfl) mf_X9_has mv_X9_has ml_X11_243 ⟨rfl, rfl⟩ ⟨Nat.le_of_ble_eq_true rfl, Nat.le_of_ble_eq_true rfl⟩ KX_33 rfl hl.1 rfl rfl (Nat.le_of_ble_eq_true rfl) dX11_bestSign_5 (fun H locs hW => W.eq (g2 := F0 m 8 ls [.int (f_X9_has x1 σ)]) rfl ?_)
  refine lv_if_ne (tgt := 13) hx hb dX11_bestSign_8 (by decide) (fun c1 => ?_) (fun c1 => ?_)
  · have h := xif c1 h
    refine lv_aload_n hx hb dX11_bestSign_13 rfl (lv_at hl 0 rfl) ?_
    refine xg_r C hW fg_11_72 KX_0 rfl dX11_bestSign_14 ?_
    refine lv_iload_n hx hb dX11_bestSign_17 rfl (lv_at hl 1 rfl) ?_
    refine lv_iload_n hx hb dX11_bestSign_18 rfl (lv_at hl 2 rfl) ?_
    obtain ⟨r2_, σ2, e2, h⟩ := xbd h
    refine xc_V (As := [.int x1, .int x2]) (rest := []) C hW (m_X2_bestSignAt N x1 x2 _ e2) mf_X2_bestSignAt mv_X2_bestSignAt ml_X11_256 ⟨rfl, rfl⟩ ⟨Nat.le_of_ble_eq_true rfl, Nat.le_of_ble_eq_true rfl⟩ KX_46 rfl hl.1 rfl rfl (Nat.le_of_ble_eq_true rfl) dX11_bestSign_19 (fun H locs hW => W.eq (g2 := F0 m 22 ls [.int r2_]) rfl ?_)
    cases h
    exact xr_i C hW dX11_bestSign_22
  · have h := xit c1 h
    refine lv_iconst (v := (-1)) hx hb dX11_bestSign_11 rfl ?_
    cases h
    exact xr_i C hW dX11_bestSign_12
end
theorem dX11_write_0 : decode cX11_write 0 = .ok (.aload_n 0, 1) := by decide +kernel
theorem dX11_write_1 : decode cX11_write 1 = .ok (.getfield 10, 3) := by decide +kernel
theorem dX11_write_4 : decode cX11_write 4 = .ok (.invokevirtual 109, 3) := by decide +kernel
theorem dX11_write_7 : decode cX11_write 7 = .ok (.aload_n 0, 1) := by decide +kernel
theorem dX11_write_8 : decode cX11_write 8 = .ok (.getfield 81, 3) := by decide +kernel
theorem dX11_write_11 : decode cX11_write 11 = .ok (.aload_n 0, 1) := by decide +kernel
theorem dX11_write_12 : decode cX11_write 12 = .ok (.getfield 10, 3) := by decide +kernel
theorem dX11_write_15 : decode cX11_write 15 = .ok (.invokevirtual 259, 3) := by decide +kernel
theorem dX11_write_18 : decode cX11_write 18 = .ok (.istore_n 1, 1) := by decide +kernel
theorem dX11_write_19 : decode cX11_write 19 = .ok (.aload_n 0, 1) := by decide +kernel
theorem dX11_write_20 : decode cX11_write 20 = .ok (.getfield 10, 3) := by decide +kernel
theorem dX11_write_23 : decode cX11_write 23 = .ok (.invokevirtual 119, 3) := by decide +kernel
theorem dX11_write_26 : decode cX11_write 26 = .ok (.iload_n 1, 1) := by decide +kernel
theorem dX11_write_27 : decode cX11_write 27 = .ok (.ifCond .le 10, 3) := by decide +kernel
theorem dX11_write_30 : decode cX11_write 30 = .ok (.aload_n 0, 1) := by decide +kernel
theorem dX11_write_31 : decode cX11_write 31 = .ok (.getfield 63, 3) := by decide +kernel
theorem dX11_write_34 : decode cX11_write 34 = .ok (.invokevirtual 129, 3) := by decide +kernel
theorem dX11_write_37 : decode cX11_write 37 = .ok (.iload_n 1, 1) := by decide +kernel
theorem dX11_write_38 : decode cX11_write 38 = .ok (.ireturn, 1) := by decide +kernel
abbrev rm_X11_write : Room := { frames := 4, cells := 0, slots := 0, locals := 104 }
def f_X11_write (N : Nat) (σ : St) : Option (Int32 × St) := bo (f_X8_rewind σ) (fun σ1 => bd (f_X5_take N σ1) (fun r2_ σ2 => bo (f_X8_drain σ2) (fun σ3 => (if r2_ ≤ 0 then some (r2_, σ3) else bo (f_X3_forget σ3) (fun σ5 => some (r2_, σ5))))))
section
variable {p : Program} {l : Launch} {e : Env} {s : State} {m : MethodId} {args : Array Value} {below : List Frame} {meth : Method} {c : Code} {g : XG}
set_option maxRecDepth 4000 in
theorem m_X11_write (N : Nat) (σ : St) {r : Int32} {σ' : St} (h : f_X11_write N σ = some (r, σ')) : xM l KX g yX11_write cX11_write 2 (some .int) rm_X11_write [.ref (g.q 0)] σ (some (.int r)) σ' := by
  refine xmet pn_X11 rfl (Nat.le_of_ble_eq_true rfl) (lv := [(0, .ref (g.q 0))]) rfl (fun p e s m args below meth c ls C hW hl => ?_)
  have hx := C.1
  have hb := C.2.1
  unfold f_X11_write at h
  refine lv_aload_n hx hb dX11_write_0 rfl (lv_at hl 0 rfl) ?_
  refine xg_r C hW fg_11_10 KX_0 rfl dX11_write_1 ?_
  obtain ⟨σ1, e1, h⟩ := xbo h
  refine xc_V (As := []) (rest := []) C hW (m_X8_rewind _ e1) mf_X8_rewind mv_X8_rewind ml_X11_109 ⟨rfl, rfl⟩ ⟨Nat.le_of_ble_eq_true rfl, Nat.le_of_ble_eq_true rfl⟩ KX_19 rfl hl.1 rfl rfl (Nat.le_of_ble_eq_true rfl) dX11_write_4 (fun H locs hW => W.eq (g2 := F0 m 7 ls []) rfl ?_)
  refine lv_aload_n hx hb dX11_write_7 rfl (lv_at hl 0 rfl) ?_
  refine xg_r C hW fg_11_81 KX_0 rfl dX11_write_8 ?_
  refine lv_aload_n hx hb dX11_write_11 rfl (lv_at hl 0 rfl) ?_
  refine xg_r C hW fg_11_10 KX_0 rfl dX11_write_12 ?_
  obtain ⟨r2_, σ2, e2, h⟩ := xbd h
  refine xc_V (As := [.ref (g.q 19)]) (rest := []) C hW (m_X5_take N _ e2) mf_X5_take mv_X5_take ml_X11_259 ⟨rfl, rfl⟩ ⟨Nat.le_of_ble_eq_true rfl, Nat.le_of_ble_eq_true rfl⟩ KX_57 rfl hl.1 rfl rfl (Nat.le_of_ble_eq_true rfl) dX11_write_15 (fun H locs hW => W.eq (g2 := F0 m 18 ls [.int r2_]) rfl ?_)
  refine lv_istore_n (lv' := [(1, .int r2_), (0, .ref (g.q 0))]) hx hb dX11_write_18 rfl hl (Nat.le_of_ble_eq_true rfl) rfl (fun ls hl => ?_)
  refine lv_aload_n hx hb dX11_write_19 rfl (lv_at hl 1 rfl) ?_
  refine xg_r C hW fg_11_10 KX_0 rfl dX11_write_20 ?_
  obtain ⟨σ3, e3, h⟩ := xbo h
  refine xc_V (As := []) (rest := []) C hW (m_X8_drain _ e3) mf_X8_drain mv_X8_drain ml_X11_119 ⟨rfl, rfl⟩ ⟨Nat.le_of_ble_eq_true rfl, Nat.le_of_ble_eq_true rfl⟩ KX_19 rfl hl.1 rfl rfl (Nat.le_of_ble_eq_true rfl) dX11_write_23 (fun H locs hW => W.eq (g2 := F0 m 26 ls []) rfl ?_)
  refine lv_iload_n hx hb dX11_write_26 rfl (lv_at hl 0 rfl) ?_
  refine lv_if_le (tgt := 37) hx hb dX11_write_27 (by decide) (fun c4 => ?_) (fun c4 => ?_)
  · have h := xit c4 h
    refine lv_iload_n hx hb dX11_write_37 rfl (lv_at hl 0 rfl) ?_
    cases h
    exact xr_i C hW dX11_write_38
  · have h := xif c4 h
    refine lv_aload_n hx hb dX11_write_30 rfl (lv_at hl 1 rfl) ?_
    refine xg_r C hW fg_11_63 KX_0 rfl dX11_write_31 ?_
    obtain ⟨σ5, e5, h⟩ := xbo h
    refine xc_V (As := []) (rest := []) C hW (m_X3_forget _ e5) mf_X3_forget mv_X3_forget ml_X11_129 ⟨rfl, rfl⟩ ⟨Nat.le_of_ble_eq_true rfl, Nat.le_of_ble_eq_true rfl⟩ KX_40 rfl hl.1 rfl rfl (Nat.le_of_ble_eq_true rfl) dX11_write_34 (fun H locs hW => W.eq (g2 := F0 m 37 ls []) rfl ?_)
    refine lv_iload_n hx hb dX11_write_37 rfl (lv_at hl 0 rfl) ?_
    cases h
    exact xr_i C hW dX11_write_38
end
theorem dX11_written_0 : decode cX11_written 0 = .ok (.iload_n 1, 1) := by decide +kernel
theorem dX11_written_1 : decode cX11_written 1 = .ok (.ifCond .lt 14, 3) := by decide +kernel
theorem dX11_written_4 : decode cX11_written 4 = .ok (.iload_n 1, 1) := by decide +kernel
theorem dX11_written_5 : decode cX11_written 5 = .ok (.aload_n 0, 1) := by decide +kernel
theorem dX11_written_6 : decode cX11_written 6 = .ok (.getfield 81, 3) := by decide +kernel
theorem dX11_written_9 : decode cX11_written 9 = .ok (.getfield 260, 3) := by decide +kernel
theorem dX11_written_12 : decode cX11_written 12 = .ok (.if_icmp .lt 7, 3) := by decide +kernel
theorem dX11_written_15 : decode cX11_written 15 = .ok (.iconst (-1), 1) := by decide +kernel
theorem dX11_written_16 : decode cX11_written 16 = .ok (.goto 12, 3) := by decide +kernel
theorem dX11_written_19 : decode cX11_written 19 = .ok (.aload_n 0, 1) := by decide +kernel
theorem dX11_written_20 : decode cX11_written 20 = .ok (.getfield 81, 3) := by decide +kernel
theorem dX11_written_23 : decode cX11_written 23 = .ok (.getfield 261, 3) := by decide +kernel
theorem dX11_written_26 : decode cX11_written 26 = .ok (.iload_n 1, 1) := by decide +kernel
theorem dX11_written_27 : decode cX11_written 27 = .ok (.iaload, 1) := by decide +kernel
theorem dX11_written_28 : decode cX11_written 28 = .ok (.ireturn, 1) := by decide +kernel
abbrev rm_X11_written : Room := { frames := 0, cells := 0, slots := 0, locals := 0 }
def f_X11_written (x1 : Int32) (σ : St) : Option Int32 := (if x1 < 0 then some ((-1)) else (if x1 < (σ.1 12404 0) then grd (ib x1 24) (some (σ.1 58 x1.toNatClampNeg)) else some ((-1))))
section
variable {p : Program} {l : Launch} {e : Env} {s : State} {m : MethodId} {args : Array Value} {below : List Frame} {meth : Method} {c : Code} {g : XG}
set_option maxRecDepth 4000 in
theorem m_X11_written (x1 : Int32) (σ : St) {r : Int32} (h : f_X11_written x1 σ = some r) : xM l KX g yX11_written cX11_written 2 (some .int) rm_X11_written [.ref (g.q 0), .int x1] σ (some (.int r)) σ := by
  refine xmet pn_X11 rfl (Nat.le_of_ble_eq_true rfl) (lv := [(0, .ref (g.q 0)), (1, .int x1)]) rfl (fun p e s m args below meth c ls C hW hl => ?_)
  have hx := C.1
  have hb := C.2.1
  unfold f_X11_written at h
  refine lv_iload_n hx hb dX11_written_0 rfl (lv_at hl 1 rfl) ?_
  refine lv_if_lt (tgt := 15) hx hb dX11_written_1 (by decide) (fun c1 => ?_) (fun c1 => ?_)
  · have h := xit c1 h
    refine lv_iconst (v := (-1)) hx hb dX11_written_15 rfl ?_
    refine lv_goto (tgt := 28) hx hb dX11_written_16 (by decide) ?_
    cases h
    exact xr_i C hW dX11_written_28
  · have h := xif c1 h
    refine lv_iload_n hx hb dX11_written_4 rfl (lv_at hl 1 rfl) ?_
    refine lv_aload_n hx hb dX11_written_5 rfl (lv_at hl 0 rfl) ?_
    refine xg_r C hW fg_11_81 KX_0 rfl dX11_written_6 ?_
    refine xg_i C hW fg_11_260 KX_57 rfl (v := 12404) rfl (x := σ.1 12404 0) rfl dX11_written_9 ?_
    refine lv_icmp_lt (tgt := 19) hx hb dX11_written_12 (by decide) (fun c2 => ?_) (fun c2 => ?_)
    · have h := xit c2 h
      refine lv_aload_n hx hb dX11_written_19 rfl (lv_at hl 0 rfl) ?_
      refine xg_r C hW fg_11_81 KX_0 rfl dX11_written_20 ?_
      refine xg_r C hW fg_11_261 KX_57 rfl dX11_written_23 ?_
      refine lv_iload_n hx hb dX11_written_26 rfl (lv_at hl 1 rfl) ?_
      obtain ⟨g3, h⟩ := xgd h
      refine xa_i C hW KX_58 g3 (x := σ.1 58 x1.toNatClampNeg) rfl dX11_written_27 ?_
      cases h
      exact xr_i C hW dX11_written_28
    · have h := xif c2 h
      refine lv_iconst (v := (-1)) hx hb dX11_written_15 rfl ?_
      refine lv_goto (tgt := 28) hx hb dX11_written_16 (by decide) ?_
      cases h
      exact xr_i C hW dX11_written_28
end
theorem dX11_ways_0 : decode cX11_ways 0 = .ok (.aload_n 0, 1) := by decide +kernel
theorem dX11_ways_1 : decode cX11_ways 1 = .ok (.getfield 81, 3) := by decide +kernel
theorem dX11_ways_4 : decode cX11_ways 4 = .ok (.getfield 260, 3) := by decide +kernel
theorem dX11_ways_7 : decode cX11_ways 7 = .ok (.ifCond .ne 6, 3) := by decide +kernel
theorem dX11_ways_10 : decode cX11_ways 10 = .ok (.bipush (-4), 2) := by decide +kernel
theorem dX11_ways_12 : decode cX11_ways 12 = .ok (.ireturn, 1) := by decide +kernel
theorem dX11_ways_13 : decode cX11_ways 13 = .ok (.aload_n 0, 1) := by decide +kernel
theorem dX11_ways_14 : decode cX11_ways 14 = .ok (.getfield 81, 3) := by decide +kernel
theorem dX11_ways_17 : decode cX11_ways 17 = .ok (.aload_n 0, 1) := by decide +kernel
theorem dX11_ways_18 : decode cX11_ways 18 = .ok (.getfield 19, 3) := by decide +kernel
theorem dX11_ways_21 : decode cX11_ways 21 = .ok (.invokevirtual 264, 3) := by decide +kernel
theorem dX11_ways_24 : decode cX11_ways 24 = .ok (.ireturn, 1) := by decide +kernel
abbrev rm_X11_ways : Room := { frames := 6, cells := 0, slots := 0, locals := 144 }
def f_X11_ways (N : Nat) (σ : St) : Option (Int32 × St) := (if (σ.1 12404 0) = 0 then some ((-4), σ) else bd (f_X5_countWays 1 N σ) (fun r2_ σ2 => some (r2_, σ2)))
section
variable {p : Program} {l : Launch} {e : Env} {s : State} {m : MethodId} {args : Array Value} {below : List Frame} {meth : Method} {c : Code} {g : XG}
set_option maxRecDepth 4000 in
theorem m_X11_ways (N : Nat) (σ : St) {r : Int32} {σ' : St} (h : f_X11_ways N σ = some (r, σ')) : xM l KX g yX11_ways cX11_ways 1 (some .int) rm_X11_ways [.ref (g.q 0)] σ (some (.int r)) σ' := by
  refine xmet pn_X11 rfl (Nat.le_of_ble_eq_true rfl) (lv := [(0, .ref (g.q 0))]) rfl (fun p e s m args below meth c ls C hW hl => ?_)
  have hx := C.1
  have hb := C.2.1
  unfold f_X11_ways at h
  refine lv_aload_n hx hb dX11_ways_0 rfl (lv_at hl 0 rfl) ?_
  refine xg_r C hW fg_11_81 KX_0 rfl dX11_ways_1 ?_
  refine xg_i C hW fg_11_260 KX_57 rfl (v := 12404) rfl (x := σ.1 12404 0) rfl dX11_ways_4 ?_
  refine lv_if_ne (tgt := 13) hx hb dX11_ways_7 (by decide) (fun c1 => ?_) (fun c1 => ?_)
  · have h := xif c1 h
    refine lv_aload_n hx hb dX11_ways_13 rfl (lv_at hl 0 rfl) ?_
    refine xg_r C hW fg_11_81 KX_0 rfl dX11_ways_14 ?_
    refine lv_aload_n hx hb dX11_ways_17 rfl (lv_at hl 0 rfl) ?_
    refine xg_r C hW fg_11_19 KX_0 rfl dX11_ways_18 ?_
    obtain ⟨r2_, σ2, e2, h⟩ := xbd h
    refine xc_V (As := [.ref (g.q 1)]) (rest := []) C hW (m_X5_countWays 1 (Or.inl rfl) N _ e2) mf_X5_countWays mv_X5_countWays ml_X11_264 ⟨rfl, rfl⟩ ⟨Nat.le_of_ble_eq_true rfl, Nat.le_of_ble_eq_true rfl⟩ KX_57 rfl hl.1 rfl rfl (Nat.le_of_ble_eq_true rfl) dX11_ways_21 (fun H locs hW => W.eq (g2 := F0 m 24 ls [.int r2_]) rfl ?_)
    cases h
    exact xr_i C hW dX11_ways_24
  · have h := xit c1 h
    refine lv_bipush (v := (-4)) hx hb dX11_ways_10 rfl ?_
    cases h
    exact xr_i C hW dX11_ways_12
end
theorem dX11_isDay_0 : decode cX11_isDay 0 = .ok (.iload_n 0, 1) := by decide +kernel
theorem dX11_isDay_1 : decode cX11_isDay 1 = .ok (.ifCond .lt 14, 3) := by decide +kernel
theorem dX11_isDay_4 : decode cX11_isDay 4 = .ok (.iload_n 0, 1) := by decide +kernel
theorem dX11_isDay_5 : decode cX11_isDay 5 = .ok (.sipush 999, 3) := by decide +kernel
theorem dX11_isDay_8 : decode cX11_isDay 8 = .ok (.if_icmp .gt 7, 3) := by decide +kernel
theorem dX11_isDay_11 : decode cX11_isDay 11 = .ok (.iconst 1, 1) := by decide +kernel
theorem dX11_isDay_12 : decode cX11_isDay 12 = .ok (.goto 4, 3) := by decide +kernel
theorem dX11_isDay_15 : decode cX11_isDay 15 = .ok (.iconst 0, 1) := by decide +kernel
theorem dX11_isDay_16 : decode cX11_isDay 16 = .ok (.ireturn, 1) := by decide +kernel
abbrev rm_X11_isDay : Room := { frames := 0, cells := 0, slots := 0, locals := 0 }
def f_X11_isDay (x0 : Int32) (σ : St) : Int32 := (if x0 < 0 then 0 else (if 999 < x0 then 0 else 1))
section
variable {p : Program} {l : Launch} {e : Env} {s : State} {m : MethodId} {args : Array Value} {below : List Frame} {meth : Method} {c : Code} {g : XG}
set_option maxRecDepth 4000 in
theorem m_X11_isDay (x0 : Int32) (σ : St) {r : Int32} (h : f_X11_isDay x0 σ = r) : xM l KX g yX11_isDay cX11_isDay 1 (some .boolean) rm_X11_isDay [.int x0] σ (some (.int r)) σ := by
  refine xmet pn_X11 rfl (Nat.le_of_ble_eq_true rfl) (lv := [(0, .int x0)]) rfl (fun p e s m args below meth c ls C hW hl => ?_)
  have hx := C.1
  have hb := C.2.1
  unfold f_X11_isDay at h
  refine lv_iload_n hx hb dX11_isDay_0 rfl (lv_at hl 0 rfl) ?_
  refine lv_if_lt (tgt := 15) hx hb dX11_isDay_1 (by decide) (fun c1 => ?_) (fun c1 => ?_)
  · have h := xit c1 h
    refine lv_iconst (v := 0) hx hb dX11_isDay_15 rfl ?_
    cases h
    exact xr_z C hW (by decide) dX11_isDay_16
  · have h := xif c1 h
    refine lv_iload_n hx hb dX11_isDay_4 rfl (lv_at hl 0 rfl) ?_
    refine lv_sipush (v := 999) hx hb dX11_isDay_5 rfl ?_
    refine lv_icmp_gt (tgt := 15) hx hb dX11_isDay_8 (by decide) (fun c2 => ?_) (fun c2 => ?_)
    · have h := xit c2 h
      refine lv_iconst (v := 0) hx hb dX11_isDay_15 rfl ?_
      cases h
      exact xr_z C hW (by decide) dX11_isDay_16
    · have h := xif c2 h
      refine lv_iconst (v := 1) hx hb dX11_isDay_11 rfl ?_
      refine lv_goto (tgt := 16) hx hb dX11_isDay_12 (by decide) ?_
      cases h
      exact xr_z C hW (by decide) dX11_isDay_16
end
theorem dX11_waysOn_0 : decode cX11_waysOn 0 = .ok (.iload_n 1, 1) := by decide +kernel
theorem dX11_waysOn_1 : decode cX11_waysOn 1 = .ok (.invokestatic 268, 3) := by decide +kernel
theorem dX11_waysOn_4 : decode cX11_waysOn 4 = .ok (.ifCond .eq 10, 3) := by decide +kernel
theorem dX11_waysOn_7 : decode cX11_waysOn 7 = .ok (.iload_n 2, 1) := by decide +kernel
theorem dX11_waysOn_8 : decode cX11_waysOn 8 = .ok (.invokestatic 268, 3) := by decide +kernel
theorem dX11_waysOn_11 : decode cX11_waysOn 11 = .ok (.ifCond .ne 6, 3) := by decide +kernel
theorem dX11_waysOn_14 : decode cX11_waysOn 14 = .ok (.bipush (-2), 2) := by decide +kernel
theorem dX11_waysOn_16 : decode cX11_waysOn 16 = .ok (.ireturn, 1) := by decide +kernel
theorem dX11_waysOn_17 : decode cX11_waysOn 17 = .ok (.aload_n 0, 1) := by decide +kernel
theorem dX11_waysOn_18 : decode cX11_waysOn 18 = .ok (.getfield 81, 3) := by decide +kernel
theorem dX11_waysOn_21 : decode cX11_waysOn 21 = .ok (.getfield 260, 3) := by decide +kernel
theorem dX11_waysOn_24 : decode cX11_waysOn 24 = .ok (.ifCond .ne 6, 3) := by decide +kernel
theorem dX11_waysOn_27 : decode cX11_waysOn 27 = .ok (.bipush (-4), 2) := by decide +kernel
theorem dX11_waysOn_29 : decode cX11_waysOn 29 = .ok (.ireturn, 1) := by decide +kernel
theorem dX11_waysOn_30 : decode cX11_waysOn 30 = .ok (.aload_n 0, 1) := by decide +kernel
theorem dX11_waysOn_31 : decode cX11_waysOn 31 = .ok (.getfield 23, 3) := by decide +kernel
theorem dX11_waysOn_34 : decode cX11_waysOn 34 = .ok (.aload_n 0, 1) := by decide +kernel
theorem dX11_waysOn_35 : decode cX11_waysOn 35 = .ok (.getfield 19, 3) := by decide +kernel
theorem dX11_waysOn_38 : decode cX11_waysOn 38 = .ok (.invokevirtual 122, 3) := by decide +kernel
theorem dX11_waysOn_41 : decode cX11_waysOn 41 = .ok (.aload_n 0, 1) := by decide +kernel
theorem dX11_waysOn_42 : decode cX11_waysOn 42 = .ok (.getfield 97, 3) := by decide +kernel
theorem dX11_waysOn_45 : decode cX11_waysOn 45 = .ok (.aload_n 0, 1) := by decide +kernel
theorem dX11_waysOn_46 : decode cX11_waysOn 46 = .ok (.getfield 23, 3) := by decide +kernel
theorem dX11_waysOn_49 : decode cX11_waysOn 49 = .ok (.iload_n 1, 1) := by decide +kernel
theorem dX11_waysOn_50 : decode cX11_waysOn 50 = .ok (.iload_n 2, 1) := by decide +kernel
theorem dX11_waysOn_51 : decode cX11_waysOn 51 = .ok (.invokevirtual 271, 3) := by decide +kernel
theorem dX11_waysOn_54 : decode cX11_waysOn 54 = .ok (.aload_n 0, 1) := by decide +kernel
theorem dX11_waysOn_55 : decode cX11_waysOn 55 = .ok (.getfield 81, 3) := by decide +kernel
theorem dX11_waysOn_58 : decode cX11_waysOn 58 = .ok (.aload_n 0, 1) := by decide +kernel
theorem dX11_waysOn_59 : decode cX11_waysOn 59 = .ok (.getfield 23, 3) := by decide +kernel
theorem dX11_waysOn_62 : decode cX11_waysOn 62 = .ok (.invokevirtual 264, 3) := by decide +kernel
theorem dX11_waysOn_65 : decode cX11_waysOn 65 = .ok (.ireturn, 1) := by decide +kernel
abbrev rm_X11_waysOn : Room := { frames := 6, cells := 0, slots := 0, locals := 144 }
def f_X11_waysOn (N : Nat) (x1 : Int32) (x2 : Int32) (σ : St) : Option (Int32 × St) := (if (f_X11_isDay x1 σ) = 0 then some ((-2), σ) else (if (f_X11_isDay x2 σ) = 0 then some ((-2), σ) else (if (σ.1 12404 0) = 0 then some ((-4), σ) else bo (f_X6_become 2 1 σ) (fun σ4 => bo (f_X10_applyTo 2 N x1 x2 σ4) (fun σ5 => bd (f_X5_countWays 2 N σ5) (fun r6_ σ6 => some (r6_, σ6)))))))
section
variable {p : Program} {l : Launch} {e : Env} {s : State} {m : MethodId} {args : Array Value} {below : List Frame} {meth : Method} {c : Code} {g : XG}
set_option maxRecDepth 4000 in
theorem m_X11_waysOn (N : Nat) (x1 : Int32) (x2 : Int32) (σ : St) {r : Int32} {σ' : St} (h : f_X11_waysOn N x1 x2 σ = some (r, σ')) : xM l KX g yX11_waysOn cX11_waysOn 3 (some .int) rm_X11_waysOn [.ref (g.q 0), .int x1, .int x2] σ (some (.int r)) σ' := by
  refine xmet pn_X11 rfl (Nat.le_of_ble_eq_true rfl) (lv := [(0, .ref (g.q 0)), (1, .int x1), (2, .int x2)]) rfl (fun p e s m args below meth c ls C hW hl => ?_)
  have hx := C.1
  have hb := C.2.1
  unfold f_X11_waysOn at h
  refine lv_iload_n hx hb dX11_waysOn_0 rfl (lv_at hl 1 rfl) ?_
  refine xc_S (As := [.int x1]) (rest := []) C hW (m_X11_isDay x1 _ rfl) mf_X11_isDay mt_X11_isDay ml_X11_268 ⟨rfl, rfl⟩ ⟨Nat.le_of_ble_eq_true rfl, Nat.le_of_ble_eq_true rfl⟩ hl.1 rfl rfl (Nat.le_of_ble_eq_true rfl) dX11_waysOn_1 (fun H locs hW => W.eq (g2 := F0 m 4 ls [.int (f_X11_isDay x1 σ)]) rfl ?_)
  refine lv_if_eq (tgt := 14) hx hb dX11_waysOn_4 (by decide) (fun c1 => ?_) (fun c1 => ?_)
  · have h := xit c1 h
    refine lv_bipush (v := (-2)) hx hb dX11_waysOn_14 rfl ?_
    cases h
    exact xr_i C hW dX11_waysOn_16
  · have h := xif c1 h
    refine lv_iload_n hx hb dX11_waysOn_7 rfl (lv_at hl 2 rfl) ?_
    refine xc_S (As := [.int x2]) (rest := []) C hW (m_X11_isDay x2 _ rfl) mf_X11_isDay mt_X11_isDay ml_X11_268 ⟨rfl, rfl⟩ ⟨Nat.le_of_ble_eq_true rfl, Nat.le_of_ble_eq_true rfl⟩ hl.1 rfl rfl (Nat.le_of_ble_eq_true rfl) dX11_waysOn_8 (fun H locs hW => W.eq (g2 := F0 m 11 ls [.int (f_X11_isDay x2 σ)]) rfl ?_)
    refine lv_if_ne (tgt := 17) hx hb dX11_waysOn_11 (by decide) (fun c2 => ?_) (fun c2 => ?_)
    · have h := xif c2 h
      refine lv_aload_n hx hb dX11_waysOn_17 rfl (lv_at hl 0 rfl) ?_
      refine xg_r C hW fg_11_81 KX_0 rfl dX11_waysOn_18 ?_
      refine xg_i C hW fg_11_260 KX_57 rfl (v := 12404) rfl (x := σ.1 12404 0) rfl dX11_waysOn_21 ?_
      refine lv_if_ne (tgt := 30) hx hb dX11_waysOn_24 (by decide) (fun c3 => ?_) (fun c3 => ?_)
      · have h := xif c3 h
        refine lv_aload_n hx hb dX11_waysOn_30 rfl (lv_at hl 0 rfl) ?_
        refine xg_r C hW fg_11_23 KX_0 rfl dX11_waysOn_31 ?_
        refine lv_aload_n hx hb dX11_waysOn_34 rfl (lv_at hl 0 rfl) ?_
        refine xg_r C hW fg_11_19 KX_0 rfl dX11_waysOn_35 ?_
        obtain ⟨σ4, e4, h⟩ := xbo h
        refine xc_V (As := [.ref (g.q 1)]) (rest := []) C hW (m_X6_become 2 (Or.inr rfl) 1 (Or.inl rfl) _ e4) mf_X6_become mv_X6_become ml_X11_122 ⟨rfl, rfl⟩ ⟨Nat.le_of_ble_eq_true rfl, Nat.le_of_ble_eq_true rfl⟩ (KX_sl (Or.inr rfl)) rfl hl.1 rfl rfl (Nat.le_of_ble_eq_true rfl) dX11_waysOn_38 (fun H locs hW => W.eq (g2 := F0 m 41 ls []) rfl ?_)
        refine lv_aload_n hx hb dX11_waysOn_41 rfl (lv_at hl 0 rfl) ?_
        refine xg_r C hW fg_11_97 KX_0 rfl dX11_waysOn_42 ?_
        refine lv_aload_n hx hb dX11_waysOn_45 rfl (lv_at hl 0 rfl) ?_
        refine xg_r C hW fg_11_23 KX_0 rfl dX11_waysOn_46 ?_
        refine lv_iload_n hx hb dX11_waysOn_49 rfl (lv_at hl 1 rfl) ?_
        refine lv_iload_n hx hb dX11_waysOn_50 rfl (lv_at hl 2 rfl) ?_
        obtain ⟨σ5, e5, h⟩ := xbo h
        refine xc_V (As := [.ref (g.q 2), .int x1, .int x2]) (rest := []) C hW (m_X10_applyTo 2 (Or.inr rfl) N x1 x2 _ e5) mf_X10_applyTo mv_X10_applyTo ml_X11_271 ⟨rfl, rfl⟩ ⟨Nat.le_of_ble_eq_true rfl, Nat.le_of_ble_eq_true rfl⟩ KX_73 rfl hl.1 rfl rfl (Nat.le_of_ble_eq_true rfl) dX11_waysOn_51 (fun H locs hW => W.eq (g2 := F0 m 54 ls []) rfl ?_)
        refine lv_aload_n hx hb dX11_waysOn_54 rfl (lv_at hl 0 rfl) ?_
        refine xg_r C hW fg_11_81 KX_0 rfl dX11_waysOn_55 ?_
        refine lv_aload_n hx hb dX11_waysOn_58 rfl (lv_at hl 0 rfl) ?_
        refine xg_r C hW fg_11_23 KX_0 rfl dX11_waysOn_59 ?_
        obtain ⟨r6_, σ6, e6, h⟩ := xbd h
        refine xc_V (As := [.ref (g.q 2)]) (rest := []) C hW (m_X5_countWays 2 (Or.inr rfl) N _ e6) mf_X5_countWays mv_X5_countWays ml_X11_264 ⟨rfl, rfl⟩ ⟨Nat.le_of_ble_eq_true rfl, Nat.le_of_ble_eq_true rfl⟩ KX_57 rfl hl.1 rfl rfl (Nat.le_of_ble_eq_true rfl) dX11_waysOn_62 (fun H locs hW => W.eq (g2 := F0 m 65 ls [.int r6_]) rfl ?_)
        cases h
        exact xr_i C hW dX11_waysOn_65
      · have h := xit c3 h
        refine lv_bipush (v := (-4)) hx hb dX11_waysOn_27 rfl ?_
        cases h
        exact xr_i C hW dX11_waysOn_29
    · have h := xit c2 h
      refine lv_bipush (v := (-2)) hx hb dX11_waysOn_14 rfl ?_
      cases h
      exact xr_i C hW dX11_waysOn_16
end
theorem dX11_read_0 : decode cX11_read 0 = .ok (.aload_n 0, 1) := by decide +kernel
theorem dX11_read_1 : decode cX11_read 1 = .ok (.getfield 81, 3) := by decide +kernel
theorem dX11_read_4 : decode cX11_read 4 = .ok (.getfield 260, 3) := by decide +kernel
theorem dX11_read_7 : decode cX11_read 7 = .ok (.ifCond .ne 6, 3) := by decide +kernel
theorem dX11_read_10 : decode cX11_read 10 = .ok (.bipush (-4), 2) := by decide +kernel
theorem dX11_read_12 : decode cX11_read 12 = .ok (.ireturn, 1) := by decide +kernel
theorem dX11_read_13 : decode cX11_read 13 = .ok (.aload_n 0, 1) := by decide +kernel
theorem dX11_read_14 : decode cX11_read 14 = .ok (.getfield 81, 3) := by decide +kernel
theorem dX11_read_17 : decode cX11_read 17 = .ok (.invokevirtual 275, 3) := by decide +kernel
theorem dX11_read_20 : decode cX11_read 20 = .ok (.ireturn, 1) := by decide +kernel
abbrev rm_X11_read : Room := { frames := 7, cells := 0, slots := 0, locals := 161 }
def f_X11_read (N : Nat) (σ : St) : Option (Int32 × St) := (if (σ.1 12404 0) = 0 then some ((-4), σ) else bd (f_X5_findFirstWay N σ) (fun r2_ σ2 => some (r2_, σ2)))
section
variable {p : Program} {l : Launch} {e : Env} {s : State} {m : MethodId} {args : Array Value} {below : List Frame} {meth : Method} {c : Code} {g : XG}
set_option maxRecDepth 4000 in
theorem m_X11_read (N : Nat) (σ : St) {r : Int32} {σ' : St} (h : f_X11_read N σ = some (r, σ')) : xM l KX g yX11_read cX11_read 1 (some .int) rm_X11_read [.ref (g.q 0)] σ (some (.int r)) σ' := by
  refine xmet pn_X11 rfl (Nat.le_of_ble_eq_true rfl) (lv := [(0, .ref (g.q 0))]) rfl (fun p e s m args below meth c ls C hW hl => ?_)
  have hx := C.1
  have hb := C.2.1
  unfold f_X11_read at h
  refine lv_aload_n hx hb dX11_read_0 rfl (lv_at hl 0 rfl) ?_
  refine xg_r C hW fg_11_81 KX_0 rfl dX11_read_1 ?_
  refine xg_i C hW fg_11_260 KX_57 rfl (v := 12404) rfl (x := σ.1 12404 0) rfl dX11_read_4 ?_
  refine lv_if_ne (tgt := 13) hx hb dX11_read_7 (by decide) (fun c1 => ?_) (fun c1 => ?_)
  · have h := xif c1 h
    refine lv_aload_n hx hb dX11_read_13 rfl (lv_at hl 0 rfl) ?_
    refine xg_r C hW fg_11_81 KX_0 rfl dX11_read_14 ?_
    obtain ⟨r2_, σ2, e2, h⟩ := xbd h
    refine xc_V (As := []) (rest := []) C hW (m_X5_findFirstWay N _ e2) mf_X5_findFirstWay mv_X5_findFirstWay ml_X11_275 ⟨rfl, rfl⟩ ⟨Nat.le_of_ble_eq_true rfl, Nat.le_of_ble_eq_true rfl⟩ KX_57 rfl hl.1 rfl rfl (Nat.le_of_ble_eq_true rfl) dX11_read_17 (fun H locs hW => W.eq (g2 := F0 m 20 ls [.int r2_]) rfl ?_)
    cases h
    exact xr_i C hW dX11_read_20
  · have h := xit c1 h
    refine lv_bipush (v := (-4)) hx hb dX11_read_10 rfl ?_
    cases h
    exact xr_i C hW dX11_read_12
end
theorem dX11_readTerm_0 : decode cX11_readTerm 0 = .ok (.iload_n 1, 1) := by decide +kernel
theorem dX11_readTerm_1 : decode cX11_readTerm 1 = .ok (.ifCond .lt 14, 3) := by decide +kernel
theorem dX11_readTerm_4 : decode cX11_readTerm 4 = .ok (.iload_n 1, 1) := by decide +kernel
theorem dX11_readTerm_5 : decode cX11_readTerm 5 = .ok (.aload_n 0, 1) := by decide +kernel
theorem dX11_readTerm_6 : decode cX11_readTerm 6 = .ok (.getfield 81, 3) := by decide +kernel
theorem dX11_readTerm_9 : decode cX11_readTerm 9 = .ok (.getfield 279, 3) := by decide +kernel
theorem dX11_readTerm_12 : decode cX11_readTerm 12 = .ok (.if_icmp .lt 5, 3) := by decide +kernel
theorem dX11_readTerm_15 : decode cX11_readTerm 15 = .ok (.iconst (-1), 1) := by decide +kernel
theorem dX11_readTerm_16 : decode cX11_readTerm 16 = .ok (.ireturn, 1) := by decide +kernel
theorem dX11_readTerm_17 : decode cX11_readTerm 17 = .ok (.iload_n 2, 1) := by decide +kernel
theorem dX11_readTerm_18 : decode cX11_readTerm 18 = .ok (.ifCond .ne 13, 3) := by decide +kernel
theorem dX11_readTerm_21 : decode cX11_readTerm 21 = .ok (.aload_n 0, 1) := by decide +kernel
theorem dX11_readTerm_22 : decode cX11_readTerm 22 = .ok (.getfield 81, 3) := by decide +kernel
theorem dX11_readTerm_25 : decode cX11_readTerm 25 = .ok (.getfield 282, 3) := by decide +kernel
theorem dX11_readTerm_28 : decode cX11_readTerm 28 = .ok (.iload_n 1, 1) := by decide +kernel
theorem dX11_readTerm_29 : decode cX11_readTerm 29 = .ok (.iaload, 1) := by decide +kernel
theorem dX11_readTerm_30 : decode cX11_readTerm 30 = .ok (.ireturn, 1) := by decide +kernel
theorem dX11_readTerm_31 : decode cX11_readTerm 31 = .ok (.iload_n 2, 1) := by decide +kernel
theorem dX11_readTerm_32 : decode cX11_readTerm 32 = .ok (.iconst 1, 1) := by decide +kernel
theorem dX11_readTerm_33 : decode cX11_readTerm 33 = .ok (.if_icmp .ne 15, 3) := by decide +kernel
theorem dX11_readTerm_36 : decode cX11_readTerm 36 = .ok (.aload_n 0, 1) := by decide +kernel
theorem dX11_readTerm_37 : decode cX11_readTerm 37 = .ok (.getfield 81, 3) := by decide +kernel
theorem dX11_readTerm_40 : decode cX11_readTerm 40 = .ok (.getfield 285, 3) := by decide +kernel
theorem dX11_readTerm_43 : decode cX11_readTerm 43 = .ok (.iload_n 1, 1) := by decide +kernel
theorem dX11_readTerm_44 : decode cX11_readTerm 44 = .ok (.iaload, 1) := by decide +kernel
theorem dX11_readTerm_45 : decode cX11_readTerm 45 = .ok (.goto 4, 3) := by decide +kernel
theorem dX11_readTerm_48 : decode cX11_readTerm 48 = .ok (.iconst (-1), 1) := by decide +kernel
theorem dX11_readTerm_49 : decode cX11_readTerm 49 = .ok (.ireturn, 1) := by decide +kernel
abbrev rm_X11_readTerm : Room := { frames := 0, cells := 0, slots := 0, locals := 0 }
def f_X11_readTerm (x1 : Int32) (x2 : Int32) (σ : St) : Option Int32 := (if x1 < 0 then some ((-1)) else (if x1 < (σ.1 12411 0) then (if x2 = 0 then grd (ib x1 24) (some (σ.1 65 x1.toNatClampNeg)) else (if x2 = 1 then grd (ib x1 24) (some (σ.1 66 x1.toNatClampNeg)) else some ((-1)))) else some ((-1))))
section
variable {p : Program} {l : Launch} {e : Env} {s : State} {m : MethodId} {args : Array Value} {below : List Frame} {meth : Method} {c : Code} {g : XG}
set_option maxRecDepth 4000 in
theorem m_X11_readTerm (x1 : Int32) (x2 : Int32) (σ : St) {r : Int32} (h : f_X11_readTerm x1 x2 σ = some r) : xM l KX g yX11_readTerm cX11_readTerm 3 (some .int) rm_X11_readTerm [.ref (g.q 0), .int x1, .int x2] σ (some (.int r)) σ := by
  refine xmet pn_X11 rfl (Nat.le_of_ble_eq_true rfl) (lv := [(0, .ref (g.q 0)), (1, .int x1), (2, .int x2)]) rfl (fun p e s m args below meth c ls C hW hl => ?_)
  have hx := C.1
  have hb := C.2.1
  unfold f_X11_readTerm at h
  refine lv_iload_n hx hb dX11_readTerm_0 rfl (lv_at hl 1 rfl) ?_
  refine lv_if_lt (tgt := 15) hx hb dX11_readTerm_1 (by decide) (fun c1 => ?_) (fun c1 => ?_)
  · have h := xit c1 h
    refine lv_iconst (v := (-1)) hx hb dX11_readTerm_15 rfl ?_
    cases h
    exact xr_i C hW dX11_readTerm_16
  · have h := xif c1 h
    refine lv_iload_n hx hb dX11_readTerm_4 rfl (lv_at hl 1 rfl) ?_
    refine lv_aload_n hx hb dX11_readTerm_5 rfl (lv_at hl 0 rfl) ?_
    refine xg_r C hW fg_11_81 KX_0 rfl dX11_readTerm_6 ?_
    refine xg_i C hW fg_11_279 KX_57 rfl (v := 12411) rfl (x := σ.1 12411 0) rfl dX11_readTerm_9 ?_
    refine lv_icmp_lt (tgt := 17) hx hb dX11_readTerm_12 (by decide) (fun c2 => ?_) (fun c2 => ?_)
    · have h := xit c2 h
      refine lv_iload_n hx hb dX11_readTerm_17 rfl (lv_at hl 2 rfl) ?_
      refine lv_if_ne (tgt := 31) hx hb dX11_readTerm_18 (by decide) (fun c3 => ?_) (fun c3 => ?_)
      · have h := xif c3 h
        refine lv_iload_n hx hb dX11_readTerm_31 rfl (lv_at hl 2 rfl) ?_
        refine lv_iconst (v := 1) hx hb dX11_readTerm_32 rfl ?_
        refine lv_icmp_ne (tgt := 48) hx hb dX11_readTerm_33 (by decide) (fun c4 => ?_) (fun c4 => ?_)
        · have h := xif c4 h
          refine lv_iconst (v := (-1)) hx hb dX11_readTerm_48 rfl ?_
          cases h
          exact xr_i C hW dX11_readTerm_49
        · have h := xit c4 h
          refine lv_aload_n hx hb dX11_readTerm_36 rfl (lv_at hl 0 rfl) ?_
          refine xg_r C hW fg_11_81 KX_0 rfl dX11_readTerm_37 ?_
          refine xg_r C hW fg_11_285 KX_57 rfl dX11_readTerm_40 ?_
          refine lv_iload_n hx hb dX11_readTerm_43 rfl (lv_at hl 1 rfl) ?_
          obtain ⟨g5, h⟩ := xgd h
          refine xa_i C hW KX_66 g5 (x := σ.1 66 x1.toNatClampNeg) rfl dX11_readTerm_44 ?_
          refine lv_goto (tgt := 49) hx hb dX11_readTerm_45 (by decide) ?_
          cases h
          exact xr_i C hW dX11_readTerm_49
      · have h := xit c3 h
        refine lv_aload_n hx hb dX11_readTerm_21 rfl (lv_at hl 0 rfl) ?_
        refine xg_r C hW fg_11_81 KX_0 rfl dX11_readTerm_22 ?_
        refine xg_r C hW fg_11_282 KX_57 rfl dX11_readTerm_25 ?_
        refine lv_iload_n hx hb dX11_readTerm_28 rfl (lv_at hl 1 rfl) ?_
        obtain ⟨g6, h⟩ := xgd h
        refine xa_i C hW KX_65 g6 (x := σ.1 65 x1.toNatClampNeg) rfl dX11_readTerm_29 ?_
        cases h
        exact xr_i C hW dX11_readTerm_30
    · have h := xif c2 h
      refine lv_iconst (v := (-1)) hx hb dX11_readTerm_15 rfl ?_
      cases h
      exact xr_i C hW dX11_readTerm_16
end
theorem dX11_spells_0 : decode cX11_spells 0 = .ok (.aload_n 0, 1) := by decide +kernel
theorem dX11_spells_1 : decode cX11_spells 1 = .ok (.getfield 47, 3) := by decide +kernel
theorem dX11_spells_4 : decode cX11_spells 4 = .ok (.iload_n 1, 1) := by decide +kernel
theorem dX11_spells_5 : decode cX11_spells 5 = .ok (.invokevirtual 243, 3) := by decide +kernel
theorem dX11_spells_8 : decode cX11_spells 8 = .ok (.ifCond .ne 6, 3) := by decide +kernel
theorem dX11_spells_11 : decode cX11_spells 11 = .ok (.bipush (-2), 2) := by decide +kernel
theorem dX11_spells_13 : decode cX11_spells 13 = .ok (.ireturn, 1) := by decide +kernel
theorem dX11_spells_14 : decode cX11_spells 14 = .ok (.aload_n 0, 1) := by decide +kernel
theorem dX11_spells_15 : decode cX11_spells 15 = .ok (.getfield 81, 3) := by decide +kernel
theorem dX11_spells_18 : decode cX11_spells 18 = .ok (.getfield 260, 3) := by decide +kernel
theorem dX11_spells_21 : decode cX11_spells 21 = .ok (.ifCond .ne 6, 3) := by decide +kernel
theorem dX11_spells_24 : decode cX11_spells 24 = .ok (.bipush (-4), 2) := by decide +kernel
theorem dX11_spells_26 : decode cX11_spells 26 = .ok (.ireturn, 1) := by decide +kernel
theorem dX11_spells_27 : decode cX11_spells 27 = .ok (.aload_n 0, 1) := by decide +kernel
theorem dX11_spells_28 : decode cX11_spells 28 = .ok (.getfield 81, 3) := by decide +kernel
theorem dX11_spells_31 : decode cX11_spells 31 = .ok (.iload_n 1, 1) := by decide +kernel
theorem dX11_spells_32 : decode cX11_spells 32 = .ok (.invokevirtual 288, 3) := by decide +kernel
theorem dX11_spells_35 : decode cX11_spells 35 = .ok (.ifCond .eq 7, 3) := by decide +kernel
theorem dX11_spells_38 : decode cX11_spells 38 = .ok (.iconst 1, 1) := by decide +kernel
theorem dX11_spells_39 : decode cX11_spells 39 = .ok (.goto 4, 3) := by decide +kernel
theorem dX11_spells_42 : decode cX11_spells 42 = .ok (.iconst 0, 1) := by decide +kernel
theorem dX11_spells_43 : decode cX11_spells 43 = .ok (.ireturn, 1) := by decide +kernel
abbrev rm_X11_spells : Room := { frames := 6, cells := 0, slots := 0, locals := 140 }
def f_X11_spells (N : Nat) (x1 : Int32) (σ : St) : Option (Int32 × St) := (if (f_X9_has x1 σ) = 0 then some ((-2), σ) else (if (σ.1 12404 0) = 0 then some ((-4), σ) else bd (f_X5_isSpellingOf N x1 σ) (fun r3_ σ3 => (if r3_ = 0 then some (0, σ3) else some (1, σ3)))))
section
variable {p : Program} {l : Launch} {e : Env} {s : State} {m : MethodId} {args : Array Value} {below : List Frame} {meth : Method} {c : Code} {g : XG}
set_option maxRecDepth 4000 in
theorem m_X11_spells (N : Nat) (x1 : Int32) (σ : St) {r : Int32} {σ' : St} (h : f_X11_spells N x1 σ = some (r, σ')) : xM l KX g yX11_spells cX11_spells 2 (some .int) rm_X11_spells [.ref (g.q 0), .int x1] σ (some (.int r)) σ' := by
  refine xmet pn_X11 rfl (Nat.le_of_ble_eq_true rfl) (lv := [(0, .ref (g.q 0)), (1, .int x1)]) rfl (fun p e s m args below meth c ls C hW hl => ?_)
  have hx := C.1
  have hb := C.2.1
  unfold f_X11_spells at h
  refine lv_aload_n hx hb dX11_spells_0 rfl (lv_at hl 0 rfl) ?_
  refine xg_r C hW fg_11_47 KX_0 rfl dX11_spells_1 ?_
  refine lv_iload_n hx hb dX11_spells_4 rfl (lv_at hl 1 rfl) ?_
  refine xc_V (As := [.int x1]) (rest := []) C hW (m_X9_has x1 _ rfl) mf_X9_has mv_X9_has ml_X11_243 ⟨rfl, rfl⟩ ⟨Nat.le_of_ble_eq_true rfl, Nat.le_of_ble_eq_true rfl⟩ KX_33 rfl hl.1 rfl rfl (Nat.le_of_ble_eq_true rfl) dX11_spells_5 (fun H locs hW => W.eq (g2 := F0 m 8 ls [.int (f_X9_has x1 σ)]) rfl ?_)
  refine lv_if_ne (tgt := 14) hx hb dX11_spells_8 (by decide) (fun c1 => ?_) (fun c1 => ?_)
  · have h := xif c1 h
    refine lv_aload_n hx hb dX11_spells_14 rfl (lv_at hl 0 rfl) ?_
    refine xg_r C hW fg_11_81 KX_0 rfl dX11_spells_15 ?_
    refine xg_i C hW fg_11_260 KX_57 rfl (v := 12404) rfl (x := σ.1 12404 0) rfl dX11_spells_18 ?_
    refine lv_if_ne (tgt := 27) hx hb dX11_spells_21 (by decide) (fun c2 => ?_) (fun c2 => ?_)
    · have h := xif c2 h
      refine lv_aload_n hx hb dX11_spells_27 rfl (lv_at hl 0 rfl) ?_
      refine xg_r C hW fg_11_81 KX_0 rfl dX11_spells_28 ?_
      refine lv_iload_n hx hb dX11_spells_31 rfl (lv_at hl 1 rfl) ?_
      obtain ⟨r3_, σ3, e3, h⟩ := xbd h
      refine xc_V (As := [.int x1]) (rest := []) C hW (m_X5_isSpellingOf N x1 _ e3) mf_X5_isSpellingOf mv_X5_isSpellingOf ml_X11_288 ⟨rfl, rfl⟩ ⟨Nat.le_of_ble_eq_true rfl, Nat.le_of_ble_eq_true rfl⟩ KX_57 rfl hl.1 rfl rfl (Nat.le_of_ble_eq_true rfl) dX11_spells_32 (fun H locs hW => W.eq (g2 := F0 m 35 ls [.int r3_]) rfl ?_)
      refine lv_if_eq (tgt := 42) hx hb dX11_spells_35 (by decide) (fun c4 => ?_) (fun c4 => ?_)
      · have h := xit c4 h
        refine lv_iconst (v := 0) hx hb dX11_spells_42 rfl ?_
        cases h
        exact xr_i C hW dX11_spells_43
      · have h := xif c4 h
        refine lv_iconst (v := 1) hx hb dX11_spells_38 rfl ?_
        refine lv_goto (tgt := 43) hx hb dX11_spells_39 (by decide) ?_
        cases h
        exact xr_i C hW dX11_spells_43
    · have h := xit c2 h
      refine lv_bipush (v := (-4)) hx hb dX11_spells_24 rfl ?_
      cases h
      exact xr_i C hW dX11_spells_26
  · have h := xit c1 h
    refine lv_bipush (v := (-2)) hx hb dX11_spells_11 rfl ?_
    cases h
    exact xr_i C hW dX11_spells_13
end
theorem dX11_group_0 : decode cX11_group 0 = .ok (.aload_n 0, 1) := by decide +kernel
theorem dX11_group_1 : decode cX11_group 1 = .ok (.getfield 81, 3) := by decide +kernel
theorem dX11_group_4 : decode cX11_group 4 = .ok (.getfield 260, 3) := by decide +kernel
theorem dX11_group_7 : decode cX11_group 7 = .ok (.ifCond .ne 6, 3) := by decide +kernel
theorem dX11_group_10 : decode cX11_group 10 = .ok (.bipush (-4), 2) := by decide +kernel
theorem dX11_group_12 : decode cX11_group 12 = .ok (.ireturn, 1) := by decide +kernel
theorem dX11_group_13 : decode cX11_group 13 = .ok (.aload_n 0, 1) := by decide +kernel
theorem dX11_group_14 : decode cX11_group 14 = .ok (.getfield 63, 3) := by decide +kernel
theorem dX11_group_17 : decode cX11_group 17 = .ok (.aload_n 0, 1) := by decide +kernel
theorem dX11_group_18 : decode cX11_group 18 = .ok (.getfield 81, 3) := by decide +kernel
theorem dX11_group_21 : decode cX11_group 21 = .ok (.getfield 261, 3) := by decide +kernel
theorem dX11_group_24 : decode cX11_group 24 = .ok (.aload_n 0, 1) := by decide +kernel
theorem dX11_group_25 : decode cX11_group 25 = .ok (.getfield 81, 3) := by decide +kernel
theorem dX11_group_28 : decode cX11_group 28 = .ok (.getfield 260, 3) := by decide +kernel
theorem dX11_group_31 : decode cX11_group 31 = .ok (.invokevirtual 291, 3) := by decide +kernel
theorem dX11_group_34 : decode cX11_group 34 = .ok (.ireturn, 1) := by decide +kernel
abbrev rm_X11_group : Room := { frames := 4, cells := 0, slots := 0, locals := 144 }
def f_X11_group (N : Nat) (σ : St) : Option (Int32 × St) := (if (σ.1 12404 0) = 0 then some ((-4), σ) else bd (f_X3_arrange 58 24 N (σ.1 12404 0) σ) (fun r2_ σ2 => some (r2_, σ2)))
section
variable {p : Program} {l : Launch} {e : Env} {s : State} {m : MethodId} {args : Array Value} {below : List Frame} {meth : Method} {c : Code} {g : XG}
set_option maxRecDepth 4000 in
theorem m_X11_group (N : Nat) (σ : St) {r : Int32} {σ' : St} (h : f_X11_group N σ = some (r, σ')) : xM l KX g yX11_group cX11_group 1 (some .int) rm_X11_group [.ref (g.q 0)] σ (some (.int r)) σ' := by
  refine xmet pn_X11 rfl (Nat.le_of_ble_eq_true rfl) (lv := [(0, .ref (g.q 0))]) rfl (fun p e s m args below meth c ls C hW hl => ?_)
  have hx := C.1
  have hb := C.2.1
  unfold f_X11_group at h
  refine lv_aload_n hx hb dX11_group_0 rfl (lv_at hl 0 rfl) ?_
  refine xg_r C hW fg_11_81 KX_0 rfl dX11_group_1 ?_
  refine xg_i C hW fg_11_260 KX_57 rfl (v := 12404) rfl (x := σ.1 12404 0) rfl dX11_group_4 ?_
  refine lv_if_ne (tgt := 13) hx hb dX11_group_7 (by decide) (fun c1 => ?_) (fun c1 => ?_)
  · have h := xif c1 h
    refine lv_aload_n hx hb dX11_group_13 rfl (lv_at hl 0 rfl) ?_
    refine xg_r C hW fg_11_63 KX_0 rfl dX11_group_14 ?_
    refine lv_aload_n hx hb dX11_group_17 rfl (lv_at hl 0 rfl) ?_
    refine xg_r C hW fg_11_81 KX_0 rfl dX11_group_18 ?_
    refine xg_r C hW fg_11_261 KX_57 rfl dX11_group_21 ?_
    refine lv_aload_n hx hb dX11_group_24 rfl (lv_at hl 0 rfl) ?_
    refine xg_r C hW fg_11_81 KX_0 rfl dX11_group_25 ?_
    refine xg_i C hW fg_11_260 KX_57 rfl (v := 12404) rfl (x := σ.1 12404 0) rfl dX11_group_28 ?_
    obtain ⟨r2_, σ2, e2, h⟩ := xbd h
    refine xc_V (As := [.ref (g.q 58), .int (σ.1 12404 0)]) (rest := []) C hW (m_X3_arrange 58 24 KX_58 N (σ.1 12404 0) _ e2) mf_X3_arrange mv_X3_arrange ml_X11_291 ⟨rfl, rfl⟩ ⟨Nat.le_of_ble_eq_true rfl, Nat.le_of_ble_eq_true rfl⟩ KX_40 rfl hl.1 rfl rfl (Nat.le_of_ble_eq_true rfl) dX11_group_31 (fun H locs hW => W.eq (g2 := F0 m 34 ls [.int r2_]) rfl ?_)
    cases h
    exact xr_i C hW dX11_group_34
  · have h := xit c1 h
    refine lv_bipush (v := (-4)) hx hb dX11_group_10 rfl ?_
    cases h
    exact xr_i C hW dX11_group_12
end
