theorem dX2_tryCovers_0 : decode cX2_tryCovers 0 = .ok (.aload_n 0, 1) := by decide +kernel
theorem dX2_tryCovers_1 : decode cX2_tryCovers 1 = .ok (.getfield 51, 3) := by decide +kernel
theorem dX2_tryCovers_4 : decode cX2_tryCovers 4 = .ok (.iload_n 1, 1) := by decide +kernel
theorem dX2_tryCovers_5 : decode cX2_tryCovers 5 = .ok (.iload_n 2, 1) := by decide +kernel
theorem dX2_tryCovers_6 : decode cX2_tryCovers 6 = .ok (.invokevirtual 165, 3) := by decide +kernel
theorem dX2_tryCovers_9 : decode cX2_tryCovers 9 = .ok (.ifCond .eq 8, 3) := by decide +kernel
theorem dX2_tryCovers_12 : decode cX2_tryCovers 12 = .ok (.aload_n 0, 1) := by decide +kernel
theorem dX2_tryCovers_13 : decode cX2_tryCovers 13 = .ok (.iload_n 3, 1) := by decide +kernel
theorem dX2_tryCovers_14 : decode cX2_tryCovers 14 = .ok (.invokevirtual 159, 3) := by decide +kernel
theorem dX2_tryCovers_17 : decode cX2_tryCovers 17 = .ok (.iconst 0, 1) := by decide +kernel
theorem dX2_tryCovers_18 : decode cX2_tryCovers 18 = .ok (.istore 4, 2) := by decide +kernel
theorem dX2_tryCovers_20 : decode cX2_tryCovers 20 = .ok (.iload 4, 2) := by decide +kernel
theorem dX2_tryCovers_22 : decode cX2_tryCovers 22 = .ok (.aload_n 0, 1) := by decide +kernel
theorem dX2_tryCovers_23 : decode cX2_tryCovers 23 = .ok (.getfield 47, 3) := by decide +kernel
theorem dX2_tryCovers_26 : decode cX2_tryCovers 26 = .ok (.getfield 101, 3) := by decide +kernel
theorem dX2_tryCovers_29 : decode cX2_tryCovers 29 = .ok (.if_icmp .ge 82, 3) := by decide +kernel
theorem dX2_tryCovers_32 : decode cX2_tryCovers 32 = .ok (.iload_n 3, 1) := by decide +kernel
theorem dX2_tryCovers_33 : decode cX2_tryCovers 33 = .ok (.bipush 12, 2) := by decide +kernel
theorem dX2_tryCovers_35 : decode cX2_tryCovers 35 = .ok (.if_icmp .ge 76, 3) := by decide +kernel
theorem dX2_tryCovers_38 : decode cX2_tryCovers 38 = .ok (.aload_n 0, 1) := by decide +kernel
theorem dX2_tryCovers_39 : decode cX2_tryCovers 39 = .ok (.getfield 51, 3) := by decide +kernel
theorem dX2_tryCovers_42 : decode cX2_tryCovers 42 = .ok (.iload_n 1, 1) := by decide +kernel
theorem dX2_tryCovers_43 : decode cX2_tryCovers 43 = .ok (.iload_n 2, 1) := by decide +kernel
theorem dX2_tryCovers_44 : decode cX2_tryCovers 44 = .ok (.iload 4, 2) := by decide +kernel
theorem dX2_tryCovers_46 : decode cX2_tryCovers 46 = .ok (.invokevirtual 168, 3) := by decide +kernel
theorem dX2_tryCovers_49 : decode cX2_tryCovers 49 = .ok (.istore 5, 2) := by decide +kernel
theorem dX2_tryCovers_51 : decode cX2_tryCovers 51 = .ok (.iload_n 2, 1) := by decide +kernel
theorem dX2_tryCovers_52 : decode cX2_tryCovers 52 = .ok (.aload_n 0, 1) := by decide +kernel
theorem dX2_tryCovers_53 : decode cX2_tryCovers 53 = .ok (.getfield 47, 3) := by decide +kernel
theorem dX2_tryCovers_56 : decode cX2_tryCovers 56 = .ok (.getfield 127, 3) := by decide +kernel
theorem dX2_tryCovers_59 : decode cX2_tryCovers 59 = .ok (.iload 4, 2) := by decide +kernel
theorem dX2_tryCovers_61 : decode cX2_tryCovers 61 = .ok (.iaload, 1) := by decide +kernel
theorem dX2_tryCovers_62 : decode cX2_tryCovers 62 = .ok (.iadd, 1) := by decide +kernel
theorem dX2_tryCovers_63 : decode cX2_tryCovers 63 = .ok (.istore 6, 2) := by decide +kernel
theorem dX2_tryCovers_65 : decode cX2_tryCovers 65 = .ok (.iload 5, 2) := by decide +kernel
theorem dX2_tryCovers_67 : decode cX2_tryCovers 67 = .ok (.ifCond .eq 38, 3) := by decide +kernel
theorem dX2_tryCovers_70 : decode cX2_tryCovers 70 = .ok (.aload_n 0, 1) := by decide +kernel
theorem dX2_tryCovers_71 : decode cX2_tryCovers 71 = .ok (.getfield 51, 3) := by decide +kernel
theorem dX2_tryCovers_74 : decode cX2_tryCovers 74 = .ok (.iload 5, 2) := by decide +kernel
theorem dX2_tryCovers_76 : decode cX2_tryCovers 76 = .ok (.iload 6, 2) := by decide +kernel
theorem dX2_tryCovers_78 : decode cX2_tryCovers 78 = .ok (.iload_n 3, 1) := by decide +kernel
theorem dX2_tryCovers_79 : decode cX2_tryCovers 79 = .ok (.iconst 1, 1) := by decide +kernel
theorem dX2_tryCovers_80 : decode cX2_tryCovers 80 = .ok (.iadd, 1) := by decide +kernel
theorem dX2_tryCovers_81 : decode cX2_tryCovers 81 = .ok (.invokevirtual 172, 3) := by decide +kernel
theorem dX2_tryCovers_84 : decode cX2_tryCovers 84 = .ok (.ifCond .le 21, 3) := by decide +kernel
theorem dX2_tryCovers_87 : decode cX2_tryCovers 87 = .ok (.aload_n 0, 1) := by decide +kernel
theorem dX2_tryCovers_88 : decode cX2_tryCovers 88 = .ok (.iload_n 3, 1) := by decide +kernel
theorem dX2_tryCovers_89 : decode cX2_tryCovers 89 = .ok (.iload 4, 2) := by decide +kernel
theorem dX2_tryCovers_91 : decode cX2_tryCovers 91 = .ok (.invokevirtual 155, 3) := by decide +kernel
theorem dX2_tryCovers_94 : decode cX2_tryCovers 94 = .ok (.aload_n 0, 1) := by decide +kernel
theorem dX2_tryCovers_95 : decode cX2_tryCovers 95 = .ok (.iload 5, 2) := by decide +kernel
theorem dX2_tryCovers_97 : decode cX2_tryCovers 97 = .ok (.iload 6, 2) := by decide +kernel
theorem dX2_tryCovers_99 : decode cX2_tryCovers 99 = .ok (.iload_n 3, 1) := by decide +kernel
theorem dX2_tryCovers_100 : decode cX2_tryCovers 100 = .ok (.iconst 1, 1) := by decide +kernel
theorem dX2_tryCovers_101 : decode cX2_tryCovers 101 = .ok (.iadd, 1) := by decide +kernel
theorem dX2_tryCovers_102 : decode cX2_tryCovers 102 = .ok (.invokevirtual 152, 3) := by decide +kernel
theorem dX2_tryCovers_105 : decode cX2_tryCovers 105 = .ok (.iinc 4 1, 3) := by decide +kernel
theorem dX2_tryCovers_108 : decode cX2_tryCovers 108 = .ok (.goto (-88), 3) := by decide +kernel
theorem dX2_tryCovers_111 : decode cX2_tryCovers 111 = .ok (.return_, 1) := by decide +kernel
abbrev rd_X2_tryCovers : Nat → Room := rmd 24 1295 1 26
theorem rd_X2_tryCovers_ok (d : Nat) : (rd_X2_tryCovers d).cells = 0 ∧ (rd_X2_tryCovers d).slots = 0 ∧ 24 ≤ (rd_X2_tryCovers d).frames ∧ 1295 ≤ (rd_X2_tryCovers d).locals := rmd_ok _ _ _ _ d
def f_X2_tryCovers_20 (N : Nat) (hd : Int32 → Int32 → Int32 → St → Option St) : Nat → Int32 → Int32 → Int32 → Int32 → St → Option St
  | 0, _, _, _, _, _ => none
  | n + 1, x1, x2, x3, x4, σ => (if (σ.1 1200 0) ≤ x4 then some σ else (if 12 ≤ x3 then some σ else bo (f_X7_step N x1 x2 x4 σ) (fun r5_ => grd (ib x4 40) ((if r5_ = 0 then f_X2_tryCovers_20 N hd n x1 x2 x3 (x4 + 1) σ else bd (f_X7_coversBehind N 20 r5_ (x2 + (σ.1 7 x4.toNatClampNeg)) (x3 + 1) σ) (fun r8_ σ8 => (if r8_ ≤ 0 then f_X2_tryCovers_20 N hd n x1 x2 x3 (x4 + 1) σ8 else bo (f_X2_putTrial N x3 x4 σ8) (fun σ10 => bo (hd r5_ (x2 + (σ.1 7 x4.toNatClampNeg)) (x3 + 1) σ10) (fun σ11 => f_X2_tryCovers_20 N hd n x1 x2 x3 (x4 + 1) σ11)))))))))
def f_X2_tryCovers_b (N : Nat) (hd : Int32 → Int32 → Int32 → St → Option St) (x1 : Int32) (x2 : Int32) (x3 : Int32) (σ : St) : Option St := (if (f_X7_isCover x1 x2 σ) = 0 then f_X2_tryCovers_20 N hd N x1 x2 x3 0 σ else bo (f_X2_tryBody N x3 σ) (fun σ2 => f_X2_tryCovers_20 N hd N x1 x2 x3 0 σ2))
def f_X2_tryCovers (N : Nat) : Nat → Int32 → Int32 → Int32 → St → Option St
  | 0, _, _, _, _ => none
  | d + 1, x1, x2, x3, σ => f_X2_tryCovers_b N (f_X2_tryCovers N d) x1 x2 x3 σ
section
variable {p : Program} {l : Launch} {e : Env} {s : State} {m : MethodId} {args : Array Value} {below : List Frame} {meth : Method} {c : Code} {g : XG}
set_option maxRecDepth 4000 in
theorem w_X2_tryCovers_20 (N : Nat) (hd : Int32 → Int32 → Int32 → St → Option St) (rmH : Room) (hrm : rmH.cells = 0 ∧ rmH.slots = 0 ∧ 24 ≤ rmH.frames ∧ 1295 ≤ rmH.locals) (hH : ∀ (a0 : Int32) (a1 : Int32) (a2 : Int32) (σ : St) {σ' : St}, hd a0 a1 a2 σ = some σ' → xM l KX g yX2_tryCovers cX2_tryCovers 7 none rmH [.ref (g.q 46), .int a0, .int a1, .int a2] σ none σ') {σ' : St} (C : xC KX g RX2 cX2_tryCovers 7 none p s m args meth c) : ∀ (n : Nat), ∀ (x1 : Int32) (x2 : Int32) (x3 : Int32) (x4 : Int32) (σ : St) (H : Heap) (locs : List Loc) (ls : Array Slot), xW KX g s σ H locs → lv_has ls 7 [(0, .ref (g.q 46)), (1, .int x1), (2, .int x2), (3, .int x3), (4, .int x4)] → f_X2_tryCovers_20 N hd n x1 x2 x3 x4 σ = some σ' → W p l e (xrm rmH 1 26) s m args below meth c H locs 0 0 (MQ below (xPost KX g none σ') args s 0 0 (xA KX g.q)) (F0 m 20 ls []) := by
  have hx := C.1
  have hb := C.2.1
  intro n
  induction n with
  | zero => intro x1 x2 x3 x4 σ H locs ls hW hl h; rw [f_X2_tryCovers_20] at h; cases h
  | succ n ih =>
    intro x1 x2 x3 x4 σ H locs ls hW hl h
    rw [f_X2_tryCovers_20] at h
    refine lv_iload hx hb dX2_tryCovers_20 (lv_at hl 4 rfl) ?_
    refine lv_aload_n hx hb dX2_tryCovers_22 rfl (lv_at hl 0 rfl) ?_
    refine xg_r C hW fg_2_47 KX_46 rfl dX2_tryCovers_23 ?_
    refine xg_i C hW fg_2_101 KX_1 rfl (v := 1200) rfl (x := σ.1 1200 0) rfl dX2_tryCovers_26 ?_
    refine lv_icmp_ge (tgt := 111) hx hb dX2_tryCovers_29 (by decide) (fun c3 => ?_) (fun c3 => ?_)
    · have h := xit c3 h
      cases h
      exact xr_v C hW dX2_tryCovers_111
    · have h := xif c3 h
      refine lv_iload_n hx hb dX2_tryCovers_32 rfl (lv_at hl 3 rfl) ?_
      refine lv_bipush (v := 12) hx hb dX2_tryCovers_33 rfl ?_
      refine lv_icmp_ge (tgt := 111) hx hb dX2_tryCovers_35 (by decide) (fun c4 => ?_) (fun c4 => ?_)
      · have h := xit c4 h
        cases h
        exact xr_v C hW dX2_tryCovers_111
      · have h := xif c4 h
        refine lv_aload_n hx hb dX2_tryCovers_38 rfl (lv_at hl 0 rfl) ?_
        refine xg_r C hW fg_2_51 KX_46 rfl dX2_tryCovers_39 ?_
        refine lv_iload_n hx hb dX2_tryCovers_42 rfl (lv_at hl 1 rfl) ?_
        refine lv_iload_n hx hb dX2_tryCovers_43 rfl (lv_at hl 2 rfl) ?_
        refine lv_iload hx hb dX2_tryCovers_44 (lv_at hl 4 rfl) ?_
        obtain ⟨r5_, e5, h⟩ := xbo h
        refine xc_V (As := [.int x1, .int x2, .int x4]) (rest := []) C hW (m_X7_step N x1 x2 x4 _ e5) mf_X7_step mv_X7_step ml_X2_168 ⟨rfl, rfl⟩ ⟨xle1 hrm.2.2.1 (Nat.le_of_ble_eq_true rfl), xle1 hrm.2.2.2 (Nat.le_of_ble_eq_true rfl)⟩ KX_38 rfl hl.1 rfl rfl (Nat.le_of_ble_eq_true rfl) dX2_tryCovers_46 (fun H locs hW => W.eq (g2 := F0 m 49 ls [.int r5_]) rfl ?_)
        refine lv_istore (lv' := [(5, .int r5_), (0, .ref (g.q 46)), (1, .int x1), (2, .int x2), (3, .int x3), (4, .int x4)]) hx hb dX2_tryCovers_49 hl (Nat.le_of_ble_eq_true rfl) rfl (fun ls hl => ?_)
        refine lv_iload_n hx hb dX2_tryCovers_51 rfl (lv_at hl 3 rfl) ?_
        refine lv_aload_n hx hb dX2_tryCovers_52 rfl (lv_at hl 1 rfl) ?_
        refine xg_r C hW fg_2_47 KX_46 rfl dX2_tryCovers_53 ?_
        refine xg_r C hW fg_2_127 KX_1 rfl dX2_tryCovers_56 ?_
        refine lv_iload hx hb dX2_tryCovers_59 (lv_at hl 5 rfl) ?_
        obtain ⟨g6, h⟩ := xgd h
        refine xa_i C hW KX_7 g6 (x := σ.1 7 x4.toNatClampNeg) rfl dX2_tryCovers_61 ?_
        refine lv_iadd hx hb dX2_tryCovers_62 ?_
        refine lv_istore (lv' := [(6, .int (x2 + (σ.1 7 x4.toNatClampNeg))), (5, .int r5_), (0, .ref (g.q 46)), (1, .int x1), (2, .int x2), (3, .int x3), (4, .int x4)]) hx hb dX2_tryCovers_63 hl (Nat.le_of_ble_eq_true rfl) rfl (fun ls hl => ?_)
        refine lv_iload hx hb dX2_tryCovers_65 (lv_at hl 1 rfl) ?_
        refine lv_if_eq (tgt := 105) hx hb dX2_tryCovers_67 (by decide) (fun c7 => ?_) (fun c7 => ?_)
        · have h := xit c7 h
          refine lv_iinc (v := x4 + 1) (lv' := [(4, .int (x4 + 1)), (6, .int (x2 + (σ.1 7 x4.toNatClampNeg))), (5, .int r5_), (0, .ref (g.q 46)), (1, .int x1), (2, .int x2), (3, .int x3)]) hx hb dX2_tryCovers_105 hl (k := 6) rfl rfl (Nat.le_of_ble_eq_true rfl) rfl (fun ls hl => ?_)
          refine lv_goto (tgt := 20) hx hb dX2_tryCovers_108 (by decide) ?_
          exact ih x1 x2 x3 (x4 + 1) _ _ _ _ hW (lv_sub hl [3, 4, 5, 6, 0] rfl) h
        · have h := xif c7 h
          refine lv_aload_n hx hb dX2_tryCovers_70 rfl (lv_at hl 2 rfl) ?_
          refine xg_r C hW fg_2_51 KX_46 rfl dX2_tryCovers_71 ?_
          refine lv_iload hx hb dX2_tryCovers_74 (lv_at hl 1 rfl) ?_
          refine lv_iload hx hb dX2_tryCovers_76 (lv_at hl 0 rfl) ?_
          refine lv_iload_n hx hb dX2_tryCovers_78 rfl (lv_at hl 5 rfl) ?_
          refine lv_iconst (v := 1) hx hb dX2_tryCovers_79 rfl ?_
          refine lv_iadd hx hb dX2_tryCovers_80 ?_
          obtain ⟨r8_, σ8, e8, h⟩ := xbd h
          refine xc_VN (As := [.int r5_, .int (x2 + (σ.1 7 x4.toNatClampNeg)), .int (x3 + 1)]) (rest := []) C hW (m_X7_coversBehind N 20 r5_ (x2 + (σ.1 7 x4.toNatClampNeg)) (x3 + 1) _ e8) mf_X7_coversBehind mv_X7_coversBehind xn_X2_172 ⟨rfl, rfl⟩ ⟨xle1 hrm.2.2.1 (Nat.le_of_ble_eq_true rfl), xle1 hrm.2.2.2 (Nat.le_of_ble_eq_true rfl)⟩ KX_38 rfl hl.1 rfl rfl (Nat.le_of_ble_eq_true rfl) dX2_tryCovers_81 (fun H locs hW => W.eq (g2 := F0 m 84 ls [.int r8_]) rfl ?_)
          refine lv_if_le (tgt := 105) hx hb dX2_tryCovers_84 (by decide) (fun c9 => ?_) (fun c9 => ?_)
          · have h := xit c9 h
            refine lv_iinc (v := x4 + 1) (lv' := [(4, .int (x4 + 1)), (6, .int (x2 + (σ.1 7 x4.toNatClampNeg))), (5, .int r5_), (0, .ref (g.q 46)), (1, .int x1), (2, .int x2), (3, .int x3)]) hx hb dX2_tryCovers_105 hl (k := 6) rfl rfl (Nat.le_of_ble_eq_true rfl) rfl (fun ls hl => ?_)
            refine lv_goto (tgt := 20) hx hb dX2_tryCovers_108 (by decide) ?_
            exact ih x1 x2 x3 (x4 + 1) _ _ _ _ hW (lv_sub hl [3, 4, 5, 6, 0] rfl) h
          · have h := xif c9 h
            refine lv_aload_n hx hb dX2_tryCovers_87 rfl (lv_at hl 2 rfl) ?_
            refine lv_iload_n hx hb dX2_tryCovers_88 rfl (lv_at hl 5 rfl) ?_
            refine lv_iload hx hb dX2_tryCovers_89 (lv_at hl 6 rfl) ?_
            obtain ⟨σ10, e10, h⟩ := xbo h
            refine xc_V (As := [.int x3, .int x4]) (rest := []) C hW (m_X2_putTrial N x3 x4 _ e10) mf_X2_putTrial mv_X2_putTrial ml_X2_155 ⟨rfl, rfl⟩ ⟨xle1 hrm.2.2.1 (Nat.le_of_ble_eq_true rfl), xle1 hrm.2.2.2 (Nat.le_of_ble_eq_true rfl)⟩ KX_46 rfl hl.1 rfl rfl (Nat.le_of_ble_eq_true rfl) dX2_tryCovers_91 (fun H locs hW => W.eq (g2 := F0 m 94 ls []) rfl ?_)
            refine lv_aload_n hx hb dX2_tryCovers_94 rfl (lv_at hl 2 rfl) ?_
            refine lv_iload hx hb dX2_tryCovers_95 (lv_at hl 1 rfl) ?_
            refine lv_iload hx hb dX2_tryCovers_97 (lv_at hl 0 rfl) ?_
            refine lv_iload_n hx hb dX2_tryCovers_99 rfl (lv_at hl 5 rfl) ?_
            refine lv_iconst (v := 1) hx hb dX2_tryCovers_100 rfl ?_
            refine lv_iadd hx hb dX2_tryCovers_101 ?_
            obtain ⟨σ11, e11, h⟩ := xbo h
            refine xc_V (As := [.int r5_, .int (x2 + (σ.1 7 x4.toNatClampNeg)), .int (x3 + 1)]) (rest := []) C hW (hH r5_ (x2 + (σ.1 7 x4.toNatClampNeg)) (x3 + 1) _ e11) mf_X2_tryCovers mv_X2_tryCovers ml_X2_152 ⟨hrm.1, hrm.2.1⟩ ⟨by simp only [xrm]; omega, by simp only [xrm]; omega⟩ KX_46 rfl hl.1 rfl rfl (Nat.le_of_ble_eq_true rfl) dX2_tryCovers_102 (fun H locs hW => W.eq (g2 := F0 m 105 ls []) rfl ?_)
            refine lv_iinc (v := x4 + 1) (lv' := [(4, .int (x4 + 1)), (6, .int (x2 + (σ.1 7 x4.toNatClampNeg))), (5, .int r5_), (0, .ref (g.q 46)), (1, .int x1), (2, .int x2), (3, .int x3)]) hx hb dX2_tryCovers_105 hl (k := 6) rfl rfl (Nat.le_of_ble_eq_true rfl) rfl (fun ls hl => ?_)
            refine lv_goto (tgt := 20) hx hb dX2_tryCovers_108 (by decide) ?_
            exact ih x1 x2 x3 (x4 + 1) _ _ _ _ hW (lv_sub hl [3, 4, 5, 6, 0] rfl) h
set_option maxRecDepth 4000 in
theorem m_X2_tryCovers_b (N : Nat) (hd : Int32 → Int32 → Int32 → St → Option St) (rmH : Room) (hrm : rmH.cells = 0 ∧ rmH.slots = 0 ∧ 24 ≤ rmH.frames ∧ 1295 ≤ rmH.locals) (hH : ∀ (a0 : Int32) (a1 : Int32) (a2 : Int32) (σ : St) {σ' : St}, hd a0 a1 a2 σ = some σ' → xM l KX g yX2_tryCovers cX2_tryCovers 7 none rmH [.ref (g.q 46), .int a0, .int a1, .int a2] σ none σ') (x1 : Int32) (x2 : Int32) (x3 : Int32) (σ : St) {σ' : St} (h : f_X2_tryCovers_b N hd x1 x2 x3 σ = some σ') : xM l KX g yX2_tryCovers cX2_tryCovers 7 none (xrm rmH 1 26) [.ref (g.q 46), .int x1, .int x2, .int x3] σ none σ' := by
  refine xmet pn_X2 rfl (Nat.le_of_ble_eq_true rfl) (lv := [(0, .ref (g.q 46)), (1, .int x1), (2, .int x2), (3, .int x3)]) rfl (fun p e s m args below meth c ls C hW hl => ?_)
  have hx := C.1
  have hb := C.2.1
  unfold f_X2_tryCovers_b at h
  refine lv_aload_n hx hb dX2_tryCovers_0 rfl (lv_at hl 0 rfl) ?_
  refine xg_r C hW fg_2_51 KX_46 rfl dX2_tryCovers_1 ?_
  refine lv_iload_n hx hb dX2_tryCovers_4 rfl (lv_at hl 1 rfl) ?_
  refine lv_iload_n hx hb dX2_tryCovers_5 rfl (lv_at hl 2 rfl) ?_
  refine xc_V (As := [.int x1, .int x2]) (rest := []) C hW (m_X7_isCover x1 x2 _ rfl) mf_X7_isCover mv_X7_isCover ml_X2_165 ⟨rfl, rfl⟩ ⟨xle1 hrm.2.2.1 (Nat.le_of_ble_eq_true rfl), xle1 hrm.2.2.2 (Nat.le_of_ble_eq_true rfl)⟩ KX_38 rfl hl.1 rfl rfl (Nat.le_of_ble_eq_true rfl) dX2_tryCovers_6 (fun H locs hW => W.eq (g2 := F0 m 9 ls [.int (f_X7_isCover x1 x2 σ)]) rfl ?_)
  refine lv_if_eq (tgt := 17) hx hb dX2_tryCovers_9 (by decide) (fun c1 => ?_) (fun c1 => ?_)
  · have h := xit c1 h
    refine lv_iconst (v := 0) hx hb dX2_tryCovers_17 rfl ?_
    refine lv_istore (lv' := [(4, .int 0), (0, .ref (g.q 46)), (1, .int x1), (2, .int x2), (3, .int x3)]) hx hb dX2_tryCovers_18 hl (Nat.le_of_ble_eq_true rfl) rfl (fun ls hl => ?_)
    exact w_X2_tryCovers_20 N hd rmH hrm hH C N x1 x2 x3 0 _ _ _ _ hW (lv_sub hl [1, 2, 3, 4, 0] rfl) h
  · have h := xif c1 h
    refine lv_aload_n hx hb dX2_tryCovers_12 rfl (lv_at hl 0 rfl) ?_
    refine lv_iload_n hx hb dX2_tryCovers_13 rfl (lv_at hl 3 rfl) ?_
    obtain ⟨σ2, e2, h⟩ := xbo h
    refine xc_V (As := [.int x3]) (rest := []) C hW (m_X2_tryBody N x3 _ e2) mf_X2_tryBody mv_X2_tryBody ml_X2_159 ⟨rfl, rfl⟩ ⟨xle1 hrm.2.2.1 (Nat.le_of_ble_eq_true rfl), xle1 hrm.2.2.2 (Nat.le_of_ble_eq_true rfl)⟩ KX_46 rfl hl.1 rfl rfl (Nat.le_of_ble_eq_true rfl) dX2_tryCovers_14 (fun H locs hW => W.eq (g2 := F0 m 17 ls []) rfl ?_)
    refine lv_iconst (v := 0) hx hb dX2_tryCovers_17 rfl ?_
    refine lv_istore (lv' := [(4, .int 0), (0, .ref (g.q 46)), (1, .int x1), (2, .int x2), (3, .int x3)]) hx hb dX2_tryCovers_18 hl (Nat.le_of_ble_eq_true rfl) rfl (fun ls hl => ?_)
    exact w_X2_tryCovers_20 N hd rmH hrm hH C N x1 x2 x3 0 _ _ _ _ hW (lv_sub hl [1, 2, 3, 4, 0] rfl) h
theorem m_X2_tryCovers (N : Nat) (d : Nat) (x1 : Int32) (x2 : Int32) (x3 : Int32) (σ : St) {σ' : St} (h : f_X2_tryCovers N d x1 x2 x3 σ = some σ') : xM l KX g yX2_tryCovers cX2_tryCovers 7 none (rd_X2_tryCovers d) [.ref (g.q 46), .int x1, .int x2, .int x3] σ none σ' := by
  induction d generalizing x1 x2 x3 σ σ' with
  | zero => rw [f_X2_tryCovers] at h; cases h
  | succ d ih =>
    rw [f_X2_tryCovers] at h
    exact m_X2_tryCovers_b N (f_X2_tryCovers N d) (rd_X2_tryCovers d) (rd_X2_tryCovers_ok d) (fun x1 x2 x3 σ _ => ih x1 x2 x3 σ) x1 x2 x3 σ h
end
theorem dX2_tryIdeas_0 : decode cX2_tryIdeas 0 = .ok (.iconst 0, 1) := by decide +kernel
theorem dX2_tryIdeas_1 : decode cX2_tryIdeas 1 = .ok (.istore_n 1, 1) := by decide +kernel
theorem dX2_tryIdeas_2 : decode cX2_tryIdeas 2 = .ok (.iload_n 1, 1) := by decide +kernel
theorem dX2_tryIdeas_3 : decode cX2_tryIdeas 3 = .ok (.aload_n 0, 1) := by decide +kernel
theorem dX2_tryIdeas_4 : decode cX2_tryIdeas 4 = .ok (.getfield 47, 3) := by decide +kernel
theorem dX2_tryIdeas_7 : decode cX2_tryIdeas 7 = .ok (.getfield 101, 3) := by decide +kernel
theorem dX2_tryIdeas_10 : decode cX2_tryIdeas 10 = .ok (.if_icmp .ge 75, 3) := by decide +kernel
theorem dX2_tryIdeas_13 : decode cX2_tryIdeas 13 = .ok (.aload_n 0, 1) := by decide +kernel
theorem dX2_tryIdeas_14 : decode cX2_tryIdeas 14 = .ok (.getfield 51, 3) := by decide +kernel
theorem dX2_tryIdeas_17 : decode cX2_tryIdeas 17 = .ok (.iload_n 1, 1) := by decide +kernel
theorem dX2_tryIdeas_18 : decode cX2_tryIdeas 18 = .ok (.invokevirtual 102, 3) := by decide +kernel
theorem dX2_tryIdeas_21 : decode cX2_tryIdeas 21 = .ok (.ifCond .ne 6, 3) := by decide +kernel
theorem dX2_tryIdeas_24 : decode cX2_tryIdeas 24 = .ok (.goto 55, 3) := by decide +kernel
theorem dX2_tryIdeas_27 : decode cX2_tryIdeas 27 = .ok (.aload_n 0, 1) := by decide +kernel
theorem dX2_tryIdeas_28 : decode cX2_tryIdeas 28 = .ok (.iconst 0, 1) := by decide +kernel
theorem dX2_tryIdeas_29 : decode cX2_tryIdeas 29 = .ok (.iload_n 1, 1) := by decide +kernel
theorem dX2_tryIdeas_30 : decode cX2_tryIdeas 30 = .ok (.invokevirtual 155, 3) := by decide +kernel
theorem dX2_tryIdeas_33 : decode cX2_tryIdeas 33 = .ok (.aload_n 0, 1) := by decide +kernel
theorem dX2_tryIdeas_34 : decode cX2_tryIdeas 34 = .ok (.iconst 1, 1) := by decide +kernel
theorem dX2_tryIdeas_35 : decode cX2_tryIdeas 35 = .ok (.invokevirtual 159, 3) := by decide +kernel
theorem dX2_tryIdeas_38 : decode cX2_tryIdeas 38 = .ok (.iconst 0, 1) := by decide +kernel
theorem dX2_tryIdeas_39 : decode cX2_tryIdeas 39 = .ok (.istore_n 2, 1) := by decide +kernel
theorem dX2_tryIdeas_40 : decode cX2_tryIdeas 40 = .ok (.iload_n 2, 1) := by decide +kernel
theorem dX2_tryIdeas_41 : decode cX2_tryIdeas 41 = .ok (.aload_n 0, 1) := by decide +kernel
theorem dX2_tryIdeas_42 : decode cX2_tryIdeas 42 = .ok (.getfield 47, 3) := by decide +kernel
theorem dX2_tryIdeas_45 : decode cX2_tryIdeas 45 = .ok (.getfield 101, 3) := by decide +kernel
theorem dX2_tryIdeas_48 : decode cX2_tryIdeas 48 = .ok (.if_icmp .ge 31, 3) := by decide +kernel
theorem dX2_tryIdeas_51 : decode cX2_tryIdeas 51 = .ok (.aload_n 0, 1) := by decide +kernel
theorem dX2_tryIdeas_52 : decode cX2_tryIdeas 52 = .ok (.getfield 51, 3) := by decide +kernel
theorem dX2_tryIdeas_55 : decode cX2_tryIdeas 55 = .ok (.iload_n 2, 1) := by decide +kernel
theorem dX2_tryIdeas_56 : decode cX2_tryIdeas 56 = .ok (.invokevirtual 162, 3) := by decide +kernel
theorem dX2_tryIdeas_59 : decode cX2_tryIdeas 59 = .ok (.ifCond .eq 14, 3) := by decide +kernel
theorem dX2_tryIdeas_62 : decode cX2_tryIdeas 62 = .ok (.aload_n 0, 1) := by decide +kernel
theorem dX2_tryIdeas_63 : decode cX2_tryIdeas 63 = .ok (.iconst 1, 1) := by decide +kernel
theorem dX2_tryIdeas_64 : decode cX2_tryIdeas 64 = .ok (.iload_n 2, 1) := by decide +kernel
theorem dX2_tryIdeas_65 : decode cX2_tryIdeas 65 = .ok (.invokevirtual 155, 3) := by decide +kernel
theorem dX2_tryIdeas_68 : decode cX2_tryIdeas 68 = .ok (.aload_n 0, 1) := by decide +kernel
theorem dX2_tryIdeas_69 : decode cX2_tryIdeas 69 = .ok (.iconst 2, 1) := by decide +kernel
theorem dX2_tryIdeas_70 : decode cX2_tryIdeas 70 = .ok (.invokevirtual 159, 3) := by decide +kernel
theorem dX2_tryIdeas_73 : decode cX2_tryIdeas 73 = .ok (.iinc 2 1, 3) := by decide +kernel
theorem dX2_tryIdeas_76 : decode cX2_tryIdeas 76 = .ok (.goto (-36), 3) := by decide +kernel
theorem dX2_tryIdeas_79 : decode cX2_tryIdeas 79 = .ok (.iinc 1 1, 3) := by decide +kernel
theorem dX2_tryIdeas_82 : decode cX2_tryIdeas 82 = .ok (.goto (-80), 3) := by decide +kernel
theorem dX2_tryIdeas_85 : decode cX2_tryIdeas 85 = .ok (.return_, 1) := by decide +kernel
abbrev rm_X2_tryIdeas : Room := { frames := 4, cells := 0, slots := 0, locals := 140 }
def f_X2_tryIdeas_40 (N : Nat) (k2 : Int32 → St → Option St) : Nat → Int32 → Int32 → St → Option St
  | 0, _, _, _ => none
  | n + 1, x1, x2, σ => (if (σ.1 1200 0) ≤ x2 then k2 (x1 + 1) σ else bo (f_X7_isTail x2 σ) (fun r7_ => (if r7_ = 0 then f_X2_tryIdeas_40 N k2 n x1 (x2 + 1) σ else bo (f_X2_putTrial N 1 x2 σ) (fun σ9 => bo (f_X2_tryBody N 2 σ9) (fun σ10 => f_X2_tryIdeas_40 N k2 n x1 (x2 + 1) σ10)))))
def f_X2_tryIdeas_2 (N : Nat) : Nat → Int32 → St → Option St
  | 0, _, _ => none
  | n + 1, x1, σ => (if (σ.1 1200 0) ≤ x1 then some σ else bo (f_X7_isIdea x1 σ) (fun r2_ => (if r2_ = 0 then f_X2_tryIdeas_2 N n (x1 + 1) σ else bo (f_X2_putTrial N 0 x1 σ) (fun σ4 => bo (f_X2_tryBody N 1 σ4) (fun σ5 => f_X2_tryIdeas_40 N (f_X2_tryIdeas_2 N n) N x1 0 σ5)))))
def f_X2_tryIdeas (N : Nat) (σ : St) : Option St := f_X2_tryIdeas_2 N N 0 σ
section
variable {p : Program} {l : Launch} {e : Env} {s : State} {m : MethodId} {args : Array Value} {below : List Frame} {meth : Method} {c : Code} {g : XG}
set_option maxRecDepth 4000 in
theorem w_X2_tryIdeas_40 (N : Nat) (k2 : Int32 → St → Option St) {σ' : St} (C : xC KX g RX2 cX2_tryIdeas 3 none p s m args meth c) (hk2 : ∀ (x1 : Int32) (σ : St) (H : Heap) (locs : List Loc) (ls : Array Slot), xW KX g s σ H locs → lv_has ls 3 [(0, .ref (g.q 46)), (1, .int x1)] → k2 x1 σ = some σ' → W p l e rm_X2_tryIdeas s m args below meth c H locs 0 0 (MQ below (xPost KX g none σ') args s 0 0 (xA KX g.q)) (F0 m 2 ls [])) : ∀ (n : Nat), ∀ (x1 : Int32) (x2 : Int32) (σ : St) (H : Heap) (locs : List Loc) (ls : Array Slot), xW KX g s σ H locs → lv_has ls 3 [(0, .ref (g.q 46)), (1, .int x1), (2, .int x2)] → f_X2_tryIdeas_40 N k2 n x1 x2 σ = some σ' → W p l e rm_X2_tryIdeas s m args below meth c H locs 0 0 (MQ below (xPost KX g none σ') args s 0 0 (xA KX g.q)) (F0 m 40 ls []) := by
  have hx := C.1
  have hb := C.2.1
  intro n
  induction n with
  | zero => intro x1 x2 σ H locs ls hW hl h; rw [f_X2_tryIdeas_40] at h; cases h
  | succ n ih =>
    intro x1 x2 σ H locs ls hW hl h
    rw [f_X2_tryIdeas_40] at h
    refine lv_iload_n hx hb dX2_tryIdeas_40 rfl (lv_at hl 2 rfl) ?_
    refine lv_aload_n hx hb dX2_tryIdeas_41 rfl (lv_at hl 0 rfl) ?_
    refine xg_r C hW fg_2_47 KX_46 rfl dX2_tryIdeas_42 ?_
    refine xg_i C hW fg_2_101 KX_1 rfl (v := 1200) rfl (x := σ.1 1200 0) rfl dX2_tryIdeas_45 ?_
    refine lv_icmp_ge (tgt := 79) hx hb dX2_tryIdeas_48 (by decide) (fun c6 => ?_) (fun c6 => ?_)
    · have h := xit c6 h
      refine lv_iinc (v := x1 + 1) (lv' := [(1, .int (x1 + 1)), (0, .ref (g.q 46)), (2, .int x2)]) hx hb dX2_tryIdeas_79 hl (k := 1) rfl rfl (Nat.le_of_ble_eq_true rfl) rfl (fun ls hl => ?_)
      refine lv_goto (tgt := 2) hx hb dX2_tryIdeas_82 (by decide) ?_
      exact hk2 (x1 + 1) _ _ _ _ hW (lv_sub hl [1, 0] rfl) h
    · have h := xif c6 h
      refine lv_aload_n hx hb dX2_tryIdeas_51 rfl (lv_at hl 0 rfl) ?_
      refine xg_r C hW fg_2_51 KX_46 rfl dX2_tryIdeas_52 ?_
      refine lv_iload_n hx hb dX2_tryIdeas_55 rfl (lv_at hl 2 rfl) ?_
      obtain ⟨r7_, e7, h⟩ := xbo h
      refine xc_V (As := [.int x2]) (rest := []) C hW (m_X7_isTail x2 _ e7) mf_X7_isTail mv_X7_isTail ml_X2_162 ⟨rfl, rfl⟩ ⟨Nat.le_of_ble_eq_true rfl, Nat.le_of_ble_eq_true rfl⟩ KX_38 rfl hl.1 rfl rfl (Nat.le_of_ble_eq_true rfl) dX2_tryIdeas_56 (fun H locs hW => W.eq (g2 := F0 m 59 ls [.int r7_]) rfl ?_)
      refine lv_if_eq (tgt := 73) hx hb dX2_tryIdeas_59 (by decide) (fun c8 => ?_) (fun c8 => ?_)
      · have h := xit c8 h
        refine lv_iinc (v := x2 + 1) (lv' := [(2, .int (x2 + 1)), (0, .ref (g.q 46)), (1, .int x1)]) hx hb dX2_tryIdeas_73 hl (k := 2) rfl rfl (Nat.le_of_ble_eq_true rfl) rfl (fun ls hl => ?_)
        refine lv_goto (tgt := 40) hx hb dX2_tryIdeas_76 (by decide) ?_
        exact ih x1 (x2 + 1) _ _ _ _ hW (lv_sub hl [1, 2, 0] rfl) h
      · have h := xif c8 h
        refine lv_aload_n hx hb dX2_tryIdeas_62 rfl (lv_at hl 0 rfl) ?_
        refine lv_iconst (v := 1) hx hb dX2_tryIdeas_63 rfl ?_
        refine lv_iload_n hx hb dX2_tryIdeas_64 rfl (lv_at hl 2 rfl) ?_
        obtain ⟨σ9, e9, h⟩ := xbo h
        refine xc_V (As := [.int 1, .int x2]) (rest := []) C hW (m_X2_putTrial N 1 x2 _ e9) mf_X2_putTrial mv_X2_putTrial ml_X2_155 ⟨rfl, rfl⟩ ⟨Nat.le_of_ble_eq_true rfl, Nat.le_of_ble_eq_true rfl⟩ KX_46 rfl hl.1 rfl rfl (Nat.le_of_ble_eq_true rfl) dX2_tryIdeas_65 (fun H locs hW => W.eq (g2 := F0 m 68 ls []) rfl ?_)
        refine lv_aload_n hx hb dX2_tryIdeas_68 rfl (lv_at hl 0 rfl) ?_
        refine lv_iconst (v := 2) hx hb dX2_tryIdeas_69 rfl ?_
        obtain ⟨σ10, e10, h⟩ := xbo h
        refine xc_V (As := [.int 2]) (rest := []) C hW (m_X2_tryBody N 2 _ e10) mf_X2_tryBody mv_X2_tryBody ml_X2_159 ⟨rfl, rfl⟩ ⟨Nat.le_of_ble_eq_true rfl, Nat.le_of_ble_eq_true rfl⟩ KX_46 rfl hl.1 rfl rfl (Nat.le_of_ble_eq_true rfl) dX2_tryIdeas_70 (fun H locs hW => W.eq (g2 := F0 m 73 ls []) rfl ?_)
        refine lv_iinc (v := x2 + 1) (lv' := [(2, .int (x2 + 1)), (0, .ref (g.q 46)), (1, .int x1)]) hx hb dX2_tryIdeas_73 hl (k := 2) rfl rfl (Nat.le_of_ble_eq_true rfl) rfl (fun ls hl => ?_)
        refine lv_goto (tgt := 40) hx hb dX2_tryIdeas_76 (by decide) ?_
        exact ih x1 (x2 + 1) _ _ _ _ hW (lv_sub hl [1, 2, 0] rfl) h
set_option maxRecDepth 4000 in
theorem w_X2_tryIdeas_2 (N : Nat) {σ' : St} (C : xC KX g RX2 cX2_tryIdeas 3 none p s m args meth c) : ∀ (n : Nat), ∀ (x1 : Int32) (σ : St) (H : Heap) (locs : List Loc) (ls : Array Slot), xW KX g s σ H locs → lv_has ls 3 [(0, .ref (g.q 46)), (1, .int x1)] → f_X2_tryIdeas_2 N n x1 σ = some σ' → W p l e rm_X2_tryIdeas s m args below meth c H locs 0 0 (MQ below (xPost KX g none σ') args s 0 0 (xA KX g.q)) (F0 m 2 ls []) := by
  have hx := C.1
  have hb := C.2.1
  intro n
  induction n with
  | zero => intro x1 σ H locs ls hW hl h; rw [f_X2_tryIdeas_2] at h; cases h
  | succ n ih =>
    intro x1 σ H locs ls hW hl h
    rw [f_X2_tryIdeas_2] at h
    refine lv_iload_n hx hb dX2_tryIdeas_2 rfl (lv_at hl 1 rfl) ?_
    refine lv_aload_n hx hb dX2_tryIdeas_3 rfl (lv_at hl 0 rfl) ?_
    refine xg_r C hW fg_2_47 KX_46 rfl dX2_tryIdeas_4 ?_
    refine xg_i C hW fg_2_101 KX_1 rfl (v := 1200) rfl (x := σ.1 1200 0) rfl dX2_tryIdeas_7 ?_
    refine lv_icmp_ge (tgt := 85) hx hb dX2_tryIdeas_10 (by decide) (fun c1 => ?_) (fun c1 => ?_)
    · have h := xit c1 h
      cases h
      exact xr_v C hW dX2_tryIdeas_85
    · have h := xif c1 h
      refine lv_aload_n hx hb dX2_tryIdeas_13 rfl (lv_at hl 0 rfl) ?_
      refine xg_r C hW fg_2_51 KX_46 rfl dX2_tryIdeas_14 ?_
      refine lv_iload_n hx hb dX2_tryIdeas_17 rfl (lv_at hl 1 rfl) ?_
      obtain ⟨r2_, e2, h⟩ := xbo h
      refine xc_V (As := [.int x1]) (rest := []) C hW (m_X7_isIdea x1 _ e2) mf_X7_isIdea mv_X7_isIdea ml_X2_102 ⟨rfl, rfl⟩ ⟨Nat.le_of_ble_eq_true rfl, Nat.le_of_ble_eq_true rfl⟩ KX_38 rfl hl.1 rfl rfl (Nat.le_of_ble_eq_true rfl) dX2_tryIdeas_18 (fun H locs hW => W.eq (g2 := F0 m 21 ls [.int r2_]) rfl ?_)
      refine lv_if_ne (tgt := 27) hx hb dX2_tryIdeas_21 (by decide) (fun c3 => ?_) (fun c3 => ?_)
      · have h := xif c3 h
        refine lv_aload_n hx hb dX2_tryIdeas_27 rfl (lv_at hl 0 rfl) ?_
        refine lv_iconst (v := 0) hx hb dX2_tryIdeas_28 rfl ?_
        refine lv_iload_n hx hb dX2_tryIdeas_29 rfl (lv_at hl 1 rfl) ?_
        obtain ⟨σ4, e4, h⟩ := xbo h
        refine xc_V (As := [.int 0, .int x1]) (rest := []) C hW (m_X2_putTrial N 0 x1 _ e4) mf_X2_putTrial mv_X2_putTrial ml_X2_155 ⟨rfl, rfl⟩ ⟨Nat.le_of_ble_eq_true rfl, Nat.le_of_ble_eq_true rfl⟩ KX_46 rfl hl.1 rfl rfl (Nat.le_of_ble_eq_true rfl) dX2_tryIdeas_30 (fun H locs hW => W.eq (g2 := F0 m 33 ls []) rfl ?_)
        refine lv_aload_n hx hb dX2_tryIdeas_33 rfl (lv_at hl 0 rfl) ?_
        refine lv_iconst (v := 1) hx hb dX2_tryIdeas_34 rfl ?_
        obtain ⟨σ5, e5, h⟩ := xbo h
        refine xc_V (As := [.int 1]) (rest := []) C hW (m_X2_tryBody N 1 _ e5) mf_X2_tryBody mv_X2_tryBody ml_X2_159 ⟨rfl, rfl⟩ ⟨Nat.le_of_ble_eq_true rfl, Nat.le_of_ble_eq_true rfl⟩ KX_46 rfl hl.1 rfl rfl (Nat.le_of_ble_eq_true rfl) dX2_tryIdeas_35 (fun H locs hW => W.eq (g2 := F0 m 38 ls []) rfl ?_)
        refine lv_iconst (v := 0) hx hb dX2_tryIdeas_38 rfl ?_
        refine lv_istore_n (lv' := [(2, .int 0), (0, .ref (g.q 46)), (1, .int x1)]) hx hb dX2_tryIdeas_39 rfl hl (Nat.le_of_ble_eq_true rfl) rfl (fun ls hl => ?_)
        exact w_X2_tryIdeas_40 N (f_X2_tryIdeas_2 N n) C ih N x1 0 _ _ _ _ hW (lv_sub hl [1, 2, 0] rfl) h
      · have h := xit c3 h
        refine lv_goto (tgt := 79) hx hb dX2_tryIdeas_24 (by decide) ?_
        refine lv_iinc (v := x1 + 1) (lv' := [(1, .int (x1 + 1)), (0, .ref (g.q 46))]) hx hb dX2_tryIdeas_79 hl (k := 1) rfl rfl (Nat.le_of_ble_eq_true rfl) rfl (fun ls hl => ?_)
        refine lv_goto (tgt := 2) hx hb dX2_tryIdeas_82 (by decide) ?_
        exact ih (x1 + 1) _ _ _ _ hW (lv_sub hl [1, 0] rfl) h
set_option maxRecDepth 4000 in
theorem m_X2_tryIdeas (N : Nat) (σ : St) {σ' : St} (h : f_X2_tryIdeas N σ = some σ') : xM l KX g yX2_tryIdeas cX2_tryIdeas 3 none rm_X2_tryIdeas [.ref (g.q 46)] σ none σ' := by
  refine xmet pn_X2 rfl (Nat.le_of_ble_eq_true rfl) (lv := [(0, .ref (g.q 46))]) rfl (fun p e s m args below meth c ls C hW hl => ?_)
  have hx := C.1
  have hb := C.2.1
  unfold f_X2_tryIdeas at h
  refine lv_iconst (v := 0) hx hb dX2_tryIdeas_0 rfl ?_
  refine lv_istore_n (lv' := [(1, .int 0), (0, .ref (g.q 46))]) hx hb dX2_tryIdeas_1 rfl hl (Nat.le_of_ble_eq_true rfl) rfl (fun ls hl => ?_)
  exact w_X2_tryIdeas_2 N C N 0 _ _ _ _ hW (lv_sub hl [1, 0] rfl) h
end
theorem dX2_trySpellings_0 : decode cX2_trySpellings 0 = .ok (.aload_n 0, 1) := by decide +kernel
theorem dX2_trySpellings_1 : decode cX2_trySpellings 1 = .ok (.getfield 35, 3) := by decide +kernel
theorem dX2_trySpellings_4 : decode cX2_trySpellings 4 = .ok (.iconst 0, 1) := by decide +kernel
theorem dX2_trySpellings_5 : decode cX2_trySpellings 5 = .ok (.iconst 0, 1) := by decide +kernel
theorem dX2_trySpellings_6 : decode cX2_trySpellings 6 = .ok (.iastore, 1) := by decide +kernel
theorem dX2_trySpellings_7 : decode cX2_trySpellings 7 = .ok (.aload_n 0, 1) := by decide +kernel
theorem dX2_trySpellings_8 : decode cX2_trySpellings 8 = .ok (.getfield 38, 3) := by decide +kernel
theorem dX2_trySpellings_11 : decode cX2_trySpellings 11 = .ok (.iconst 0, 1) := by decide +kernel
theorem dX2_trySpellings_12 : decode cX2_trySpellings 12 = .ok (.lconst 0, 1) := by decide +kernel
theorem dX2_trySpellings_13 : decode cX2_trySpellings 13 = .ok (.lastore, 1) := by decide +kernel
theorem dX2_trySpellings_14 : decode cX2_trySpellings 14 = .ok (.aload_n 0, 1) := by decide +kernel
theorem dX2_trySpellings_15 : decode cX2_trySpellings 15 = .ok (.getfield 44, 3) := by decide +kernel
theorem dX2_trySpellings_18 : decode cX2_trySpellings 18 = .ok (.iconst 0, 1) := by decide +kernel
theorem dX2_trySpellings_19 : decode cX2_trySpellings 19 = .ok (.iconst 0, 1) := by decide +kernel
theorem dX2_trySpellings_20 : decode cX2_trySpellings 20 = .ok (.iastore, 1) := by decide +kernel
theorem dX2_trySpellings_21 : decode cX2_trySpellings 21 = .ok (.aload_n 0, 1) := by decide +kernel
theorem dX2_trySpellings_22 : decode cX2_trySpellings 22 = .ok (.getfield 51, 3) := by decide +kernel
theorem dX2_trySpellings_25 : decode cX2_trySpellings 25 = .ok (.aload_n 0, 1) := by decide +kernel
theorem dX2_trySpellings_26 : decode cX2_trySpellings 26 = .ok (.getfield 47, 3) := by decide +kernel
theorem dX2_trySpellings_29 : decode cX2_trySpellings 29 = .ok (.iload_n 1, 1) := by decide +kernel
theorem dX2_trySpellings_30 : decode cX2_trySpellings 30 = .ok (.invokevirtual 75, 3) := by decide +kernel
theorem dX2_trySpellings_33 : decode cX2_trySpellings 33 = .ok (.aload_n 0, 1) := by decide +kernel
theorem dX2_trySpellings_34 : decode cX2_trySpellings 34 = .ok (.getfield 51, 3) := by decide +kernel
theorem dX2_trySpellings_37 : decode cX2_trySpellings 37 = .ok (.invokevirtual 146, 3) := by decide +kernel
theorem dX2_trySpellings_40 : decode cX2_trySpellings 40 = .ok (.aload_n 0, 1) := by decide +kernel
theorem dX2_trySpellings_41 : decode cX2_trySpellings 41 = .ok (.invokevirtual 149, 3) := by decide +kernel
theorem dX2_trySpellings_44 : decode cX2_trySpellings 44 = .ok (.aload_n 0, 1) := by decide +kernel
theorem dX2_trySpellings_45 : decode cX2_trySpellings 45 = .ok (.iconst 1, 1) := by decide +kernel
theorem dX2_trySpellings_46 : decode cX2_trySpellings 46 = .ok (.iconst 0, 1) := by decide +kernel
theorem dX2_trySpellings_47 : decode cX2_trySpellings 47 = .ok (.iconst 0, 1) := by decide +kernel
theorem dX2_trySpellings_48 : decode cX2_trySpellings 48 = .ok (.invokevirtual 152, 3) := by decide +kernel
theorem dX2_trySpellings_51 : decode cX2_trySpellings 51 = .ok (.return_, 1) := by decide +kernel
abbrev rm_X2_trySpellings : Room := { frames := 45, cells := 0, slots := 0, locals := 1841 }
def f_X2_trySpellings (N : Nat) (x1 : Int32) (σ : St) : Option St := grd (ib 0 13) (grd (ib 0 13) (grd (ib 0 13) (bo (f_X7_look 1 x1 (si (sl (si σ 53 0 0) 54 0 0) 56 0 0)) (fun σ4 => bo (f_X7_forgetCovers N σ4) (fun σ5 => bo (f_X2_tryIdeas N σ5) (fun σ6 => bo (f_X2_tryCovers N 20 1 0 0 σ6) (fun σ7 => some σ7)))))))
section
variable {p : Program} {l : Launch} {e : Env} {s : State} {m : MethodId} {args : Array Value} {below : List Frame} {meth : Method} {c : Code} {g : XG}
set_option maxRecDepth 4000 in
theorem m_X2_trySpellings (N : Nat) (x1 : Int32) (σ : St) {σ' : St} (h : f_X2_trySpellings N x1 σ = some σ') : xM l KX g yX2_trySpellings cX2_trySpellings 2 none rm_X2_trySpellings [.ref (g.q 46), .int x1] σ none σ' := by
  refine xmet pn_X2 rfl (Nat.le_of_ble_eq_true rfl) (lv := [(0, .ref (g.q 46)), (1, .int x1)]) rfl (fun p e s m args below meth c ls C hW hl => ?_)
  have hx := C.1
  have hb := C.2.1
  unfold f_X2_trySpellings at h
  refine lv_aload_n hx hb dX2_trySpellings_0 rfl (lv_at hl 0 rfl) ?_
  refine xg_r C hW fg_2_35 KX_46 rfl dX2_trySpellings_1 ?_
  refine lv_iconst (v := 0) hx hb dX2_trySpellings_4 rfl ?_
  refine lv_iconst (v := 0) hx hb dX2_trySpellings_5 rfl ?_
  obtain ⟨g1, h⟩ := xgd h
  refine xs_i C hW KX_53 g1 dX2_trySpellings_6 (fun H locs hW => ?_)
  refine lv_aload_n hx hb dX2_trySpellings_7 rfl (lv_at hl 0 rfl) ?_
  refine xg_r C hW fg_2_38 KX_46 rfl dX2_trySpellings_8 ?_
  refine lv_iconst (v := 0) hx hb dX2_trySpellings_11 rfl ?_
  refine lv_lconst (v := 0) hx hb dX2_trySpellings_12 rfl ?_
  obtain ⟨g2, h⟩ := xgd h
  refine xs_l C hW KX_54 g2 dX2_trySpellings_13 (fun H locs hW => ?_)
  refine lv_aload_n hx hb dX2_trySpellings_14 rfl (lv_at hl 0 rfl) ?_
  refine xg_r C hW fg_2_44 KX_46 rfl dX2_trySpellings_15 ?_
  refine lv_iconst (v := 0) hx hb dX2_trySpellings_18 rfl ?_
  refine lv_iconst (v := 0) hx hb dX2_trySpellings_19 rfl ?_
  obtain ⟨g3, h⟩ := xgd h
  refine xs_i C hW KX_56 g3 dX2_trySpellings_20 (fun H locs hW => ?_)
  refine lv_aload_n hx hb dX2_trySpellings_21 rfl (lv_at hl 0 rfl) ?_
  refine xg_r C hW fg_2_51 KX_46 rfl dX2_trySpellings_22 ?_
  refine lv_aload_n hx hb dX2_trySpellings_25 rfl (lv_at hl 0 rfl) ?_
  refine xg_r C hW fg_2_47 KX_46 rfl dX2_trySpellings_26 ?_
  refine lv_iload_n hx hb dX2_trySpellings_29 rfl (lv_at hl 1 rfl) ?_
  obtain ⟨σ4, e4, h⟩ := xbo h
  refine xc_V (As := [.ref (g.q 1), .int x1]) (rest := []) C hW (m_X7_look 1 (Or.inl rfl) x1 _ e4) mf_X7_look mv_X7_look ml_X2_75 ⟨rfl, rfl⟩ ⟨Nat.le_of_ble_eq_true rfl, Nat.le_of_ble_eq_true rfl⟩ KX_38 rfl hl.1 rfl rfl (Nat.le_of_ble_eq_true rfl) dX2_trySpellings_30 (fun H locs hW => W.eq (g2 := F0 m 33 ls []) rfl ?_)
  refine lv_aload_n hx hb dX2_trySpellings_33 rfl (lv_at hl 0 rfl) ?_
  refine xg_r C hW fg_2_51 KX_46 rfl dX2_trySpellings_34 ?_
  obtain ⟨σ5, e5, h⟩ := xbo h
  refine xc_V (As := []) (rest := []) C hW (m_X7_forgetCovers N _ e5) mf_X7_forgetCovers mv_X7_forgetCovers ml_X2_146 ⟨rfl, rfl⟩ ⟨Nat.le_of_ble_eq_true rfl, Nat.le_of_ble_eq_true rfl⟩ KX_38 rfl hl.1 rfl rfl (Nat.le_of_ble_eq_true rfl) dX2_trySpellings_37 (fun H locs hW => W.eq (g2 := F0 m 40 ls []) rfl ?_)
  refine lv_aload_n hx hb dX2_trySpellings_40 rfl (lv_at hl 0 rfl) ?_
  obtain ⟨σ6, e6, h⟩ := xbo h
  refine xc_V (As := []) (rest := []) C hW (m_X2_tryIdeas N _ e6) mf_X2_tryIdeas mv_X2_tryIdeas ml_X2_149 ⟨rfl, rfl⟩ ⟨Nat.le_of_ble_eq_true rfl, Nat.le_of_ble_eq_true rfl⟩ KX_46 rfl hl.1 rfl rfl (Nat.le_of_ble_eq_true rfl) dX2_trySpellings_41 (fun H locs hW => W.eq (g2 := F0 m 44 ls []) rfl ?_)
  refine lv_aload_n hx hb dX2_trySpellings_44 rfl (lv_at hl 0 rfl) ?_
  refine lv_iconst (v := 1) hx hb dX2_trySpellings_45 rfl ?_
  refine lv_iconst (v := 0) hx hb dX2_trySpellings_46 rfl ?_
  refine lv_iconst (v := 0) hx hb dX2_trySpellings_47 rfl ?_
  obtain ⟨σ7, e7, h⟩ := xbo h
  refine xc_V (As := [.int 1, .int 0, .int 0]) (rest := []) C hW (m_X2_tryCovers N 20 1 0 0 _ e7) mf_X2_tryCovers mv_X2_tryCovers ml_X2_152 ⟨rfl, rfl⟩ ⟨Nat.le_of_ble_eq_true rfl, Nat.le_of_ble_eq_true rfl⟩ KX_46 rfl hl.1 rfl rfl (Nat.le_of_ble_eq_true rfl) dX2_trySpellings_48 (fun H locs hW => W.eq (g2 := F0 m 51 ls []) rfl ?_)
  cases h
  exact xr_v C hW dX2_trySpellings_51
end
theorem dX2_settle_0 : decode cX2_settle 0 = .ok (.iconst 0, 1) := by decide +kernel
theorem dX2_settle_1 : decode cX2_settle 1 = .ok (.istore_n 3, 1) := by decide +kernel
theorem dX2_settle_2 : decode cX2_settle 2 = .ok (.iload_n 3, 1) := by decide +kernel
theorem dX2_settle_3 : decode cX2_settle 3 = .ok (.iload_n 2, 1) := by decide +kernel
theorem dX2_settle_4 : decode cX2_settle 4 = .ok (.if_icmp .ge 58, 3) := by decide +kernel
theorem dX2_settle_7 : decode cX2_settle 7 = .ok (.aload_n 0, 1) := by decide +kernel
theorem dX2_settle_8 : decode cX2_settle 8 = .ok (.aload_n 1, 1) := by decide +kernel
theorem dX2_settle_9 : decode cX2_settle 9 = .ok (.iload_n 3, 1) := by decide +kernel
theorem dX2_settle_10 : decode cX2_settle 10 = .ok (.iaload, 1) := by decide +kernel
theorem dX2_settle_11 : decode cX2_settle 11 = .ok (.invokevirtual 134, 3) := by decide +kernel
theorem dX2_settle_14 : decode cX2_settle 14 = .ok (.istore 4, 2) := by decide +kernel
theorem dX2_settle_16 : decode cX2_settle 16 = .ok (.iload 4, 2) := by decide +kernel
theorem dX2_settle_18 : decode cX2_settle 18 = .ok (.sipush 500, 3) := by decide +kernel
theorem dX2_settle_21 : decode cX2_settle 21 = .ok (.if_icmp .le 5, 3) := by decide +kernel
theorem dX2_settle_24 : decode cX2_settle 24 = .ok (.iconst 0, 1) := by decide +kernel
theorem dX2_settle_25 : decode cX2_settle 25 = .ok (.ireturn, 1) := by decide +kernel
theorem dX2_settle_26 : decode cX2_settle 26 = .ok (.aload_n 0, 1) := by decide +kernel
theorem dX2_settle_27 : decode cX2_settle 27 = .ok (.aload_n 1, 1) := by decide +kernel
theorem dX2_settle_28 : decode cX2_settle 28 = .ok (.iload_n 3, 1) := by decide +kernel
theorem dX2_settle_29 : decode cX2_settle 29 = .ok (.iaload, 1) := by decide +kernel
theorem dX2_settle_30 : decode cX2_settle 30 = .ok (.iconst 4, 1) := by decide +kernel
theorem dX2_settle_31 : decode cX2_settle 31 = .ok (.invokevirtual 71, 3) := by decide +kernel
theorem dX2_settle_34 : decode cX2_settle 34 = .ok (.ifCond .eq 22, 3) := by decide +kernel
theorem dX2_settle_37 : decode cX2_settle 37 = .ok (.aload_n 0, 1) := by decide +kernel
theorem dX2_settle_38 : decode cX2_settle 38 = .ok (.aload_n 1, 1) := by decide +kernel
theorem dX2_settle_39 : decode cX2_settle 39 = .ok (.iload_n 3, 1) := by decide +kernel
theorem dX2_settle_40 : decode cX2_settle 40 = .ok (.iaload, 1) := by decide +kernel
theorem dX2_settle_41 : decode cX2_settle 41 = .ok (.invokevirtual 137, 3) := by decide +kernel
theorem dX2_settle_44 : decode cX2_settle 44 = .ok (.iload 4, 2) := by decide +kernel
theorem dX2_settle_46 : decode cX2_settle 46 = .ok (.ifCond .le 10, 3) := by decide +kernel
theorem dX2_settle_49 : decode cX2_settle 49 = .ok (.aload_n 0, 1) := by decide +kernel
theorem dX2_settle_50 : decode cX2_settle 50 = .ok (.aload_n 1, 1) := by decide +kernel
theorem dX2_settle_51 : decode cX2_settle 51 = .ok (.iload_n 3, 1) := by decide +kernel
theorem dX2_settle_52 : decode cX2_settle 52 = .ok (.iaload, 1) := by decide +kernel
theorem dX2_settle_53 : decode cX2_settle 53 = .ok (.invokevirtual 140, 3) := by decide +kernel
theorem dX2_settle_56 : decode cX2_settle 56 = .ok (.iinc 3 1, 3) := by decide +kernel
theorem dX2_settle_59 : decode cX2_settle 59 = .ok (.goto (-57), 3) := by decide +kernel
theorem dX2_settle_62 : decode cX2_settle 62 = .ok (.iconst 1, 1) := by decide +kernel
theorem dX2_settle_63 : decode cX2_settle 63 = .ok (.ireturn, 1) := by decide +kernel
abbrev rm_X2_settle : Room := { frames := 46, cells := 0, slots := 0, locals := 1862 }
def f_X2_settle_2 (r1 rn1 : Nat) (N : Nat) : Nat → Int32 → Int32 → St → Option (Int32 × St)
  | 0, _, _, _ => none
  | n + 1, x2, x3, σ => (if x2 ≤ x3 then some (1, σ) else grd (ib x3 rn1) (bd (f_X2_spellingsOf N (σ.1 r1 x3.toNatClampNeg) σ) (fun r3_ σ3 => (if r3_ ≤ 500 then grd (ib x3 rn1) (bd (f_X2_isNew (σ3.1 r1 x3.toNatClampNeg) 4 σ3) (fun r6_ σ6 => (if r6_ = 0 then f_X2_settle_2 r1 rn1 N n x2 (x3 + 1) σ6 else grd (ib x3 rn1) (bo (f_X2_emptySlots N (σ6.1 r1 x3.toNatClampNeg) σ6) (fun σ9 => (if r3_ ≤ 0 then f_X2_settle_2 r1 rn1 N n x2 (x3 + 1) σ9 else grd (ib x3 rn1) (bo (f_X2_trySpellings N (σ9.1 r1 x3.toNatClampNeg) σ9) (fun σ12 => f_X2_settle_2 r1 rn1 N n x2 (x3 + 1) σ12)))))))) else some (0, σ3)))))
def f_X2_settle (r1 rn1 : Nat) (N : Nat) (x2 : Int32) (σ : St) : Option (Int32 × St) := f_X2_settle_2 r1 rn1 N N x2 0 σ
section
variable {p : Program} {l : Launch} {e : Env} {s : State} {m : MethodId} {args : Array Value} {below : List Frame} {meth : Method} {c : Code} {g : XG}
set_option maxRecDepth 4000 in
theorem w_X2_settle_2 (r1 rn1 : Nat) (hr1 : KX[r1]? = some (.inr (0, rn1))) (N : Nat) {r : Int32} {σ' : St} (C : xC KX g RX2 cX2_settle 5 (some .boolean) p s m args meth c) : ∀ (n : Nat), ∀ (x2 : Int32) (x3 : Int32) (σ : St) (H : Heap) (locs : List Loc) (ls : Array Slot), xW KX g s σ H locs → lv_has ls 5 [(0, .ref (g.q 46)), (1, .ref (g.q r1)), (2, .int x2), (3, .int x3)] → f_X2_settle_2 r1 rn1 N n x2 x3 σ = some (r, σ') → W p l e rm_X2_settle s m args below meth c H locs 0 0 (MQ below (xPost KX g (some (.int r)) σ') args s 0 0 (xA KX g.q)) (F0 m 2 ls []) := by
  have hx := C.1
  have hb := C.2.1
  intro n
  induction n with
  | zero => intro x2 x3 σ H locs ls hW hl h; rw [f_X2_settle_2] at h; cases h
  | succ n ih =>
    intro x2 x3 σ H locs ls hW hl h
    rw [f_X2_settle_2] at h
    refine lv_iload_n hx hb dX2_settle_2 rfl (lv_at hl 3 rfl) ?_
    refine lv_iload_n hx hb dX2_settle_3 rfl (lv_at hl 2 rfl) ?_
    refine lv_icmp_ge (tgt := 62) hx hb dX2_settle_4 (by decide) (fun c1 => ?_) (fun c1 => ?_)
    · have h := xit c1 h
      refine lv_iconst (v := 1) hx hb dX2_settle_62 rfl ?_
      cases h
      exact xr_z C hW (by decide) dX2_settle_63
    · have h := xif c1 h
      refine lv_aload_n hx hb dX2_settle_7 rfl (lv_at hl 0 rfl) ?_
      refine lv_aload_n hx hb dX2_settle_8 rfl (lv_at hl 1 rfl) ?_
      refine lv_iload_n hx hb dX2_settle_9 rfl (lv_at hl 3 rfl) ?_
      obtain ⟨g2, h⟩ := xgd h
      refine xa_i C hW hr1 g2 (x := σ.1 r1 x3.toNatClampNeg) rfl dX2_settle_10 ?_
      obtain ⟨r3_, σ3, e3, h⟩ := xbd h
      refine xc_V (As := [.int (σ.1 r1 x3.toNatClampNeg)]) (rest := []) C hW (m_X2_spellingsOf N (σ.1 r1 x3.toNatClampNeg) _ e3) mf_X2_spellingsOf mv_X2_spellingsOf ml_X2_134 ⟨rfl, rfl⟩ ⟨Nat.le_of_ble_eq_true rfl, Nat.le_of_ble_eq_true rfl⟩ KX_46 rfl hl.1 rfl rfl (Nat.le_of_ble_eq_true rfl) dX2_settle_11 (fun H locs hW => W.eq (g2 := F0 m 14 ls [.int r3_]) rfl ?_)
      refine lv_istore (lv' := [(4, .int r3_), (0, .ref (g.q 46)), (1, .ref (g.q r1)), (2, .int x2), (3, .int x3)]) hx hb dX2_settle_14 hl (Nat.le_of_ble_eq_true rfl) rfl (fun ls hl => ?_)
      refine lv_iload hx hb dX2_settle_16 (lv_at hl 0 rfl) ?_
      refine lv_sipush (v := 500) hx hb dX2_settle_18 rfl ?_
      refine lv_icmp_le (tgt := 26) hx hb dX2_settle_21 (by decide) (fun c4 => ?_) (fun c4 => ?_)
      · have h := xit c4 h
        refine lv_aload_n hx hb dX2_settle_26 rfl (lv_at hl 1 rfl) ?_
        refine lv_aload_n hx hb dX2_settle_27 rfl (lv_at hl 2 rfl) ?_
        refine lv_iload_n hx hb dX2_settle_28 rfl (lv_at hl 4 rfl) ?_
        obtain ⟨g5, h⟩ := xgd h
        refine xa_i C hW hr1 g5 (x := σ3.1 r1 x3.toNatClampNeg) rfl dX2_settle_29 ?_
        refine lv_iconst (v := 4) hx hb dX2_settle_30 rfl ?_
        obtain ⟨r6_, σ6, e6, h⟩ := xbd h
        refine xc_V (As := [.int (σ3.1 r1 x3.toNatClampNeg), .int 4]) (rest := []) C hW (m_X2_isNew (σ3.1 r1 x3.toNatClampNeg) 4 _ e6) mf_X2_isNew mv_X2_isNew ml_X2_71 ⟨rfl, rfl⟩ ⟨Nat.le_of_ble_eq_true rfl, Nat.le_of_ble_eq_true rfl⟩ KX_46 rfl hl.1 rfl rfl (Nat.le_of_ble_eq_true rfl) dX2_settle_31 (fun H locs hW => W.eq (g2 := F0 m 34 ls [.int r6_]) rfl ?_)
        refine lv_if_eq (tgt := 56) hx hb dX2_settle_34 (by decide) (fun c7 => ?_) (fun c7 => ?_)
        · have h := xit c7 h
          refine lv_iinc (v := x3 + 1) (lv' := [(3, .int (x3 + 1)), (4, .int r3_), (0, .ref (g.q 46)), (1, .ref (g.q r1)), (2, .int x2)]) hx hb dX2_settle_56 hl (k := 4) rfl rfl (Nat.le_of_ble_eq_true rfl) rfl (fun ls hl => ?_)
          refine lv_goto (tgt := 2) hx hb dX2_settle_59 (by decide) ?_
          exact ih x2 (x3 + 1) _ _ _ _ hW (lv_sub hl [2, 3, 4, 0] rfl) h
        · have h := xif c7 h
          refine lv_aload_n hx hb dX2_settle_37 rfl (lv_at hl 1 rfl) ?_
          refine lv_aload_n hx hb dX2_settle_38 rfl (lv_at hl 2 rfl) ?_
          refine lv_iload_n hx hb dX2_settle_39 rfl (lv_at hl 4 rfl) ?_
          obtain ⟨g8, h⟩ := xgd h
          refine xa_i C hW hr1 g8 (x := σ6.1 r1 x3.toNatClampNeg) rfl dX2_settle_40 ?_
          obtain ⟨σ9, e9, h⟩ := xbo h
          refine xc_V (As := [.int (σ6.1 r1 x3.toNatClampNeg)]) (rest := []) C hW (m_X2_emptySlots N (σ6.1 r1 x3.toNatClampNeg) _ e9) mf_X2_emptySlots mv_X2_emptySlots ml_X2_137 ⟨rfl, rfl⟩ ⟨Nat.le_of_ble_eq_true rfl, Nat.le_of_ble_eq_true rfl⟩ KX_46 rfl hl.1 rfl rfl (Nat.le_of_ble_eq_true rfl) dX2_settle_41 (fun H locs hW => W.eq (g2 := F0 m 44 ls []) rfl ?_)
          refine lv_iload hx hb dX2_settle_44 (lv_at hl 0 rfl) ?_
          refine lv_if_le (tgt := 56) hx hb dX2_settle_46 (by decide) (fun c10 => ?_) (fun c10 => ?_)
          · have h := xit c10 h
            refine lv_iinc (v := x3 + 1) (lv' := [(3, .int (x3 + 1)), (4, .int r3_), (0, .ref (g.q 46)), (1, .ref (g.q r1)), (2, .int x2)]) hx hb dX2_settle_56 hl (k := 4) rfl rfl (Nat.le_of_ble_eq_true rfl) rfl (fun ls hl => ?_)
            refine lv_goto (tgt := 2) hx hb dX2_settle_59 (by decide) ?_
            exact ih x2 (x3 + 1) _ _ _ _ hW (lv_sub hl [2, 3, 4, 0] rfl) h
          · have h := xif c10 h
            refine lv_aload_n hx hb dX2_settle_49 rfl (lv_at hl 1 rfl) ?_
            refine lv_aload_n hx hb dX2_settle_50 rfl (lv_at hl 2 rfl) ?_
            refine lv_iload_n hx hb dX2_settle_51 rfl (lv_at hl 4 rfl) ?_
            obtain ⟨g11, h⟩ := xgd h
            refine xa_i C hW hr1 g11 (x := σ9.1 r1 x3.toNatClampNeg) rfl dX2_settle_52 ?_
            obtain ⟨σ12, e12, h⟩ := xbo h
            refine xc_V (As := [.int (σ9.1 r1 x3.toNatClampNeg)]) (rest := []) C hW (m_X2_trySpellings N (σ9.1 r1 x3.toNatClampNeg) _ e12) mf_X2_trySpellings mv_X2_trySpellings ml_X2_140 ⟨rfl, rfl⟩ ⟨Nat.le_of_ble_eq_true rfl, Nat.le_of_ble_eq_true rfl⟩ KX_46 rfl hl.1 rfl rfl (Nat.le_of_ble_eq_true rfl) dX2_settle_53 (fun H locs hW => W.eq (g2 := F0 m 56 ls []) rfl ?_)
            refine lv_iinc (v := x3 + 1) (lv' := [(3, .int (x3 + 1)), (4, .int r3_), (0, .ref (g.q 46)), (1, .ref (g.q r1)), (2, .int x2)]) hx hb dX2_settle_56 hl (k := 4) rfl rfl (Nat.le_of_ble_eq_true rfl) rfl (fun ls hl => ?_)
            refine lv_goto (tgt := 2) hx hb dX2_settle_59 (by decide) ?_
            exact ih x2 (x3 + 1) _ _ _ _ hW (lv_sub hl [2, 3, 4, 0] rfl) h
      · have h := xif c4 h
        refine lv_iconst (v := 0) hx hb dX2_settle_24 rfl ?_
        cases h
        exact xr_z C hW (by decide) dX2_settle_25
set_option maxRecDepth 4000 in
theorem m_X2_settle (r1 rn1 : Nat) (hr1 : KX[r1]? = some (.inr (0, rn1))) (N : Nat) (x2 : Int32) (σ : St) {r : Int32} {σ' : St} (h : f_X2_settle r1 rn1 N x2 σ = some (r, σ')) : xM l KX g yX2_settle cX2_settle 5 (some .boolean) rm_X2_settle [.ref (g.q 46), .ref (g.q r1), .int x2] σ (some (.int r)) σ' := by
  refine xmet pn_X2 rfl (Nat.le_of_ble_eq_true rfl) (lv := [(0, .ref (g.q 46)), (1, .ref (g.q r1)), (2, .int x2)]) rfl (fun p e s m args below meth c ls C hW hl => ?_)
  have hx := C.1
  have hb := C.2.1
  unfold f_X2_settle at h
  refine lv_iconst (v := 0) hx hb dX2_settle_0 rfl ?_
  refine lv_istore_n (lv' := [(3, .int 0), (0, .ref (g.q 46)), (1, .ref (g.q r1)), (2, .int x2)]) hx hb dX2_settle_1 rfl hl (Nat.le_of_ble_eq_true rfl) rfl (fun ls hl => ?_)
  exact w_X2_settle_2 r1 rn1 hr1 N C N x2 0 _ _ _ _ hW (lv_sub hl [1, 2, 3, 0] rfl) h
end
theorem dX3_forget_0 : decode cX3_forget 0 = .ok (.aload_n 0, 1) := by decide +kernel
theorem dX3_forget_1 : decode cX3_forget 1 = .ok (.iconst 0, 1) := by decide +kernel
theorem dX3_forget_2 : decode cX3_forget 2 = .ok (.putfield 33, 3) := by decide +kernel
theorem dX3_forget_5 : decode cX3_forget 5 = .ok (.return_, 1) := by decide +kernel
abbrev rm_X3_forget : Room := { frames := 0, cells := 0, slots := 0, locals := 0 }
def f_X3_forget (σ : St) : Option St := some ((si σ 9004 0 0))
section
variable {p : Program} {l : Launch} {e : Env} {s : State} {m : MethodId} {args : Array Value} {below : List Frame} {meth : Method} {c : Code} {g : XG}
set_option maxRecDepth 4000 in
theorem m_X3_forget (σ : St) {σ' : St} (h : f_X3_forget σ = some σ') : xM l KX g yX3_forget cX3_forget 1 none rm_X3_forget [.ref (g.q 40)] σ none σ' := by
  refine xmet pn_X3 rfl (Nat.le_of_ble_eq_true rfl) (lv := [(0, .ref (g.q 40))]) rfl (fun p e s m args below meth c ls C hW hl => ?_)
  have hx := C.1
  have hb := C.2.1
  unfold f_X3_forget at h
  refine lv_aload_n hx hb dX3_forget_0 rfl (lv_at hl 0 rfl) ?_
  refine lv_iconst (v := 0) hx hb dX3_forget_1 rfl ?_
  refine xp_i C hW fp_3_33 KX_40 rfl (v := 9004) rfl rfl rfl dX3_forget_2 (fun H locs hW => ?_)
  cases h
  exact xr_v C hW dX3_forget_5
end
theorem dX6_percentOf_0 : decode cX6_percentOf 0 = .ok (.aload_n 0, 1) := by decide +kernel
theorem dX6_percentOf_1 : decode cX6_percentOf 1 = .ok (.bipush 100, 2) := by decide +kernel
theorem dX6_percentOf_3 : decode cX6_percentOf 3 = .ok (.iload_n 1, 1) := by decide +kernel
theorem dX6_percentOf_4 : decode cX6_percentOf 4 = .ok (.invokevirtual 50, 3) := by decide +kernel
theorem dX6_percentOf_7 : decode cX6_percentOf 7 = .ok (.ireturn, 1) := by decide +kernel
abbrev rm_X6_percentOf : Room := { frames := 1, cells := 0, slots := 0, locals := 24 }
def f_X6_percentOf (o : Nat) (x1 : Int32) (σ : St) : Option Int32 := bo (f_X6_shrunk o 100 x1 σ) (fun r1_ => some r1_)
section
variable {p : Program} {l : Launch} {e : Env} {s : State} {m : MethodId} {args : Array Value} {below : List Frame} {meth : Method} {c : Code} {g : XG}
set_option maxRecDepth 4000 in
theorem m_X6_percentOf (o : Nat) (ho : o = 1 ∨ o = 2) (x1 : Int32) (σ : St) {r : Int32} (h : f_X6_percentOf o x1 σ = some r) : xM l KX g yX6_percentOf cX6_percentOf 2 (some .int) rm_X6_percentOf [.ref (g.q o), .int x1] σ (some (.int r)) σ := by
  refine xmet pn_X6 rfl (Nat.le_of_ble_eq_true rfl) (lv := [(0, .ref (g.q o)), (1, .int x1)]) rfl (fun p e s m args below meth c ls C hW hl => ?_)
  have hx := C.1
  have hb := C.2.1
  unfold f_X6_percentOf at h
  refine lv_aload_n hx hb dX6_percentOf_0 rfl (lv_at hl 0 rfl) ?_
  refine lv_bipush (v := 100) hx hb dX6_percentOf_1 rfl ?_
  refine lv_iload_n hx hb dX6_percentOf_3 rfl (lv_at hl 1 rfl) ?_
  obtain ⟨r1_, e1, h⟩ := xbo h
  refine xc_V (As := [.int 100, .int x1]) (rest := []) C hW (m_X6_shrunk o ho 100 x1 _ e1) mf_X6_shrunk mv_X6_shrunk ml_X6_50 ⟨rfl, rfl⟩ ⟨Nat.le_of_ble_eq_true rfl, Nat.le_of_ble_eq_true rfl⟩ (KX_sl ho) rfl hl.1 rfl rfl (Nat.le_of_ble_eq_true rfl) dX6_percentOf_4 (fun H locs hW => W.eq (g2 := F0 m 7 ls [.int r1_]) rfl ?_)
  cases h
  exact xr_i C hW dX6_percentOf_7
end
theorem dX3_choose_0 : decode cX3_choose 0 = .ok (.aload_n 0, 1) := by decide +kernel
theorem dX3_choose_1 : decode cX3_choose 1 = .ok (.getfield 11, 3) := by decide +kernel
theorem dX3_choose_4 : decode cX3_choose 4 = .ok (.iload_n 3, 1) := by decide +kernel
theorem dX3_choose_5 : decode cX3_choose 5 = .ok (.sipush 1000, 3) := by decide +kernel
theorem dX3_choose_8 : decode cX3_choose 8 = .ok (.iastore, 1) := by decide +kernel
theorem dX3_choose_9 : decode cX3_choose 9 = .ok (.aload_n 0, 1) := by decide +kernel
theorem dX3_choose_10 : decode cX3_choose 10 = .ok (.getfield 17, 3) := by decide +kernel
theorem dX3_choose_13 : decode cX3_choose 13 = .ok (.iload_n 3, 1) := by decide +kernel
theorem dX3_choose_14 : decode cX3_choose 14 = .ok (.iconst 0, 1) := by decide +kernel
theorem dX3_choose_15 : decode cX3_choose 15 = .ok (.iastore, 1) := by decide +kernel
theorem dX3_choose_16 : decode cX3_choose 16 = .ok (.iconst 0, 1) := by decide +kernel
theorem dX3_choose_17 : decode cX3_choose 17 = .ok (.istore 4, 2) := by decide +kernel
theorem dX3_choose_19 : decode cX3_choose 19 = .ok (.iload 4, 2) := by decide +kernel
theorem dX3_choose_21 : decode cX3_choose 21 = .ok (.bipush 11, 2) := by decide +kernel
theorem dX3_choose_23 : decode cX3_choose 23 = .ok (.if_icmp .ge 153, 3) := by decide +kernel
theorem dX3_choose_26 : decode cX3_choose 26 = .ok (.iload_n 3, 1) := by decide +kernel
theorem dX3_choose_27 : decode cX3_choose 27 = .ok (.getstatic 45, 3) := by decide +kernel
theorem dX3_choose_30 : decode cX3_choose 30 = .ok (.iload 4, 2) := by decide +kernel
theorem dX3_choose_32 : decode cX3_choose 32 = .ok (.iaload, 1) := by decide +kernel
theorem dX3_choose_33 : decode cX3_choose 33 = .ok (.iadd, 1) := by decide +kernel
theorem dX3_choose_34 : decode cX3_choose 34 = .ok (.istore 5, 2) := by decide +kernel
theorem dX3_choose_36 : decode cX3_choose 36 = .ok (.iload 5, 2) := by decide +kernel
theorem dX3_choose_38 : decode cX3_choose 38 = .ok (.iload_n 2, 1) := by decide +kernel
theorem dX3_choose_39 : decode cX3_choose 39 = .ok (.if_icmp .gt 131, 3) := by decide +kernel
theorem dX3_choose_42 : decode cX3_choose 42 = .ok (.aload_n 0, 1) := by decide +kernel
theorem dX3_choose_43 : decode cX3_choose 43 = .ok (.getfield 11, 3) := by decide +kernel
theorem dX3_choose_46 : decode cX3_choose 46 = .ok (.iload 5, 2) := by decide +kernel
theorem dX3_choose_48 : decode cX3_choose 48 = .ok (.iaload, 1) := by decide +kernel
theorem dX3_choose_49 : decode cX3_choose 49 = .ok (.sipush 1000, 3) := by decide +kernel
theorem dX3_choose_52 : decode cX3_choose 52 = .ok (.if_icmp .lt 6, 3) := by decide +kernel
theorem dX3_choose_55 : decode cX3_choose 55 = .ok (.goto 115, 3) := by decide +kernel
theorem dX3_choose_58 : decode cX3_choose 58 = .ok (.aload_n 0, 1) := by decide +kernel
theorem dX3_choose_59 : decode cX3_choose 59 = .ok (.iload 4, 2) := by decide +kernel
theorem dX3_choose_61 : decode cX3_choose 61 = .ok (.aload_n 1, 1) := by decide +kernel
theorem dX3_choose_62 : decode cX3_choose 62 = .ok (.iload_n 3, 1) := by decide +kernel
theorem dX3_choose_63 : decode cX3_choose 63 = .ok (.invokevirtual 48, 3) := by decide +kernel
theorem dX3_choose_66 : decode cX3_choose 66 = .ok (.istore 6, 2) := by decide +kernel
theorem dX3_choose_68 : decode cX3_choose 68 = .ok (.aload_n 0, 1) := by decide +kernel
theorem dX3_choose_69 : decode cX3_choose 69 = .ok (.getfield 29, 3) := by decide +kernel
theorem dX3_choose_72 : decode cX3_choose 72 = .ok (.iload 6, 2) := by decide +kernel
theorem dX3_choose_74 : decode cX3_choose 74 = .ok (.invokevirtual 52, 3) := by decide +kernel
theorem dX3_choose_77 : decode cX3_choose 77 = .ok (.ifCond .ne 6, 3) := by decide +kernel
theorem dX3_choose_80 : decode cX3_choose 80 = .ok (.goto 90, 3) := by decide +kernel
theorem dX3_choose_83 : decode cX3_choose 83 = .ok (.aload_n 0, 1) := by decide +kernel
theorem dX3_choose_84 : decode cX3_choose 84 = .ok (.getfield 11, 3) := by decide +kernel
theorem dX3_choose_87 : decode cX3_choose 87 = .ok (.iload 5, 2) := by decide +kernel
theorem dX3_choose_89 : decode cX3_choose 89 = .ok (.iaload, 1) := by decide +kernel
theorem dX3_choose_90 : decode cX3_choose 90 = .ok (.iconst 1, 1) := by decide +kernel
theorem dX3_choose_91 : decode cX3_choose 91 = .ok (.iadd, 1) := by decide +kernel
theorem dX3_choose_92 : decode cX3_choose 92 = .ok (.istore 7, 2) := by decide +kernel
theorem dX3_choose_94 : decode cX3_choose 94 = .ok (.aload_n 0, 1) := by decide +kernel
theorem dX3_choose_95 : decode cX3_choose 95 = .ok (.getfield 17, 3) := by decide +kernel
theorem dX3_choose_98 : decode cX3_choose 98 = .ok (.iload 5, 2) := by decide +kernel
theorem dX3_choose_100 : decode cX3_choose 100 = .ok (.iaload, 1) := by decide +kernel
theorem dX3_choose_101 : decode cX3_choose 101 = .ok (.aload_n 0, 1) := by decide +kernel
theorem dX3_choose_102 : decode cX3_choose 102 = .ok (.getfield 29, 3) := by decide +kernel
theorem dX3_choose_105 : decode cX3_choose 105 = .ok (.iload 6, 2) := by decide +kernel
theorem dX3_choose_107 : decode cX3_choose 107 = .ok (.invokevirtual 58, 3) := by decide +kernel
theorem dX3_choose_110 : decode cX3_choose 110 = .ok (.iadd, 1) := by decide +kernel
theorem dX3_choose_111 : decode cX3_choose 111 = .ok (.istore 8, 2) := by decide +kernel
theorem dX3_choose_113 : decode cX3_choose 113 = .ok (.iload 7, 2) := by decide +kernel
theorem dX3_choose_115 : decode cX3_choose 115 = .ok (.aload_n 0, 1) := by decide +kernel
theorem dX3_choose_116 : decode cX3_choose 116 = .ok (.getfield 11, 3) := by decide +kernel
theorem dX3_choose_119 : decode cX3_choose 119 = .ok (.iload_n 3, 1) := by decide +kernel
theorem dX3_choose_120 : decode cX3_choose 120 = .ok (.iaload, 1) := by decide +kernel
theorem dX3_choose_121 : decode cX3_choose 121 = .ok (.if_icmp .lt 25, 3) := by decide +kernel
theorem dX3_choose_124 : decode cX3_choose 124 = .ok (.iload 7, 2) := by decide +kernel
theorem dX3_choose_126 : decode cX3_choose 126 = .ok (.aload_n 0, 1) := by decide +kernel
theorem dX3_choose_127 : decode cX3_choose 127 = .ok (.getfield 11, 3) := by decide +kernel
theorem dX3_choose_130 : decode cX3_choose 130 = .ok (.iload_n 3, 1) := by decide +kernel
theorem dX3_choose_131 : decode cX3_choose 131 = .ok (.iaload, 1) := by decide +kernel
theorem dX3_choose_132 : decode cX3_choose 132 = .ok (.if_icmp .ne 38, 3) := by decide +kernel
theorem dX3_choose_135 : decode cX3_choose 135 = .ok (.iload 8, 2) := by decide +kernel
theorem dX3_choose_137 : decode cX3_choose 137 = .ok (.aload_n 0, 1) := by decide +kernel
theorem dX3_choose_138 : decode cX3_choose 138 = .ok (.getfield 17, 3) := by decide +kernel
theorem dX3_choose_141 : decode cX3_choose 141 = .ok (.iload_n 3, 1) := by decide +kernel
theorem dX3_choose_142 : decode cX3_choose 142 = .ok (.iaload, 1) := by decide +kernel
theorem dX3_choose_143 : decode cX3_choose 143 = .ok (.if_icmp .le 27, 3) := by decide +kernel
theorem dX3_choose_146 : decode cX3_choose 146 = .ok (.aload_n 0, 1) := by decide +kernel
theorem dX3_choose_147 : decode cX3_choose 147 = .ok (.getfield 11, 3) := by decide +kernel
theorem dX3_choose_150 : decode cX3_choose 150 = .ok (.iload_n 3, 1) := by decide +kernel
theorem dX3_choose_151 : decode cX3_choose 151 = .ok (.iload 7, 2) := by decide +kernel
theorem dX3_choose_153 : decode cX3_choose 153 = .ok (.iastore, 1) := by decide +kernel
theorem dX3_choose_154 : decode cX3_choose 154 = .ok (.aload_n 0, 1) := by decide +kernel
theorem dX3_choose_155 : decode cX3_choose 155 = .ok (.getfield 17, 3) := by decide +kernel
theorem dX3_choose_158 : decode cX3_choose 158 = .ok (.iload_n 3, 1) := by decide +kernel
theorem dX3_choose_159 : decode cX3_choose 159 = .ok (.iload 8, 2) := by decide +kernel
theorem dX3_choose_161 : decode cX3_choose 161 = .ok (.iastore, 1) := by decide +kernel
theorem dX3_choose_162 : decode cX3_choose 162 = .ok (.aload_n 0, 1) := by decide +kernel
theorem dX3_choose_163 : decode cX3_choose 163 = .ok (.getfield 20, 3) := by decide +kernel
theorem dX3_choose_166 : decode cX3_choose 166 = .ok (.iload_n 3, 1) := by decide +kernel
theorem dX3_choose_167 : decode cX3_choose 167 = .ok (.iload 4, 2) := by decide +kernel
theorem dX3_choose_169 : decode cX3_choose 169 = .ok (.iastore, 1) := by decide +kernel
theorem dX3_choose_170 : decode cX3_choose 170 = .ok (.iinc 4 1, 3) := by decide +kernel
theorem dX3_choose_173 : decode cX3_choose 173 = .ok (.goto (-154), 3) := by decide +kernel
theorem dX3_choose_176 : decode cX3_choose 176 = .ok (.return_, 1) := by decide +kernel
abbrev rm_X3_choose : Room := { frames := 2, cells := 0, slots := 0, locals := 93 }
def f_X3_choose_146 (r1 rn1 : Nat) (N : Nat) (k19 : Int32 → Int32 → Int32 → St → Option St) (x2 : Int32) (x3 : Int32) (x4 : Int32) (x7 : Int32) (x8 : Int32) (σ : St) : Option St := grd (ib x3 25) (grd (ib x3 25) (grd (ib x3 25) (k19 x2 x3 (x4 + 1) (si (si (si σ 41 x3.toNatClampNeg x7) 42 x3.toNatClampNeg x8) 43 x3.toNatClampNeg x4))))
def f_X3_choose_19 (r1 rn1 : Nat) (N : Nat) : Nat → Int32 → Int32 → Int32 → St → Option St
  | 0, _, _, _, _ => none
  | n + 1, x2, x3, x4, σ => (if 11 ≤ x4 then some σ else grd (ib x4 11) ((if x2 < (x3 + (st_3.getD x4.toNatClampNeg 0)) then f_X3_choose_19 r1 rn1 N n x2 x3 (x4 + 1) σ else grd (ib (x3 + (st_3.getD x4.toNatClampNeg 0)) 25) ((if (σ.1 41 (x3 + (st_3.getD x4.toNatClampNeg 0)).toNatClampNeg) < 1000 then bo (f_X3_edgeIn r1 rn1 N x4 x3 σ) (fun r8_ => bo (f_X6_isLegible 1 r8_ σ) (fun r9_ => (if r9_ = 0 then f_X3_choose_19 r1 rn1 N n x2 x3 (x4 + 1) σ else grd (ib (x3 + (st_3.getD x4.toNatClampNeg 0)) 25) (grd (ib (x3 + (st_3.getD x4.toNatClampNeg 0)) 25) (bo (f_X6_percentOf 1 r8_ σ) (fun r13_ => grd (ib x3 25) ((if ((σ.1 41 (x3 + (st_3.getD x4.toNatClampNeg 0)).toNatClampNeg) + 1) < (σ.1 41 x3.toNatClampNeg) then f_X3_choose_146 r1 rn1 N (f_X3_choose_19 r1 rn1 N n) x2 x3 x4 ((σ.1 41 (x3 + (st_3.getD x4.toNatClampNeg 0)).toNatClampNeg) + 1) ((σ.1 42 (x3 + (st_3.getD x4.toNatClampNeg 0)).toNatClampNeg) + r13_) σ else grd (ib x3 25) ((if ((σ.1 41 (x3 + (st_3.getD x4.toNatClampNeg 0)).toNatClampNeg) + 1) = (σ.1 41 x3.toNatClampNeg) then grd (ib x3 25) ((if ((σ.1 42 (x3 + (st_3.getD x4.toNatClampNeg 0)).toNatClampNeg) + r13_) ≤ (σ.1 42 x3.toNatClampNeg) then f_X3_choose_19 r1 rn1 N n x2 x3 (x4 + 1) σ else f_X3_choose_146 r1 rn1 N (f_X3_choose_19 r1 rn1 N n) x2 x3 x4 ((σ.1 41 (x3 + (st_3.getD x4.toNatClampNeg 0)).toNatClampNeg) + 1) ((σ.1 42 (x3 + (st_3.getD x4.toNatClampNeg 0)).toNatClampNeg) + r13_) σ)) else f_X3_choose_19 r1 rn1 N n x2 x3 (x4 + 1) σ)))))))))) else f_X3_choose_19 r1 rn1 N n x2 x3 (x4 + 1) σ)))))
def f_X3_choose (r1 rn1 : Nat) (N : Nat) (x2 : Int32) (x3 : Int32) (σ : St) : Option St := grd (ib x3 25) (grd (ib x3 25) (f_X3_choose_19 r1 rn1 N N x2 x3 0 (si (si σ 41 x3.toNatClampNeg 1000) 42 x3.toNatClampNeg 0)))
section
variable {p : Program} {l : Launch} {e : Env} {s : State} {m : MethodId} {args : Array Value} {below : List Frame} {meth : Method} {c : Code} {g : XG}
set_option maxRecDepth 4000 in
theorem w_X3_choose_146 (r1 rn1 : Nat) (hr1 : KX[r1]? = some (.inr (0, rn1))) (N : Nat) (k19 : Int32 → Int32 → Int32 → St → Option St) {σ' : St} (C : xC KX g RX3 cX3_choose 9 none p s m args meth c) (hk19 : ∀ (x2 : Int32) (x3 : Int32) (x4 : Int32) (σ : St) (H : Heap) (locs : List Loc) (ls : Array Slot), xW KX g s σ H locs → lv_has ls 9 [(0, .ref (g.q 40)), (1, .ref (g.q r1)), (2, .int x2), (3, .int x3), (4, .int x4)] → k19 x2 x3 x4 σ = some σ' → W p l e rm_X3_choose s m args below meth c H locs 0 0 (MQ below (xPost KX g none σ') args s 0 0 (xA KX g.q)) (F0 m 19 ls [])) : ∀ (x2 : Int32) (x3 : Int32) (x4 : Int32) (x7 : Int32) (x8 : Int32) (σ : St) (H : Heap) (locs : List Loc) (ls : Array Slot), xW KX g s σ H locs → lv_has ls 9 [(0, .ref (g.q 40)), (1, .ref (g.q r1)), (2, .int x2), (3, .int x3), (4, .int x4), (7, .int x7), (8, .int x8)] → f_X3_choose_146 r1 rn1 N k19 x2 x3 x4 x7 x8 σ = some σ' → W p l e rm_X3_choose s m args below meth c H locs 0 0 (MQ below (xPost KX g none σ') args s 0 0 (xA KX g.q)) (F0 m 146 ls []) := by
  have hx := C.1
  have hb := C.2.1
  intro x2 x3 x4 x7 x8 σ H locs ls hW hl h
  unfold f_X3_choose_146 at h
  refine lv_aload_n hx hb dX3_choose_146 rfl (lv_at hl 0 rfl) ?_
  refine xg_r C hW fg_3_11 KX_40 rfl dX3_choose_147 ?_
  refine lv_iload_n hx hb dX3_choose_150 rfl (lv_at hl 3 rfl) ?_
  refine lv_iload hx hb dX3_choose_151 (lv_at hl 5 rfl) ?_
  obtain ⟨g20, h⟩ := xgd h
  refine xs_i C hW KX_41 g20 dX3_choose_153 (fun H locs hW => ?_)
  refine lv_aload_n hx hb dX3_choose_154 rfl (lv_at hl 0 rfl) ?_
  refine xg_r C hW fg_3_17 KX_40 rfl dX3_choose_155 ?_
  refine lv_iload_n hx hb dX3_choose_158 rfl (lv_at hl 3 rfl) ?_
  refine lv_iload hx hb dX3_choose_159 (lv_at hl 6 rfl) ?_
  obtain ⟨g21, h⟩ := xgd h
  refine xs_i C hW KX_42 g21 dX3_choose_161 (fun H locs hW => ?_)
  refine lv_aload_n hx hb dX3_choose_162 rfl (lv_at hl 0 rfl) ?_
  refine xg_r C hW fg_3_20 KX_40 rfl dX3_choose_163 ?_
  refine lv_iload_n hx hb dX3_choose_166 rfl (lv_at hl 3 rfl) ?_
  refine lv_iload hx hb dX3_choose_167 (lv_at hl 4 rfl) ?_
  obtain ⟨g22, h⟩ := xgd h
  refine xs_i C hW KX_43 g22 dX3_choose_169 (fun H locs hW => ?_)
  refine lv_iinc (v := x4 + 1) (lv' := [(4, .int (x4 + 1)), (0, .ref (g.q 40)), (1, .ref (g.q r1)), (2, .int x2), (3, .int x3), (7, .int x7), (8, .int x8)]) hx hb dX3_choose_170 hl (k := 4) rfl rfl (Nat.le_of_ble_eq_true rfl) rfl (fun ls hl => ?_)
  refine lv_goto (tgt := 19) hx hb dX3_choose_173 (by decide) ?_
  exact hk19 x2 x3 (x4 + 1) _ _ _ _ hW (lv_sub hl [1, 2, 3, 4, 0] rfl) h
set_option maxRecDepth 4000 in
theorem w_X3_choose_19 (r1 rn1 : Nat) (hr1 : KX[r1]? = some (.inr (0, rn1))) (N : Nat) {σ' : St} (C : xC KX g RX3 cX3_choose 9 none p s m args meth c) : ∀ (n : Nat), ∀ (x2 : Int32) (x3 : Int32) (x4 : Int32) (σ : St) (H : Heap) (locs : List Loc) (ls : Array Slot), xW KX g s σ H locs → lv_has ls 9 [(0, .ref (g.q 40)), (1, .ref (g.q r1)), (2, .int x2), (3, .int x3), (4, .int x4)] → f_X3_choose_19 r1 rn1 N n x2 x3 x4 σ = some σ' → W p l e rm_X3_choose s m args below meth c H locs 0 0 (MQ below (xPost KX g none σ') args s 0 0 (xA KX g.q)) (F0 m 19 ls []) := by
  have hx := C.1
  have hb := C.2.1
  intro n
  induction n with
  | zero => intro x2 x3 x4 σ H locs ls hW hl h; rw [f_X3_choose_19] at h; cases h
  | succ n ih =>
    intro x2 x3 x4 σ H locs ls hW hl h
    rw [f_X3_choose_19] at h
    refine lv_iload hx hb dX3_choose_19 (lv_at hl 4 rfl) ?_
    refine lv_bipush (v := 11) hx hb dX3_choose_21 rfl ?_
    refine lv_icmp_ge (tgt := 176) hx hb dX3_choose_23 (by decide) (fun c3 => ?_) (fun c3 => ?_)
    · have h := xit c3 h
      cases h
      exact xr_v C hW dX3_choose_176
    · have h := xif c3 h
      refine lv_iload_n hx hb dX3_choose_26 rfl (lv_at hl 3 rfl) ?_
      refine xt_r (i := 3) C hW xst_3 fs_X3_45 dX3_choose_27 ?_
      refine lv_iload hx hb dX3_choose_30 (lv_at hl 4 rfl) ?_
      obtain ⟨g4, h⟩ := xgd h
      refine xt_i C hW xst_3 g4 dX3_choose_32 ?_
      refine lv_iadd hx hb dX3_choose_33 ?_
      refine lv_istore (lv' := [(5, .int (x3 + (st_3.getD x4.toNatClampNeg 0))), (0, .ref (g.q 40)), (1, .ref (g.q r1)), (2, .int x2), (3, .int x3), (4, .int x4)]) hx hb dX3_choose_34 hl (Nat.le_of_ble_eq_true rfl) rfl (fun ls hl => ?_)
      refine lv_iload hx hb dX3_choose_36 (lv_at hl 0 rfl) ?_
      refine lv_iload_n hx hb dX3_choose_38 rfl (lv_at hl 3 rfl) ?_
      refine lv_icmp_gt (tgt := 170) hx hb dX3_choose_39 (by decide) (fun c5 => ?_) (fun c5 => ?_)
      · have h := xit c5 h
        refine lv_iinc (v := x4 + 1) (lv' := [(4, .int (x4 + 1)), (5, .int (x3 + (st_3.getD x4.toNatClampNeg 0))), (0, .ref (g.q 40)), (1, .ref (g.q r1)), (2, .int x2), (3, .int x3)]) hx hb dX3_choose_170 hl (k := 5) rfl rfl (Nat.le_of_ble_eq_true rfl) rfl (fun ls hl => ?_)
        refine lv_goto (tgt := 19) hx hb dX3_choose_173 (by decide) ?_
        exact ih x2 x3 (x4 + 1) _ _ _ _ hW (lv_sub hl [2, 3, 4, 5, 0] rfl) h
      · have h := xif c5 h
        refine lv_aload_n hx hb dX3_choose_42 rfl (lv_at hl 1 rfl) ?_
        refine xg_r C hW fg_3_11 KX_40 rfl dX3_choose_43 ?_
        refine lv_iload hx hb dX3_choose_46 (lv_at hl 0 rfl) ?_
        obtain ⟨g6, h⟩ := xgd h
        refine xa_i C hW KX_41 g6 (x := σ.1 41 (x3 + (st_3.getD x4.toNatClampNeg 0)).toNatClampNeg) rfl dX3_choose_48 ?_
        refine lv_sipush (v := 1000) hx hb dX3_choose_49 rfl ?_
        refine lv_icmp_lt (tgt := 58) hx hb dX3_choose_52 (by decide) (fun c7 => ?_) (fun c7 => ?_)
        · have h := xit c7 h
          refine lv_aload_n hx hb dX3_choose_58 rfl (lv_at hl 1 rfl) ?_
          refine lv_iload hx hb dX3_choose_59 (lv_at hl 5 rfl) ?_
          refine lv_aload_n hx hb dX3_choose_61 rfl (lv_at hl 2 rfl) ?_
          refine lv_iload_n hx hb dX3_choose_62 rfl (lv_at hl 4 rfl) ?_
          obtain ⟨r8_, e8, h⟩ := xbo h
          refine xc_V (As := [.int x4, .ref (g.q r1), .int x3]) (rest := []) C hW (m_X3_edgeIn r1 rn1 hr1 N x4 x3 _ e8) mf_X3_edgeIn mv_X3_edgeIn ml_X3_48 ⟨rfl, rfl⟩ ⟨Nat.le_of_ble_eq_true rfl, Nat.le_of_ble_eq_true rfl⟩ KX_40 rfl hl.1 rfl rfl (Nat.le_of_ble_eq_true rfl) dX3_choose_63 (fun H locs hW => W.eq (g2 := F0 m 66 ls [.int r8_]) rfl ?_)
          refine lv_istore (lv' := [(6, .int r8_), (5, .int (x3 + (st_3.getD x4.toNatClampNeg 0))), (0, .ref (g.q 40)), (1, .ref (g.q r1)), (2, .int x2), (3, .int x3), (4, .int x4)]) hx hb dX3_choose_66 hl (Nat.le_of_ble_eq_true rfl) rfl (fun ls hl => ?_)
          refine lv_aload_n hx hb dX3_choose_68 rfl (lv_at hl 2 rfl) ?_
          refine xg_r C hW fg_3_29 KX_40 rfl dX3_choose_69 ?_
          refine lv_iload hx hb dX3_choose_72 (lv_at hl 0 rfl) ?_
          obtain ⟨r9_, e9, h⟩ := xbo h
          refine xc_V (As := [.int r8_]) (rest := []) C hW (m_X6_isLegible 1 (Or.inl rfl) r8_ _ e9) mf_X6_isLegible mv_X6_isLegible ml_X3_52 ⟨rfl, rfl⟩ ⟨Nat.le_of_ble_eq_true rfl, Nat.le_of_ble_eq_true rfl⟩ (KX_sl (Or.inl rfl)) rfl hl.1 rfl rfl (Nat.le_of_ble_eq_true rfl) dX3_choose_74 (fun H locs hW => W.eq (g2 := F0 m 77 ls [.int r9_]) rfl ?_)
          refine lv_if_ne (tgt := 83) hx hb dX3_choose_77 (by decide) (fun c10 => ?_) (fun c10 => ?_)
          · have h := xif c10 h
            refine lv_aload_n hx hb dX3_choose_83 rfl (lv_at hl 2 rfl) ?_
            refine xg_r C hW fg_3_11 KX_40 rfl dX3_choose_84 ?_
            refine lv_iload hx hb dX3_choose_87 (lv_at hl 1 rfl) ?_
            obtain ⟨g11, h⟩ := xgd h
            refine xa_i C hW KX_41 g11 (x := σ.1 41 (x3 + (st_3.getD x4.toNatClampNeg 0)).toNatClampNeg) rfl dX3_choose_89 ?_
            refine lv_iconst (v := 1) hx hb dX3_choose_90 rfl ?_
            refine lv_iadd hx hb dX3_choose_91 ?_
            refine lv_istore (lv' := [(7, .int ((σ.1 41 (x3 + (st_3.getD x4.toNatClampNeg 0)).toNatClampNeg) + 1)), (6, .int r8_), (5, .int (x3 + (st_3.getD x4.toNatClampNeg 0))), (0, .ref (g.q 40)), (1, .ref (g.q r1)), (2, .int x2), (3, .int x3), (4, .int x4)]) hx hb dX3_choose_92 hl (Nat.le_of_ble_eq_true rfl) rfl (fun ls hl => ?_)
            refine lv_aload_n hx hb dX3_choose_94 rfl (lv_at hl 3 rfl) ?_
            refine xg_r C hW fg_3_17 KX_40 rfl dX3_choose_95 ?_
            refine lv_iload hx hb dX3_choose_98 (lv_at hl 2 rfl) ?_
            obtain ⟨g12, h⟩ := xgd h
            refine xa_i C hW KX_42 g12 (x := σ.1 42 (x3 + (st_3.getD x4.toNatClampNeg 0)).toNatClampNeg) rfl dX3_choose_100 ?_
            refine lv_aload_n hx hb dX3_choose_101 rfl (lv_at hl 3 rfl) ?_
            refine xg_r C hW fg_3_29 KX_40 rfl dX3_choose_102 ?_
            refine lv_iload hx hb dX3_choose_105 (lv_at hl 1 rfl) ?_
            obtain ⟨r13_, e13, h⟩ := xbo h
            refine xc_V (As := [.int r8_]) (rest := [.int (σ.1 42 (x3 + (st_3.getD x4.toNatClampNeg 0)).toNatClampNeg)]) C hW (m_X6_percentOf 1 (Or.inl rfl) r8_ _ e13) mf_X6_percentOf mv_X6_percentOf ml_X3_58 ⟨rfl, rfl⟩ ⟨Nat.le_of_ble_eq_true rfl, Nat.le_of_ble_eq_true rfl⟩ (KX_sl (Or.inl rfl)) rfl hl.1 rfl rfl (Nat.le_of_ble_eq_true rfl) dX3_choose_107 (fun H locs hW => W.eq (g2 := F0 m 110 ls [.int r13_, .int (σ.1 42 (x3 + (st_3.getD x4.toNatClampNeg 0)).toNatClampNeg)]) rfl ?_)
            refine lv_iadd hx hb dX3_choose_110 ?_
            refine lv_istore (lv' := [(8, .int ((σ.1 42 (x3 + (st_3.getD x4.toNatClampNeg 0)).toNatClampNeg) + r13_)), (7, .int ((σ.1 41 (x3 + (st_3.getD x4.toNatClampNeg 0)).toNatClampNeg) + 1)), (6, .int r8_), (5, .int (x3 + (st_3.getD x4.toNatClampNeg 0))), (0, .ref (g.q 40)), (1, .ref (g.q r1)), (2, .int x2), (3, .int x3), (4, .int x4)]) hx hb dX3_choose_111 hl (Nat.le_of_ble_eq_true rfl) rfl (fun ls hl => ?_)
            refine lv_iload hx hb dX3_choose_113 (lv_at hl 1 rfl) ?_
            refine lv_aload_n hx hb dX3_choose_115 rfl (lv_at hl 4 rfl) ?_
            refine xg_r C hW fg_3_11 KX_40 rfl dX3_choose_116 ?_
            refine lv_iload_n hx hb dX3_choose_119 rfl (lv_at hl 7 rfl) ?_
            obtain ⟨g14, h⟩ := xgd h
            refine xa_i C hW KX_41 g14 (x := σ.1 41 x3.toNatClampNeg) rfl dX3_choose_120 ?_
            refine lv_icmp_lt (tgt := 146) hx hb dX3_choose_121 (by decide) (fun c15 => ?_) (fun c15 => ?_)
            · have h := xit c15 h
              exact w_X3_choose_146 r1 rn1 hr1 N (f_X3_choose_19 r1 rn1 N n) C ih x2 x3 x4 ((σ.1 41 (x3 + (st_3.getD x4.toNatClampNeg 0)).toNatClampNeg) + 1) ((σ.1 42 (x3 + (st_3.getD x4.toNatClampNeg 0)).toNatClampNeg) + r13_) _ _ _ _ hW (lv_sub hl [4, 5, 6, 7, 8, 1, 0] rfl) h
            · have h := xif c15 h
              refine lv_iload hx hb dX3_choose_124 (lv_at hl 1 rfl) ?_
              refine lv_aload_n hx hb dX3_choose_126 rfl (lv_at hl 4 rfl) ?_
              refine xg_r C hW fg_3_11 KX_40 rfl dX3_choose_127 ?_
              refine lv_iload_n hx hb dX3_choose_130 rfl (lv_at hl 7 rfl) ?_
              obtain ⟨g16, h⟩ := xgd h
              refine xa_i C hW KX_41 g16 (x := σ.1 41 x3.toNatClampNeg) rfl dX3_choose_131 ?_
              refine lv_icmp_ne (tgt := 170) hx hb dX3_choose_132 (by decide) (fun c17 => ?_) (fun c17 => ?_)
              · have h := xif c17 h
                refine lv_iinc (v := x4 + 1) (lv' := [(4, .int (x4 + 1)), (8, .int ((σ.1 42 (x3 + (st_3.getD x4.toNatClampNeg 0)).toNatClampNeg) + r13_)), (7, .int ((σ.1 41 (x3 + (st_3.getD x4.toNatClampNeg 0)).toNatClampNeg) + 1)), (6, .int r8_), (5, .int (x3 + (st_3.getD x4.toNatClampNeg 0))), (0, .ref (g.q 40)), (1, .ref (g.q r1)), (2, .int x2), (3, .int x3)]) hx hb dX3_choose_170 hl (k := 8) rfl rfl (Nat.le_of_ble_eq_true rfl) rfl (fun ls hl => ?_)
                refine lv_goto (tgt := 19) hx hb dX3_choose_173 (by decide) ?_
                exact ih x2 x3 (x4 + 1) _ _ _ _ hW (lv_sub hl [5, 6, 7, 8, 0] rfl) h
              · have h := xit c17 h
                refine lv_iload hx hb dX3_choose_135 (lv_at hl 0 rfl) ?_
                refine lv_aload_n hx hb dX3_choose_137 rfl (lv_at hl 4 rfl) ?_
                refine xg_r C hW fg_3_17 KX_40 rfl dX3_choose_138 ?_
                refine lv_iload_n hx hb dX3_choose_141 rfl (lv_at hl 7 rfl) ?_
                obtain ⟨g18, h⟩ := xgd h
                refine xa_i C hW KX_42 g18 (x := σ.1 42 x3.toNatClampNeg) rfl dX3_choose_142 ?_
                refine lv_icmp_le (tgt := 170) hx hb dX3_choose_143 (by decide) (fun c19 => ?_) (fun c19 => ?_)
                · have h := xit c19 h
                  refine lv_iinc (v := x4 + 1) (lv' := [(4, .int (x4 + 1)), (8, .int ((σ.1 42 (x3 + (st_3.getD x4.toNatClampNeg 0)).toNatClampNeg) + r13_)), (7, .int ((σ.1 41 (x3 + (st_3.getD x4.toNatClampNeg 0)).toNatClampNeg) + 1)), (6, .int r8_), (5, .int (x3 + (st_3.getD x4.toNatClampNeg 0))), (0, .ref (g.q 40)), (1, .ref (g.q r1)), (2, .int x2), (3, .int x3)]) hx hb dX3_choose_170 hl (k := 8) rfl rfl (Nat.le_of_ble_eq_true rfl) rfl (fun ls hl => ?_)
                  refine lv_goto (tgt := 19) hx hb dX3_choose_173 (by decide) ?_
                  exact ih x2 x3 (x4 + 1) _ _ _ _ hW (lv_sub hl [5, 6, 7, 8, 0] rfl) h
                · have h := xif c19 h
                  exact w_X3_choose_146 r1 rn1 hr1 N (f_X3_choose_19 r1 rn1 N n) C ih x2 x3 x4 ((σ.1 41 (x3 + (st_3.getD x4.toNatClampNeg 0)).toNatClampNeg) + 1) ((σ.1 42 (x3 + (st_3.getD x4.toNatClampNeg 0)).toNatClampNeg) + r13_) _ _ _ _ hW (lv_sub hl [4, 5, 6, 7, 8, 1, 0] rfl) h
          · have h := xit c10 h
            refine lv_goto (tgt := 170) hx hb dX3_choose_80 (by decide) ?_
            refine lv_iinc (v := x4 + 1) (lv' := [(4, .int (x4 + 1)), (6, .int r8_), (5, .int (x3 + (st_3.getD x4.toNatClampNeg 0))), (0, .ref (g.q 40)), (1, .ref (g.q r1)), (2, .int x2), (3, .int x3)]) hx hb dX3_choose_170 hl (k := 6) rfl rfl (Nat.le_of_ble_eq_true rfl) rfl (fun ls hl => ?_)
            refine lv_goto (tgt := 19) hx hb dX3_choose_173 (by decide) ?_
            exact ih x2 x3 (x4 + 1) _ _ _ _ hW (lv_sub hl [3, 4, 5, 6, 0] rfl) h
        · have h := xif c7 h
          refine lv_goto (tgt := 170) hx hb dX3_choose_55 (by decide) ?_
          refine lv_iinc (v := x4 + 1) (lv' := [(4, .int (x4 + 1)), (5, .int (x3 + (st_3.getD x4.toNatClampNeg 0))), (0, .ref (g.q 40)), (1, .ref (g.q r1)), (2, .int x2), (3, .int x3)]) hx hb dX3_choose_170 hl (k := 5) rfl rfl (Nat.le_of_ble_eq_true rfl) rfl (fun ls hl => ?_)
          refine lv_goto (tgt := 19) hx hb dX3_choose_173 (by decide) ?_
          exact ih x2 x3 (x4 + 1) _ _ _ _ hW (lv_sub hl [2, 3, 4, 5, 0] rfl) h
set_option maxRecDepth 4000 in
theorem m_X3_choose (r1 rn1 : Nat) (hr1 : KX[r1]? = some (.inr (0, rn1))) (N : Nat) (x2 : Int32) (x3 : Int32) (σ : St) {σ' : St} (h : f_X3_choose r1 rn1 N x2 x3 σ = some σ') : xM l KX g yX3_choose cX3_choose 9 none rm_X3_choose [.ref (g.q 40), .ref (g.q r1), .int x2, .int x3] σ none σ' := by
  refine xmet pn_X3 rfl (Nat.le_of_ble_eq_true rfl) (lv := [(0, .ref (g.q 40)), (1, .ref (g.q r1)), (2, .int x2), (3, .int x3)]) rfl (fun p e s m args below meth c ls C hW hl => ?_)
  have hx := C.1
  have hb := C.2.1
  unfold f_X3_choose at h
  refine lv_aload_n hx hb dX3_choose_0 rfl (lv_at hl 0 rfl) ?_
  refine xg_r C hW fg_3_11 KX_40 rfl dX3_choose_1 ?_
  refine lv_iload_n hx hb dX3_choose_4 rfl (lv_at hl 3 rfl) ?_
  refine lv_sipush (v := 1000) hx hb dX3_choose_5 rfl ?_
  obtain ⟨g1, h⟩ := xgd h
  refine xs_i C hW KX_41 g1 dX3_choose_8 (fun H locs hW => ?_)
  refine lv_aload_n hx hb dX3_choose_9 rfl (lv_at hl 0 rfl) ?_
  refine xg_r C hW fg_3_17 KX_40 rfl dX3_choose_10 ?_
  refine lv_iload_n hx hb dX3_choose_13 rfl (lv_at hl 3 rfl) ?_
  refine lv_iconst (v := 0) hx hb dX3_choose_14 rfl ?_
  obtain ⟨g2, h⟩ := xgd h
  refine xs_i C hW KX_42 g2 dX3_choose_15 (fun H locs hW => ?_)
  refine lv_iconst (v := 0) hx hb dX3_choose_16 rfl ?_
  refine lv_istore (lv' := [(4, .int 0), (0, .ref (g.q 40)), (1, .ref (g.q r1)), (2, .int x2), (3, .int x3)]) hx hb dX3_choose_17 hl (Nat.le_of_ble_eq_true rfl) rfl (fun ls hl => ?_)
  exact w_X3_choose_19 r1 rn1 hr1 N C N x2 x3 0 _ _ _ _ hW (lv_sub hl [1, 2, 3, 4, 0] rfl) h
end
theorem dX3_keepChoices_0 : decode cX3_keepChoices 0 = .ok (.aload_n 0, 1) := by decide +kernel
theorem dX3_keepChoices_1 : decode cX3_keepChoices 1 = .ok (.iconst 0, 1) := by decide +kernel
theorem dX3_keepChoices_2 : decode cX3_keepChoices 2 = .ok (.putfield 33, 3) := by decide +kernel
theorem dX3_keepChoices_5 : decode cX3_keepChoices 5 = .ok (.iconst 0, 1) := by decide +kernel
theorem dX3_keepChoices_6 : decode cX3_keepChoices 6 = .ok (.istore_n 3, 1) := by decide +kernel
theorem dX3_keepChoices_7 : decode cX3_keepChoices 7 = .ok (.iconst 0, 1) := by decide +kernel
theorem dX3_keepChoices_8 : decode cX3_keepChoices 8 = .ok (.istore 4, 2) := by decide +kernel
theorem dX3_keepChoices_10 : decode cX3_keepChoices 10 = .ok (.iload 4, 2) := by decide +kernel
theorem dX3_keepChoices_12 : decode cX3_keepChoices 12 = .ok (.iload_n 2, 1) := by decide +kernel
theorem dX3_keepChoices_13 : decode cX3_keepChoices 13 = .ok (.if_icmp .ge 72, 3) := by decide +kernel
theorem dX3_keepChoices_16 : decode cX3_keepChoices 16 = .ok (.iload_n 3, 1) := by decide +kernel
theorem dX3_keepChoices_17 : decode cX3_keepChoices 17 = .ok (.iload_n 2, 1) := by decide +kernel
theorem dX3_keepChoices_18 : decode cX3_keepChoices 18 = .ok (.if_icmp .ge 67, 3) := by decide +kernel
theorem dX3_keepChoices_21 : decode cX3_keepChoices 21 = .ok (.aload_n 0, 1) := by decide +kernel
theorem dX3_keepChoices_22 : decode cX3_keepChoices 22 = .ok (.getfield 20, 3) := by decide +kernel
theorem dX3_keepChoices_25 : decode cX3_keepChoices 25 = .ok (.iload_n 3, 1) := by decide +kernel
theorem dX3_keepChoices_26 : decode cX3_keepChoices 26 = .ok (.iaload, 1) := by decide +kernel
theorem dX3_keepChoices_27 : decode cX3_keepChoices 27 = .ok (.istore 5, 2) := by decide +kernel
theorem dX3_keepChoices_29 : decode cX3_keepChoices 29 = .ok (.aload_n 0, 1) := by decide +kernel
theorem dX3_keepChoices_30 : decode cX3_keepChoices 30 = .ok (.getfield 23, 3) := by decide +kernel
theorem dX3_keepChoices_33 : decode cX3_keepChoices 33 = .ok (.iload 4, 2) := by decide +kernel
theorem dX3_keepChoices_35 : decode cX3_keepChoices 35 = .ok (.iload 5, 2) := by decide +kernel
theorem dX3_keepChoices_37 : decode cX3_keepChoices 37 = .ok (.iastore, 1) := by decide +kernel
theorem dX3_keepChoices_38 : decode cX3_keepChoices 38 = .ok (.aload_n 0, 1) := by decide +kernel
theorem dX3_keepChoices_39 : decode cX3_keepChoices 39 = .ok (.getfield 26, 3) := by decide +kernel
theorem dX3_keepChoices_42 : decode cX3_keepChoices 42 = .ok (.iload 4, 2) := by decide +kernel
theorem dX3_keepChoices_44 : decode cX3_keepChoices 44 = .ok (.aload_n 0, 1) := by decide +kernel
theorem dX3_keepChoices_45 : decode cX3_keepChoices 45 = .ok (.getfield 29, 3) := by decide +kernel
theorem dX3_keepChoices_48 : decode cX3_keepChoices 48 = .ok (.aload_n 0, 1) := by decide +kernel
theorem dX3_keepChoices_49 : decode cX3_keepChoices 49 = .ok (.iload 5, 2) := by decide +kernel
theorem dX3_keepChoices_51 : decode cX3_keepChoices 51 = .ok (.aload_n 1, 1) := by decide +kernel
theorem dX3_keepChoices_52 : decode cX3_keepChoices 52 = .ok (.iload_n 3, 1) := by decide +kernel
theorem dX3_keepChoices_53 : decode cX3_keepChoices 53 = .ok (.invokevirtual 48, 3) := by decide +kernel
theorem dX3_keepChoices_56 : decode cX3_keepChoices 56 = .ok (.invokevirtual 58, 3) := by decide +kernel
theorem dX3_keepChoices_59 : decode cX3_keepChoices 59 = .ok (.iastore, 1) := by decide +kernel
theorem dX3_keepChoices_60 : decode cX3_keepChoices 60 = .ok (.aload_n 0, 1) := by decide +kernel
theorem dX3_keepChoices_61 : decode cX3_keepChoices 61 = .ok (.dup, 1) := by decide +kernel
theorem dX3_keepChoices_62 : decode cX3_keepChoices 62 = .ok (.getfield 33, 3) := by decide +kernel
theorem dX3_keepChoices_65 : decode cX3_keepChoices 65 = .ok (.iconst 1, 1) := by decide +kernel
theorem dX3_keepChoices_66 : decode cX3_keepChoices 66 = .ok (.iadd, 1) := by decide +kernel
theorem dX3_keepChoices_67 : decode cX3_keepChoices 67 = .ok (.putfield 33, 3) := by decide +kernel
theorem dX3_keepChoices_70 : decode cX3_keepChoices 70 = .ok (.iload_n 3, 1) := by decide +kernel
theorem dX3_keepChoices_71 : decode cX3_keepChoices 71 = .ok (.getstatic 45, 3) := by decide +kernel
theorem dX3_keepChoices_74 : decode cX3_keepChoices 74 = .ok (.iload 5, 2) := by decide +kernel
theorem dX3_keepChoices_76 : decode cX3_keepChoices 76 = .ok (.iaload, 1) := by decide +kernel
theorem dX3_keepChoices_77 : decode cX3_keepChoices 77 = .ok (.iadd, 1) := by decide +kernel
theorem dX3_keepChoices_78 : decode cX3_keepChoices 78 = .ok (.istore_n 3, 1) := by decide +kernel
theorem dX3_keepChoices_79 : decode cX3_keepChoices 79 = .ok (.iinc 4 1, 3) := by decide +kernel
theorem dX3_keepChoices_82 : decode cX3_keepChoices 82 = .ok (.goto (-72), 3) := by decide +kernel
theorem dX3_keepChoices_85 : decode cX3_keepChoices 85 = .ok (.return_, 1) := by decide +kernel
abbrev rm_X3_keepChoices : Room := { frames := 2, cells := 0, slots := 0, locals := 93 }
def f_X3_keepChoices_10 (r1 rn1 : Nat) (N : Nat) : Nat → Int32 → Int32 → Int32 → St → Option St
  | 0, _, _, _, _ => none
  | n + 1, x2, x3, x4, σ => (if x2 ≤ x4 then some σ else (if x2 ≤ x3 then some σ else grd (ib x3 25) (grd (ib x4 24) (bo (f_X3_edgeIn r1 rn1 N (σ.1 43 x3.toNatClampNeg) x3 (si σ 44 x4.toNatClampNeg (σ.1 43 x3.toNatClampNeg))) (fun r5_ => bo (f_X6_percentOf 1 r5_ (si σ 44 x4.toNatClampNeg (σ.1 43 x3.toNatClampNeg))) (fun r6_ => grd (ib x4 24) (grd (ib (σ.1 43 x3.toNatClampNeg) 11) (f_X3_keepChoices_10 r1 rn1 N n x2 (x3 + (st_3.getD (σ.1 43 x3.toNatClampNeg).toNatClampNeg 0)) (x4 + 1) (si (si (si σ 44 x4.toNatClampNeg (σ.1 43 x3.toNatClampNeg)) 45 x4.toNatClampNeg r6_) 9004 0 ((σ.1 9004 0) + 1))))))))))
def f_X3_keepChoices (r1 rn1 : Nat) (N : Nat) (x2 : Int32) (σ : St) : Option St := f_X3_keepChoices_10 r1 rn1 N N x2 0 0 (si σ 9004 0 0)
section
variable {p : Program} {l : Launch} {e : Env} {s : State} {m : MethodId} {args : Array Value} {below : List Frame} {meth : Method} {c : Code} {g : XG}
set_option maxRecDepth 4000 in
theorem w_X3_keepChoices_10 (r1 rn1 : Nat) (hr1 : KX[r1]? = some (.inr (0, rn1))) (N : Nat) {σ' : St} (C : xC KX g RX3 cX3_keepChoices 6 none p s m args meth c) : ∀ (n : Nat), ∀ (x2 : Int32) (x3 : Int32) (x4 : Int32) (σ : St) (H : Heap) (locs : List Loc) (ls : Array Slot), xW KX g s σ H locs → lv_has ls 6 [(0, .ref (g.q 40)), (1, .ref (g.q r1)), (2, .int x2), (3, .int x3), (4, .int x4)] → f_X3_keepChoices_10 r1 rn1 N n x2 x3 x4 σ = some σ' → W p l e rm_X3_keepChoices s m args below meth c H locs 0 0 (MQ below (xPost KX g none σ') args s 0 0 (xA KX g.q)) (F0 m 10 ls []) := by
  have hx := C.1
  have hb := C.2.1
  intro n
  induction n with
  | zero => intro x2 x3 x4 σ H locs ls hW hl h; rw [f_X3_keepChoices_10] at h; cases h
  | succ n ih =>
    intro x2 x3 x4 σ H locs ls hW hl h
    rw [f_X3_keepChoices_10] at h
    refine lv_iload hx hb dX3_keepChoices_10 (lv_at hl 4 rfl) ?_
    refine lv_iload_n hx hb dX3_keepChoices_12 rfl (lv_at hl 2 rfl) ?_
    refine lv_icmp_ge (tgt := 85) hx hb dX3_keepChoices_13 (by decide) (fun c1 => ?_) (fun c1 => ?_)
    · have h := xit c1 h
      cases h
      exact xr_v C hW dX3_keepChoices_85
    · have h := xif c1 h
      refine lv_iload_n hx hb dX3_keepChoices_16 rfl (lv_at hl 3 rfl) ?_
      refine lv_iload_n hx hb dX3_keepChoices_17 rfl (lv_at hl 2 rfl) ?_
      refine lv_icmp_ge (tgt := 85) hx hb dX3_keepChoices_18 (by decide) (fun c2 => ?_) (fun c2 => ?_)
      · have h := xit c2 h
        cases h
        exact xr_v C hW dX3_keepChoices_85
      · have h := xif c2 h
        refine lv_aload_n hx hb dX3_keepChoices_21 rfl (lv_at hl 0 rfl) ?_
        refine xg_r C hW fg_3_20 KX_40 rfl dX3_keepChoices_22 ?_
        refine lv_iload_n hx hb dX3_keepChoices_25 rfl (lv_at hl 3 rfl) ?_
        obtain ⟨g3, h⟩ := xgd h
        refine xa_i C hW KX_43 g3 (x := σ.1 43 x3.toNatClampNeg) rfl dX3_keepChoices_26 ?_
        refine lv_istore (lv' := [(5, .int (σ.1 43 x3.toNatClampNeg)), (0, .ref (g.q 40)), (1, .ref (g.q r1)), (2, .int x2), (3, .int x3), (4, .int x4)]) hx hb dX3_keepChoices_27 hl (Nat.le_of_ble_eq_true rfl) rfl (fun ls hl => ?_)
        refine lv_aload_n hx hb dX3_keepChoices_29 rfl (lv_at hl 1 rfl) ?_
        refine xg_r C hW fg_3_23 KX_40 rfl dX3_keepChoices_30 ?_
        refine lv_iload hx hb dX3_keepChoices_33 (lv_at hl 5 rfl) ?_
        refine lv_iload hx hb dX3_keepChoices_35 (lv_at hl 0 rfl) ?_
        obtain ⟨g4, h⟩ := xgd h
        refine xs_i C hW KX_44 g4 dX3_keepChoices_37 (fun H locs hW => ?_)
        refine lv_aload_n hx hb dX3_keepChoices_38 rfl (lv_at hl 1 rfl) ?_
        refine xg_r C hW fg_3_26 KX_40 rfl dX3_keepChoices_39 ?_
        refine lv_iload hx hb dX3_keepChoices_42 (lv_at hl 5 rfl) ?_
        refine lv_aload_n hx hb dX3_keepChoices_44 rfl (lv_at hl 1 rfl) ?_
        refine xg_r C hW fg_3_29 KX_40 rfl dX3_keepChoices_45 ?_
        refine lv_aload_n hx hb dX3_keepChoices_48 rfl (lv_at hl 1 rfl) ?_
        refine lv_iload hx hb dX3_keepChoices_49 (lv_at hl 0 rfl) ?_
        refine lv_aload_n hx hb dX3_keepChoices_51 rfl (lv_at hl 2 rfl) ?_
        refine lv_iload_n hx hb dX3_keepChoices_52 rfl (lv_at hl 4 rfl) ?_
        obtain ⟨r5_, e5, h⟩ := xbo h
        refine xc_V (As := [.int (σ.1 43 x3.toNatClampNeg), .ref (g.q r1), .int x3]) (rest := [.ref (g.q 1), .int x4, .ref (g.q 45)]) C hW (m_X3_edgeIn r1 rn1 hr1 N (σ.1 43 x3.toNatClampNeg) x3 _ e5) mf_X3_edgeIn mv_X3_edgeIn ml_X3_48 ⟨rfl, rfl⟩ ⟨Nat.le_of_ble_eq_true rfl, Nat.le_of_ble_eq_true rfl⟩ KX_40 rfl hl.1 rfl rfl (Nat.le_of_ble_eq_true rfl) dX3_keepChoices_53 (fun H locs hW => W.eq (g2 := F0 m 56 ls [.int r5_, .ref (g.q 1), .int x4, .ref (g.q 45)]) rfl ?_)
        obtain ⟨r6_, e6, h⟩ := xbo h
        refine xc_V (As := [.int r5_]) (rest := [.int x4, .ref (g.q 45)]) C hW (m_X6_percentOf 1 (Or.inl rfl) r5_ _ e6) mf_X6_percentOf mv_X6_percentOf ml_X3_58 ⟨rfl, rfl⟩ ⟨Nat.le_of_ble_eq_true rfl, Nat.le_of_ble_eq_true rfl⟩ (KX_sl (Or.inl rfl)) rfl hl.1 rfl rfl (Nat.le_of_ble_eq_true rfl) dX3_keepChoices_56 (fun H locs hW => W.eq (g2 := F0 m 59 ls [.int r6_, .int x4, .ref (g.q 45)]) rfl ?_)
        obtain ⟨g7, h⟩ := xgd h
        refine xs_i C hW KX_45 g7 dX3_keepChoices_59 (fun H locs hW => ?_)
        refine lv_aload_n hx hb dX3_keepChoices_60 rfl (lv_at hl 1 rfl) ?_
        refine lv_dup hx hb dX3_keepChoices_61 rfl ?_
        refine xg_i C hW fg_3_33 KX_40 rfl (v := 9004) rfl (x := σ.1 9004 0) rfl dX3_keepChoices_62 ?_
        refine lv_iconst (v := 1) hx hb dX3_keepChoices_65 rfl ?_
        refine lv_iadd hx hb dX3_keepChoices_66 ?_
        refine xp_i C hW fp_3_33 KX_40 rfl (v := 9004) rfl rfl rfl dX3_keepChoices_67 (fun H locs hW => ?_)
        refine lv_iload_n hx hb dX3_keepChoices_70 rfl (lv_at hl 4 rfl) ?_
        refine xt_r (i := 3) C hW xst_3 fs_X3_45 dX3_keepChoices_71 ?_
        refine lv_iload hx hb dX3_keepChoices_74 (lv_at hl 0 rfl) ?_
        obtain ⟨g8, h⟩ := xgd h
        refine xt_i C hW xst_3 g8 dX3_keepChoices_76 ?_
        refine lv_iadd hx hb dX3_keepChoices_77 ?_
        refine lv_istore_n (lv' := [(3, .int (x3 + (st_3.getD (σ.1 43 x3.toNatClampNeg).toNatClampNeg 0))), (5, .int (σ.1 43 x3.toNatClampNeg)), (0, .ref (g.q 40)), (1, .ref (g.q r1)), (2, .int x2), (4, .int x4)]) hx hb dX3_keepChoices_78 rfl hl (Nat.le_of_ble_eq_true rfl) rfl (fun ls hl => ?_)
        refine lv_iinc (v := x4 + 1) (lv' := [(4, .int (x4 + 1)), (3, .int (x3 + (st_3.getD (σ.1 43 x3.toNatClampNeg).toNatClampNeg 0))), (5, .int (σ.1 43 x3.toNatClampNeg)), (0, .ref (g.q 40)), (1, .ref (g.q r1)), (2, .int x2)]) hx hb dX3_keepChoices_79 hl (k := 5) rfl rfl (Nat.le_of_ble_eq_true rfl) rfl (fun ls hl => ?_)
        refine lv_goto (tgt := 10) hx hb dX3_keepChoices_82 (by decide) ?_
        exact ih x2 (x3 + (st_3.getD (σ.1 43 x3.toNatClampNeg).toNatClampNeg 0)) (x4 + 1) _ _ _ _ hW (lv_sub hl [3, 4, 5, 1, 0] rfl) h
set_option maxRecDepth 4000 in
theorem m_X3_keepChoices (r1 rn1 : Nat) (hr1 : KX[r1]? = some (.inr (0, rn1))) (N : Nat) (x2 : Int32) (σ : St) {σ' : St} (h : f_X3_keepChoices r1 rn1 N x2 σ = some σ') : xM l KX g yX3_keepChoices cX3_keepChoices 6 none rm_X3_keepChoices [.ref (g.q 40), .ref (g.q r1), .int x2] σ none σ' := by
  refine xmet pn_X3 rfl (Nat.le_of_ble_eq_true rfl) (lv := [(0, .ref (g.q 40)), (1, .ref (g.q r1)), (2, .int x2)]) rfl (fun p e s m args below meth c ls C hW hl => ?_)
  have hx := C.1
  have hb := C.2.1
  unfold f_X3_keepChoices at h
  refine lv_aload_n hx hb dX3_keepChoices_0 rfl (lv_at hl 0 rfl) ?_
  refine lv_iconst (v := 0) hx hb dX3_keepChoices_1 rfl ?_
  refine xp_i C hW fp_3_33 KX_40 rfl (v := 9004) rfl rfl rfl dX3_keepChoices_2 (fun H locs hW => ?_)
  refine lv_iconst (v := 0) hx hb dX3_keepChoices_5 rfl ?_
  refine lv_istore_n (lv' := [(3, .int 0), (0, .ref (g.q 40)), (1, .ref (g.q r1)), (2, .int x2)]) hx hb dX3_keepChoices_6 rfl hl (Nat.le_of_ble_eq_true rfl) rfl (fun ls hl => ?_)
  refine lv_iconst (v := 0) hx hb dX3_keepChoices_7 rfl ?_
  refine lv_istore (lv' := [(4, .int 0), (3, .int 0), (0, .ref (g.q 40)), (1, .ref (g.q r1)), (2, .int x2)]) hx hb dX3_keepChoices_8 hl (Nat.le_of_ble_eq_true rfl) rfl (fun ls hl => ?_)
  exact w_X3_keepChoices_10 r1 rn1 hr1 N C N x2 0 0 _ _ _ _ hW (lv_sub hl [2, 3, 4, 1, 0] rfl) h
end
theorem dX3_arrange_0 : decode cX3_arrange 0 = .ok (.aload_n 0, 1) := by decide +kernel
theorem dX3_arrange_1 : decode cX3_arrange 1 = .ok (.getfield 11, 3) := by decide +kernel
theorem dX3_arrange_4 : decode cX3_arrange 4 = .ok (.iload_n 2, 1) := by decide +kernel
theorem dX3_arrange_5 : decode cX3_arrange 5 = .ok (.iconst 0, 1) := by decide +kernel
theorem dX3_arrange_6 : decode cX3_arrange 6 = .ok (.iastore, 1) := by decide +kernel
theorem dX3_arrange_7 : decode cX3_arrange 7 = .ok (.aload_n 0, 1) := by decide +kernel
theorem dX3_arrange_8 : decode cX3_arrange 8 = .ok (.getfield 17, 3) := by decide +kernel
theorem dX3_arrange_11 : decode cX3_arrange 11 = .ok (.iload_n 2, 1) := by decide +kernel
theorem dX3_arrange_12 : decode cX3_arrange 12 = .ok (.iconst 0, 1) := by decide +kernel
theorem dX3_arrange_13 : decode cX3_arrange 13 = .ok (.iastore, 1) := by decide +kernel
theorem dX3_arrange_14 : decode cX3_arrange 14 = .ok (.iload_n 2, 1) := by decide +kernel
theorem dX3_arrange_15 : decode cX3_arrange 15 = .ok (.iconst 1, 1) := by decide +kernel
theorem dX3_arrange_16 : decode cX3_arrange 16 = .ok (.isub, 1) := by decide +kernel
theorem dX3_arrange_17 : decode cX3_arrange 17 = .ok (.istore_n 3, 1) := by decide +kernel
theorem dX3_arrange_18 : decode cX3_arrange 18 = .ok (.iload_n 3, 1) := by decide +kernel
theorem dX3_arrange_19 : decode cX3_arrange 19 = .ok (.ifCond .lt 16, 3) := by decide +kernel
theorem dX3_arrange_22 : decode cX3_arrange 22 = .ok (.aload_n 0, 1) := by decide +kernel
theorem dX3_arrange_23 : decode cX3_arrange 23 = .ok (.aload_n 1, 1) := by decide +kernel
theorem dX3_arrange_24 : decode cX3_arrange 24 = .ok (.iload_n 2, 1) := by decide +kernel
theorem dX3_arrange_25 : decode cX3_arrange 25 = .ok (.iload_n 3, 1) := by decide +kernel
theorem dX3_arrange_26 : decode cX3_arrange 26 = .ok (.invokevirtual 37, 3) := by decide +kernel
theorem dX3_arrange_29 : decode cX3_arrange 29 = .ok (.iinc 3 (-1), 3) := by decide +kernel
theorem dX3_arrange_32 : decode cX3_arrange 32 = .ok (.goto (-14), 3) := by decide +kernel
theorem dX3_arrange_35 : decode cX3_arrange 35 = .ok (.aload_n 0, 1) := by decide +kernel
theorem dX3_arrange_36 : decode cX3_arrange 36 = .ok (.getfield 11, 3) := by decide +kernel
theorem dX3_arrange_39 : decode cX3_arrange 39 = .ok (.iconst 0, 1) := by decide +kernel
theorem dX3_arrange_40 : decode cX3_arrange 40 = .ok (.iaload, 1) := by decide +kernel
theorem dX3_arrange_41 : decode cX3_arrange 41 = .ok (.sipush 1000, 3) := by decide +kernel
theorem dX3_arrange_44 : decode cX3_arrange 44 = .ok (.if_icmp .lt 5, 3) := by decide +kernel
theorem dX3_arrange_47 : decode cX3_arrange 47 = .ok (.iconst (-1), 1) := by decide +kernel
theorem dX3_arrange_48 : decode cX3_arrange 48 = .ok (.ireturn, 1) := by decide +kernel
theorem dX3_arrange_49 : decode cX3_arrange 49 = .ok (.aload_n 0, 1) := by decide +kernel
theorem dX3_arrange_50 : decode cX3_arrange 50 = .ok (.aload_n 1, 1) := by decide +kernel
theorem dX3_arrange_51 : decode cX3_arrange 51 = .ok (.iload_n 2, 1) := by decide +kernel
theorem dX3_arrange_52 : decode cX3_arrange 52 = .ok (.invokevirtual 41, 3) := by decide +kernel
theorem dX3_arrange_55 : decode cX3_arrange 55 = .ok (.aload_n 0, 1) := by decide +kernel
theorem dX3_arrange_56 : decode cX3_arrange 56 = .ok (.getfield 33, 3) := by decide +kernel
theorem dX3_arrange_59 : decode cX3_arrange 59 = .ok (.ireturn, 1) := by decide +kernel
abbrev rm_X3_arrange : Room := { frames := 3, cells := 0, slots := 0, locals := 121 }
def f_X3_arrange_18 (r1 rn1 : Nat) (N : Nat) : Nat → Int32 → Int32 → St → Option (Int32 × St)
  | 0, _, _, _ => none
  | n + 1, x2, x3, σ => (if x3 < 0 then grd (ib 0 25) ((if (σ.1 41 0) < 1000 then bo (f_X3_keepChoices r1 rn1 N x2 σ) (fun σ6 => some (σ6.1 9004 0, σ6)) else some ((-1), σ))) else bo (f_X3_choose r1 rn1 N x2 x3 σ) (fun σ7 => f_X3_arrange_18 r1 rn1 N n x2 (x3 + (-1)) σ7))
def f_X3_arrange (r1 rn1 : Nat) (N : Nat) (x2 : Int32) (σ : St) : Option (Int32 × St) := grd (ib x2 25) (grd (ib x2 25) (f_X3_arrange_18 r1 rn1 N N x2 (x2 - 1) (si (si σ 41 x2.toNatClampNeg 0) 42 x2.toNatClampNeg 0)))
section
variable {p : Program} {l : Launch} {e : Env} {s : State} {m : MethodId} {args : Array Value} {below : List Frame} {meth : Method} {c : Code} {g : XG}
set_option maxRecDepth 4000 in
theorem w_X3_arrange_18 (r1 rn1 : Nat) (hr1 : KX[r1]? = some (.inr (0, rn1))) (N : Nat) {r : Int32} {σ' : St} (C : xC KX g RX3 cX3_arrange 4 (some .int) p s m args meth c) : ∀ (n : Nat), ∀ (x2 : Int32) (x3 : Int32) (σ : St) (H : Heap) (locs : List Loc) (ls : Array Slot), xW KX g s σ H locs → lv_has ls 4 [(0, .ref (g.q 40)), (1, .ref (g.q r1)), (2, .int x2), (3, .int x3)] → f_X3_arrange_18 r1 rn1 N n x2 x3 σ = some (r, σ') → W p l e rm_X3_arrange s m args below meth c H locs 0 0 (MQ below (xPost KX g (some (.int r)) σ') args s 0 0 (xA KX g.q)) (F0 m 18 ls []) := by
  have hx := C.1
  have hb := C.2.1
  intro n
  induction n with
  | zero => intro x2 x3 σ H locs ls hW hl h; rw [f_X3_arrange_18] at h; cases h
  | succ n ih =>
    intro x2 x3 σ H locs ls hW hl h
    rw [f_X3_arrange_18] at h
    refine lv_iload_n hx hb dX3_arrange_18 rfl (lv_at hl 3 rfl) ?_
    refine lv_if_lt (tgt := 35) hx hb dX3_arrange_19 (by decide) (fun c3 => ?_) (fun c3 => ?_)
    · have h := xit c3 h
      refine lv_aload_n hx hb dX3_arrange_35 rfl (lv_at hl 0 rfl) ?_
      refine xg_r C hW fg_3_11 KX_40 rfl dX3_arrange_36 ?_
      refine lv_iconst (v := 0) hx hb dX3_arrange_39 rfl ?_
      obtain ⟨g4, h⟩ := xgd h
      refine xa_i C hW KX_41 g4 (x := σ.1 41 0) rfl dX3_arrange_40 ?_
      refine lv_sipush (v := 1000) hx hb dX3_arrange_41 rfl ?_
      refine lv_icmp_lt (tgt := 49) hx hb dX3_arrange_44 (by decide) (fun c5 => ?_) (fun c5 => ?_)
      · have h := xit c5 h
        refine lv_aload_n hx hb dX3_arrange_49 rfl (lv_at hl 0 rfl) ?_
        refine lv_aload_n hx hb dX3_arrange_50 rfl (lv_at hl 1 rfl) ?_
        refine lv_iload_n hx hb dX3_arrange_51 rfl (lv_at hl 2 rfl) ?_
        obtain ⟨σ6, e6, h⟩ := xbo h
        refine xc_V (As := [.ref (g.q r1), .int x2]) (rest := []) C hW (m_X3_keepChoices r1 rn1 hr1 N x2 _ e6) mf_X3_keepChoices mv_X3_keepChoices ml_X3_41 ⟨rfl, rfl⟩ ⟨Nat.le_of_ble_eq_true rfl, Nat.le_of_ble_eq_true rfl⟩ KX_40 rfl hl.1 rfl rfl (Nat.le_of_ble_eq_true rfl) dX3_arrange_52 (fun H locs hW => W.eq (g2 := F0 m 55 ls []) rfl ?_)
        refine lv_aload_n hx hb dX3_arrange_55 rfl (lv_at hl 0 rfl) ?_
        refine xg_i C hW fg_3_33 KX_40 rfl (v := 9004) rfl (x := σ6.1 9004 0) rfl dX3_arrange_56 ?_
        cases h
        exact xr_i C hW dX3_arrange_59
      · have h := xif c5 h
        refine lv_iconst (v := (-1)) hx hb dX3_arrange_47 rfl ?_
        cases h
        exact xr_i C hW dX3_arrange_48
    · have h := xif c3 h
      refine lv_aload_n hx hb dX3_arrange_22 rfl (lv_at hl 0 rfl) ?_
      refine lv_aload_n hx hb dX3_arrange_23 rfl (lv_at hl 1 rfl) ?_
      refine lv_iload_n hx hb dX3_arrange_24 rfl (lv_at hl 2 rfl) ?_
      refine lv_iload_n hx hb dX3_arrange_25 rfl (lv_at hl 3 rfl) ?_
      obtain ⟨σ7, e7, h⟩ := xbo h
      refine xc_V (As := [.ref (g.q r1), .int x2, .int x3]) (rest := []) C hW (m_X3_choose r1 rn1 hr1 N x2 x3 _ e7) mf_X3_choose mv_X3_choose ml_X3_37 ⟨rfl, rfl⟩ ⟨Nat.le_of_ble_eq_true rfl, Nat.le_of_ble_eq_true rfl⟩ KX_40 rfl hl.1 rfl rfl (Nat.le_of_ble_eq_true rfl) dX3_arrange_26 (fun H locs hW => W.eq (g2 := F0 m 29 ls []) rfl ?_)
      refine lv_iinc (v := x3 + (-1)) (lv' := [(3, .int (x3 + (-1))), (0, .ref (g.q 40)), (1, .ref (g.q r1)), (2, .int x2)]) hx hb dX3_arrange_29 hl (k := 3) rfl rfl (Nat.le_of_ble_eq_true rfl) rfl (fun ls hl => ?_)
      refine lv_goto (tgt := 18) hx hb dX3_arrange_32 (by decide) ?_
      exact ih x2 (x3 + (-1)) _ _ _ _ hW (lv_sub hl [1, 2, 3, 0] rfl) h
set_option maxRecDepth 4000 in
theorem m_X3_arrange (r1 rn1 : Nat) (hr1 : KX[r1]? = some (.inr (0, rn1))) (N : Nat) (x2 : Int32) (σ : St) {r : Int32} {σ' : St} (h : f_X3_arrange r1 rn1 N x2 σ = some (r, σ')) : xM l KX g yX3_arrange cX3_arrange 4 (some .int) rm_X3_arrange [.ref (g.q 40), .ref (g.q r1), .int x2] σ (some (.int r)) σ' := by
  refine xmet pn_X3 rfl (Nat.le_of_ble_eq_true rfl) (lv := [(0, .ref (g.q 40)), (1, .ref (g.q r1)), (2, .int x2)]) rfl (fun p e s m args below meth c ls C hW hl => ?_)
  have hx := C.1
  have hb := C.2.1
  unfold f_X3_arrange at h
  refine lv_aload_n hx hb dX3_arrange_0 rfl (lv_at hl 0 rfl) ?_
  refine xg_r C hW fg_3_11 KX_40 rfl dX3_arrange_1 ?_
  refine lv_iload_n hx hb dX3_arrange_4 rfl (lv_at hl 2 rfl) ?_
  refine lv_iconst (v := 0) hx hb dX3_arrange_5 rfl ?_
  obtain ⟨g1, h⟩ := xgd h
  refine xs_i C hW KX_41 g1 dX3_arrange_6 (fun H locs hW => ?_)
  refine lv_aload_n hx hb dX3_arrange_7 rfl (lv_at hl 0 rfl) ?_
  refine xg_r C hW fg_3_17 KX_40 rfl dX3_arrange_8 ?_
  refine lv_iload_n hx hb dX3_arrange_11 rfl (lv_at hl 2 rfl) ?_
  refine lv_iconst (v := 0) hx hb dX3_arrange_12 rfl ?_
  obtain ⟨g2, h⟩ := xgd h
  refine xs_i C hW KX_42 g2 dX3_arrange_13 (fun H locs hW => ?_)
  refine lv_iload_n hx hb dX3_arrange_14 rfl (lv_at hl 2 rfl) ?_
  refine lv_iconst (v := 1) hx hb dX3_arrange_15 rfl ?_
  refine lv_isub hx hb dX3_arrange_16 ?_
  refine lv_istore_n (lv' := [(3, .int (x2 - 1)), (0, .ref (g.q 40)), (1, .ref (g.q r1)), (2, .int x2)]) hx hb dX3_arrange_17 rfl hl (Nat.le_of_ble_eq_true rfl) rfl (fun ls hl => ?_)
  exact w_X3_arrange_18 r1 rn1 hr1 N C N x2 (x2 - 1) _ _ _ _ hW (lv_sub hl [1, 2, 3, 0] rfl) h
end
