theorem dX1_layBeside_0 : decode cX1_layBeside 0 = .ok (.aload_n 0, 1) := by decide +kernel
theorem dX1_layBeside_1 : decode cX1_layBeside 1 = .ok (.getfield 59, 3) := by decide +kernel
theorem dX1_layBeside_4 : decode cX1_layBeside 4 = .ok (.istore_n 2, 1) := by decide +kernel
theorem dX1_layBeside_5 : decode cX1_layBeside 5 = .ok (.iconst 0, 1) := by decide +kernel
theorem dX1_layBeside_6 : decode cX1_layBeside 6 = .ok (.istore_n 3, 1) := by decide +kernel
theorem dX1_layBeside_7 : decode cX1_layBeside 7 = .ok (.iload_n 3, 1) := by decide +kernel
theorem dX1_layBeside_8 : decode cX1_layBeside 8 = .ok (.bipush 24, 2) := by decide +kernel
theorem dX1_layBeside_10 : decode cX1_layBeside 10 = .ok (.if_icmp .ge 55, 3) := by decide +kernel
theorem dX1_layBeside_13 : decode cX1_layBeside 13 = .ok (.aload_n 0, 1) := by decide +kernel
theorem dX1_layBeside_14 : decode cX1_layBeside 14 = .ok (.getfield 53, 3) := by decide +kernel
theorem dX1_layBeside_17 : decode cX1_layBeside 17 = .ok (.istore 4, 2) := by decide +kernel
theorem dX1_layBeside_19 : decode cX1_layBeside 19 = .ok (.aload_n 0, 1) := by decide +kernel
theorem dX1_layBeside_20 : decode cX1_layBeside 20 = .ok (.iload 4, 2) := by decide +kernel
theorem dX1_layBeside_22 : decode cX1_layBeside 22 = .ok (.aload_n 0, 1) := by decide +kernel
theorem dX1_layBeside_23 : decode cX1_layBeside 23 = .ok (.iload_n 1, 1) := by decide +kernel
theorem dX1_layBeside_24 : decode cX1_layBeside 24 = .ok (.invokevirtual 72, 3) := by decide +kernel
theorem dX1_layBeside_27 : decode cX1_layBeside 27 = .ok (.invokevirtual 75, 3) := by decide +kernel
theorem dX1_layBeside_30 : decode cX1_layBeside 30 = .ok (.aload_n 0, 1) := by decide +kernel
theorem dX1_layBeside_31 : decode cX1_layBeside 31 = .ok (.getfield 45, 3) := by decide +kernel
theorem dX1_layBeside_34 : decode cX1_layBeside 34 = .ok (.aload_n 0, 1) := by decide +kernel
theorem dX1_layBeside_35 : decode cX1_layBeside 35 = .ok (.getfield 62, 3) := by decide +kernel
theorem dX1_layBeside_38 : decode cX1_layBeside 38 = .ok (.invokevirtual 79, 3) := by decide +kernel
theorem dX1_layBeside_41 : decode cX1_layBeside 41 = .ok (.bipush (-42), 2) := by decide +kernel
theorem dX1_layBeside_43 : decode cX1_layBeside 43 = .ok (.if_icmp .eq 6, 3) := by decide +kernel
theorem dX1_layBeside_46 : decode cX1_layBeside 46 = .ok (.goto 19, 3) := by decide +kernel
theorem dX1_layBeside_49 : decode cX1_layBeside 49 = .ok (.aload_n 0, 1) := by decide +kernel
theorem dX1_layBeside_50 : decode cX1_layBeside 50 = .ok (.dup, 1) := by decide +kernel
theorem dX1_layBeside_51 : decode cX1_layBeside 51 = .ok (.getfield 62, 3) := by decide +kernel
theorem dX1_layBeside_54 : decode cX1_layBeside 54 = .ok (.iconst 1, 1) := by decide +kernel
theorem dX1_layBeside_55 : decode cX1_layBeside 55 = .ok (.iadd, 1) := by decide +kernel
theorem dX1_layBeside_56 : decode cX1_layBeside 56 = .ok (.putfield 62, 3) := by decide +kernel
theorem dX1_layBeside_59 : decode cX1_layBeside 59 = .ok (.iinc 3 1, 3) := by decide +kernel
theorem dX1_layBeside_62 : decode cX1_layBeside 62 = .ok (.goto (-55), 3) := by decide +kernel
theorem dX1_layBeside_65 : decode cX1_layBeside 65 = .ok (.aload_n 0, 1) := by decide +kernel
theorem dX1_layBeside_66 : decode cX1_layBeside 66 = .ok (.iload_n 2, 1) := by decide +kernel
theorem dX1_layBeside_67 : decode cX1_layBeside 67 = .ok (.iconst 1, 1) := by decide +kernel
theorem dX1_layBeside_68 : decode cX1_layBeside 68 = .ok (.invokevirtual 82, 3) := by decide +kernel
theorem dX1_layBeside_71 : decode cX1_layBeside 71 = .ok (.ireturn, 1) := by decide +kernel
abbrev rd_X1_layBeside : Nat → Room := rmd 3 89 3 71
theorem rd_X1_layBeside_ok (d : Nat) : (rd_X1_layBeside d).cells = 0 ∧ (rd_X1_layBeside d).slots = 0 ∧ 3 ≤ (rd_X1_layBeside d).frames ∧ 89 ≤ (rd_X1_layBeside d).locals := rmd_ok _ _ _ _ d
def f_X1_layBeside_65 (N : Nat) (hd : Int32 → St → Option (Int32 × St)) (x2 : Int32) (σ : St) : Option (Int32 × St) := bd (f_X1_settle N x2 1 σ) (fun r6_ σ6 => some (r6_, σ6))
def f_X1_layBeside_7 (N : Nat) (hd : Int32 → St → Option (Int32 × St)) : Nat → Int32 → Int32 → Int32 → St → Option (Int32 × St)
  | 0, _, _, _, _ => none
  | n + 1, x1, x2, x3, σ => (if 24 ≤ x3 then f_X1_layBeside_65 N hd x2 σ else bd (f_X1_layOver N hd x1 σ) (fun r2_ σ2 => bo (f_X1_waitWith (σ.1 5605 0) r2_ σ2) (fun σ3 => bo (f_X0_codeAt (σ3.1 5614 0) σ3) (fun r4_ => (if r4_ = ((-42)) then f_X1_layBeside_7 N hd n x1 x2 (x3 + 1) (si σ3 5614 0 ((σ3.1 5614 0) + 1)) else f_X1_layBeside_65 N hd x2 σ3)))))
def f_X1_layBeside_b (N : Nat) (hd : Int32 → St → Option (Int32 × St)) (x1 : Int32) (σ : St) : Option (Int32 × St) := f_X1_layBeside_7 N hd N x1 (σ.1 5613 0) 0 σ
def f_X1_layBeside (N : Nat) : Nat → Int32 → St → Option (Int32 × St)
  | 0, _, _ => none
  | d + 1, x1, σ => f_X1_layBeside_b N (f_X1_layBeside N d) x1 σ
section
variable {p : Program} {l : Launch} {e : Env} {s : State} {m : MethodId} {args : Array Value} {below : List Frame} {meth : Method} {c : Code} {g : XG}
set_option maxRecDepth 4000 in
theorem w_X1_layBeside_65 (N : Nat) (hd : Int32 → St → Option (Int32 × St)) (rmH : Room) (hrm : rmH.cells = 0 ∧ rmH.slots = 0 ∧ 3 ≤ rmH.frames ∧ 89 ≤ rmH.locals) (hH : ∀ (a0 : Int32) (σ : St) {r : Int32} {σ' : St}, hd a0 σ = some (r, σ') → xM l KX g yX1_layBeside cX1_layBeside 5 (some .int) rmH [.ref (g.q 23), .int a0] σ (some (.int r)) σ') {r : Int32} {σ' : St} (C : xC KX g RX1 cX1_layBeside 5 (some .int) p s m args meth c) : ∀ (x2 : Int32) (σ : St) (H : Heap) (locs : List Loc) (ls : Array Slot), xW KX g s σ H locs → lv_has ls 5 [(0, .ref (g.q 23)), (2, .int x2)] → f_X1_layBeside_65 N hd x2 σ = some (r, σ') → W p l e (xrm rmH 3 71) s m args below meth c H locs 0 0 (MQ below (xPost KX g (some (.int r)) σ') args s 0 0 (xA KX g.q)) (F0 m 65 ls []) := by
  have hx := C.1
  have hb := C.2.1
  intro x2 σ H locs ls hW hl h
  unfold f_X1_layBeside_65 at h
  refine lv_aload_n hx hb dX1_layBeside_65 rfl (lv_at hl 0 rfl) ?_
  refine lv_iload_n hx hb dX1_layBeside_66 rfl (lv_at hl 1 rfl) ?_
  refine lv_iconst (v := 1) hx hb dX1_layBeside_67 rfl ?_
  obtain ⟨r6_, σ6, e6, h⟩ := xbd h
  refine xc_V (As := [.int x2, .int 1]) (rest := []) C hW (m_X1_settle N x2 1 _ e6) mf_X1_settle mv_X1_settle ml_X1_82 ⟨rfl, rfl⟩ ⟨xle1 hrm.2.2.1 (Nat.le_of_ble_eq_true rfl), xle1 hrm.2.2.2 (Nat.le_of_ble_eq_true rfl)⟩ KX_23 rfl hl.1 rfl rfl (Nat.le_of_ble_eq_true rfl) dX1_layBeside_68 (fun H locs hW => W.eq (g2 := F0 m 71 ls [.int r6_]) rfl ?_)
  cases h
  exact xr_i C hW dX1_layBeside_71
set_option maxRecDepth 4000 in
theorem w_X1_layBeside_7 (N : Nat) (hd : Int32 → St → Option (Int32 × St)) (rmH : Room) (hrm : rmH.cells = 0 ∧ rmH.slots = 0 ∧ 3 ≤ rmH.frames ∧ 89 ≤ rmH.locals) (hH : ∀ (a0 : Int32) (σ : St) {r : Int32} {σ' : St}, hd a0 σ = some (r, σ') → xM l KX g yX1_layBeside cX1_layBeside 5 (some .int) rmH [.ref (g.q 23), .int a0] σ (some (.int r)) σ') {r : Int32} {σ' : St} (C : xC KX g RX1 cX1_layBeside 5 (some .int) p s m args meth c) : ∀ (n : Nat), ∀ (x1 : Int32) (x2 : Int32) (x3 : Int32) (σ : St) (H : Heap) (locs : List Loc) (ls : Array Slot), xW KX g s σ H locs → lv_has ls 5 [(0, .ref (g.q 23)), (1, .int x1), (2, .int x2), (3, .int x3)] → f_X1_layBeside_7 N hd n x1 x2 x3 σ = some (r, σ') → W p l e (xrm rmH 3 71) s m args below meth c H locs 0 0 (MQ below (xPost KX g (some (.int r)) σ') args s 0 0 (xA KX g.q)) (F0 m 7 ls []) := by
  have hx := C.1
  have hb := C.2.1
  intro n
  induction n with
  | zero => intro x1 x2 x3 σ H locs ls hW hl h; rw [f_X1_layBeside_7] at h; cases h
  | succ n ih =>
    intro x1 x2 x3 σ H locs ls hW hl h
    rw [f_X1_layBeside_7] at h
    refine lv_iload_n hx hb dX1_layBeside_7 rfl (lv_at hl 3 rfl) ?_
    refine lv_bipush (v := 24) hx hb dX1_layBeside_8 rfl ?_
    refine lv_icmp_ge (tgt := 65) hx hb dX1_layBeside_10 (by decide) (fun c1 => ?_) (fun c1 => ?_)
    · have h := xit c1 h
      exact w_X1_layBeside_65 N hd rmH hrm hH C x2 _ _ _ _ hW (lv_sub hl [0, 2] rfl) h
    · have h := xif c1 h
      refine lv_aload_n hx hb dX1_layBeside_13 rfl (lv_at hl 0 rfl) ?_
      refine xg_i C hW fg_1_53 KX_23 rfl (v := 5605) rfl (x := σ.1 5605 0) rfl dX1_layBeside_14 ?_
      refine lv_istore (lv' := [(4, .int (σ.1 5605 0)), (0, .ref (g.q 23)), (1, .int x1), (2, .int x2), (3, .int x3)]) hx hb dX1_layBeside_17 hl (Nat.le_of_ble_eq_true rfl) rfl (fun ls hl => ?_)
      refine lv_aload_n hx hb dX1_layBeside_19 rfl (lv_at hl 1 rfl) ?_
      refine lv_iload hx hb dX1_layBeside_20 (lv_at hl 0 rfl) ?_
      refine lv_aload_n hx hb dX1_layBeside_22 rfl (lv_at hl 1 rfl) ?_
      refine lv_iload_n hx hb dX1_layBeside_23 rfl (lv_at hl 2 rfl) ?_
      obtain ⟨r2_, σ2, e2, h⟩ := xbd h
      refine xc_V (As := [.int x1]) (rest := [.int (σ.1 5605 0), .ref (g.q 23)]) C hW (m_X1_layOver N hd rmH hrm hH x1 _ e2) mf_X1_layOver mv_X1_layOver ml_X1_72 ⟨rfl, rfl⟩ ⟨by simp only [xrm]; omega, by simp only [xrm]; omega⟩ KX_23 rfl hl.1 rfl rfl (Nat.le_of_ble_eq_true rfl) dX1_layBeside_24 (fun H locs hW => W.eq (g2 := F0 m 27 ls [.int r2_, .int (σ.1 5605 0), .ref (g.q 23)]) rfl ?_)
      obtain ⟨σ3, e3, h⟩ := xbo h
      refine xc_V (As := [.int (σ.1 5605 0), .int r2_]) (rest := []) C hW (m_X1_waitWith (σ.1 5605 0) r2_ _ e3) mf_X1_waitWith mv_X1_waitWith ml_X1_75 ⟨rfl, rfl⟩ ⟨xle1 hrm.2.2.1 (Nat.le_of_ble_eq_true rfl), xle1 hrm.2.2.2 (Nat.le_of_ble_eq_true rfl)⟩ KX_23 rfl hl.1 rfl rfl (Nat.le_of_ble_eq_true rfl) dX1_layBeside_27 (fun H locs hW => W.eq (g2 := F0 m 30 ls []) rfl ?_)
      refine lv_aload_n hx hb dX1_layBeside_30 rfl (lv_at hl 1 rfl) ?_
      refine xg_r C hW fg_1_45 KX_23 rfl dX1_layBeside_31 ?_
      refine lv_aload_n hx hb dX1_layBeside_34 rfl (lv_at hl 1 rfl) ?_
      refine xg_i C hW fg_1_62 KX_23 rfl (v := 5614) rfl (x := σ3.1 5614 0) rfl dX1_layBeside_35 ?_
      obtain ⟨r4_, e4, h⟩ := xbo h
      refine xc_V (As := [.int (σ3.1 5614 0)]) (rest := []) C hW (m_X0_codeAt (σ3.1 5614 0) _ e4) mf_X0_codeAt mv_X0_codeAt ml_X1_79 ⟨rfl, rfl⟩ ⟨xle1 hrm.2.2.1 (Nat.le_of_ble_eq_true rfl), xle1 hrm.2.2.2 (Nat.le_of_ble_eq_true rfl)⟩ KX_21 rfl hl.1 rfl rfl (Nat.le_of_ble_eq_true rfl) dX1_layBeside_38 (fun H locs hW => W.eq (g2 := F0 m 41 ls [.int r4_]) rfl ?_)
      refine lv_bipush (v := (-42)) hx hb dX1_layBeside_41 rfl ?_
      refine lv_icmp_eq (tgt := 49) hx hb dX1_layBeside_43 (by decide) (fun c5 => ?_) (fun c5 => ?_)
      · have h := xit c5 h
        refine lv_aload_n hx hb dX1_layBeside_49 rfl (lv_at hl 1 rfl) ?_
        refine lv_dup hx hb dX1_layBeside_50 rfl ?_
        refine xg_i C hW fg_1_62 KX_23 rfl (v := 5614) rfl (x := σ3.1 5614 0) rfl dX1_layBeside_51 ?_
        refine lv_iconst (v := 1) hx hb dX1_layBeside_54 rfl ?_
        refine lv_iadd hx hb dX1_layBeside_55 ?_
        refine xp_i C hW fp_1_62 KX_23 rfl (v := 5614) rfl rfl rfl dX1_layBeside_56 (fun H locs hW => ?_)
        refine lv_iinc (v := x3 + 1) (lv' := [(3, .int (x3 + 1)), (4, .int (σ.1 5605 0)), (0, .ref (g.q 23)), (1, .int x1), (2, .int x2)]) hx hb dX1_layBeside_59 hl (k := 4) rfl rfl (Nat.le_of_ble_eq_true rfl) rfl (fun ls hl => ?_)
        refine lv_goto (tgt := 7) hx hb dX1_layBeside_62 (by decide) ?_
        exact ih x1 x2 (x3 + 1) _ _ _ _ hW (lv_sub hl [2, 3, 4, 0] rfl) h
      · have h := xif c5 h
        refine lv_goto (tgt := 65) hx hb dX1_layBeside_46 (by decide) ?_
        exact w_X1_layBeside_65 N hd rmH hrm hH C x2 _ _ _ _ hW (lv_sub hl [1, 3] rfl) h
set_option maxRecDepth 4000 in
theorem m_X1_layBeside_b (N : Nat) (hd : Int32 → St → Option (Int32 × St)) (rmH : Room) (hrm : rmH.cells = 0 ∧ rmH.slots = 0 ∧ 3 ≤ rmH.frames ∧ 89 ≤ rmH.locals) (hH : ∀ (a0 : Int32) (σ : St) {r : Int32} {σ' : St}, hd a0 σ = some (r, σ') → xM l KX g yX1_layBeside cX1_layBeside 5 (some .int) rmH [.ref (g.q 23), .int a0] σ (some (.int r)) σ') (x1 : Int32) (σ : St) {r : Int32} {σ' : St} (h : f_X1_layBeside_b N hd x1 σ = some (r, σ')) : xM l KX g yX1_layBeside cX1_layBeside 5 (some .int) (xrm rmH 3 71) [.ref (g.q 23), .int x1] σ (some (.int r)) σ' := by
  refine xmet pn_X1 rfl (Nat.le_of_ble_eq_true rfl) (lv := [(0, .ref (g.q 23)), (1, .int x1)]) rfl (fun p e s m args below meth c ls C hW hl => ?_)
  have hx := C.1
  have hb := C.2.1
  unfold f_X1_layBeside_b at h
  refine lv_aload_n hx hb dX1_layBeside_0 rfl (lv_at hl 0 rfl) ?_
  refine xg_i C hW fg_1_59 KX_23 rfl (v := 5613) rfl (x := σ.1 5613 0) rfl dX1_layBeside_1 ?_
  refine lv_istore_n (lv' := [(2, .int (σ.1 5613 0)), (0, .ref (g.q 23)), (1, .int x1)]) hx hb dX1_layBeside_4 rfl hl (Nat.le_of_ble_eq_true rfl) rfl (fun ls hl => ?_)
  refine lv_iconst (v := 0) hx hb dX1_layBeside_5 rfl ?_
  refine lv_istore_n (lv' := [(3, .int 0), (2, .int (σ.1 5613 0)), (0, .ref (g.q 23)), (1, .int x1)]) hx hb dX1_layBeside_6 rfl hl (Nat.le_of_ble_eq_true rfl) rfl (fun ls hl => ?_)
  exact w_X1_layBeside_7 N hd rmH hrm hH C N x1 (σ.1 5613 0) 0 _ _ _ _ hW (lv_sub hl [2, 3, 1, 0] rfl) h
theorem m_X1_layBeside (N : Nat) (d : Nat) (x1 : Int32) (σ : St) {r : Int32} {σ' : St} (h : f_X1_layBeside N d x1 σ = some (r, σ')) : xM l KX g yX1_layBeside cX1_layBeside 5 (some .int) (rd_X1_layBeside d) [.ref (g.q 23), .int x1] σ (some (.int r)) σ' := by
  induction d generalizing x1 σ r σ' with
  | zero => rw [f_X1_layBeside] at h; cases h
  | succ d ih =>
    rw [f_X1_layBeside] at h
    exact m_X1_layBeside_b N (f_X1_layBeside N d) (rd_X1_layBeside d) (rd_X1_layBeside_ok d) (fun x1 σ _ _ => ih x1 σ) x1 σ h
end
theorem dX1_layOut_0 : decode cX1_layOut 0 = .ok (.aload_n 0, 1) := by decide +kernel
theorem dX1_layOut_1 : decode cX1_layOut 1 = .ok (.invokevirtual 56, 3) := by decide +kernel
theorem dX1_layOut_4 : decode cX1_layOut 4 = .ok (.aload_n 0, 1) := by decide +kernel
theorem dX1_layOut_5 : decode cX1_layOut 5 = .ok (.iconst 0, 1) := by decide +kernel
theorem dX1_layOut_6 : decode cX1_layOut 6 = .ok (.putfield 59, 3) := by decide +kernel
theorem dX1_layOut_9 : decode cX1_layOut 9 = .ok (.aload_n 0, 1) := by decide +kernel
theorem dX1_layOut_10 : decode cX1_layOut 10 = .ok (.iconst 0, 1) := by decide +kernel
theorem dX1_layOut_11 : decode cX1_layOut 11 = .ok (.putfield 62, 3) := by decide +kernel
theorem dX1_layOut_14 : decode cX1_layOut 14 = .ok (.aload_n 0, 1) := by decide +kernel
theorem dX1_layOut_15 : decode cX1_layOut 15 = .ok (.getfield 62, 3) := by decide +kernel
theorem dX1_layOut_18 : decode cX1_layOut 18 = .ok (.aload_n 0, 1) := by decide +kernel
theorem dX1_layOut_19 : decode cX1_layOut 19 = .ok (.getfield 45, 3) := by decide +kernel
theorem dX1_layOut_22 : decode cX1_layOut 22 = .ok (.getfield 65, 3) := by decide +kernel
theorem dX1_layOut_25 : decode cX1_layOut 25 = .ok (.if_icmp .ge 69, 3) := by decide +kernel
theorem dX1_layOut_28 : decode cX1_layOut 28 = .ok (.aload_n 0, 1) := by decide +kernel
theorem dX1_layOut_29 : decode cX1_layOut 29 = .ok (.getfield 49, 3) := by decide +kernel
theorem dX1_layOut_32 : decode cX1_layOut 32 = .ok (.bipush 12, 2) := by decide +kernel
theorem dX1_layOut_34 : decode cX1_layOut 34 = .ok (.if_icmp .ge 60, 3) := by decide +kernel
theorem dX1_layOut_37 : decode cX1_layOut 37 = .ok (.aload_n 0, 1) := by decide +kernel
theorem dX1_layOut_38 : decode cX1_layOut 38 = .ok (.getfield 53, 3) := by decide +kernel
theorem dX1_layOut_41 : decode cX1_layOut 41 = .ok (.istore_n 1, 1) := by decide +kernel
theorem dX1_layOut_42 : decode cX1_layOut 42 = .ok (.aload_n 0, 1) := by decide +kernel
theorem dX1_layOut_43 : decode cX1_layOut 43 = .ok (.getfield 11, 3) := by decide +kernel
theorem dX1_layOut_46 : decode cX1_layOut 46 = .ok (.aload_n 0, 1) := by decide +kernel
theorem dX1_layOut_47 : decode cX1_layOut 47 = .ok (.getfield 49, 3) := by decide +kernel
theorem dX1_layOut_50 : decode cX1_layOut 50 = .ok (.aload_n 0, 1) := by decide +kernel
theorem dX1_layOut_51 : decode cX1_layOut 51 = .ok (.iconst 0, 1) := by decide +kernel
theorem dX1_layOut_52 : decode cX1_layOut 52 = .ok (.invokevirtual 68, 3) := by decide +kernel
theorem dX1_layOut_55 : decode cX1_layOut 55 = .ok (.iastore, 1) := by decide +kernel
theorem dX1_layOut_56 : decode cX1_layOut 56 = .ok (.aload_n 0, 1) := by decide +kernel
theorem dX1_layOut_57 : decode cX1_layOut 57 = .ok (.getfield 17, 3) := by decide +kernel
theorem dX1_layOut_60 : decode cX1_layOut 60 = .ok (.aload_n 0, 1) := by decide +kernel
theorem dX1_layOut_61 : decode cX1_layOut 61 = .ok (.getfield 49, 3) := by decide +kernel
theorem dX1_layOut_64 : decode cX1_layOut 64 = .ok (.aload_n 0, 1) := by decide +kernel
theorem dX1_layOut_65 : decode cX1_layOut 65 = .ok (.getfield 53, 3) := by decide +kernel
theorem dX1_layOut_68 : decode cX1_layOut 68 = .ok (.iload_n 1, 1) := by decide +kernel
theorem dX1_layOut_69 : decode cX1_layOut 69 = .ok (.isub, 1) := by decide +kernel
theorem dX1_layOut_70 : decode cX1_layOut 70 = .ok (.iastore, 1) := by decide +kernel
theorem dX1_layOut_71 : decode cX1_layOut 71 = .ok (.aload_n 0, 1) := by decide +kernel
theorem dX1_layOut_72 : decode cX1_layOut 72 = .ok (.dup, 1) := by decide +kernel
theorem dX1_layOut_73 : decode cX1_layOut 73 = .ok (.getfield 49, 3) := by decide +kernel
theorem dX1_layOut_76 : decode cX1_layOut 76 = .ok (.iconst 1, 1) := by decide +kernel
theorem dX1_layOut_77 : decode cX1_layOut 77 = .ok (.iadd, 1) := by decide +kernel
theorem dX1_layOut_78 : decode cX1_layOut 78 = .ok (.putfield 49, 3) := by decide +kernel
theorem dX1_layOut_81 : decode cX1_layOut 81 = .ok (.aload_n 0, 1) := by decide +kernel
theorem dX1_layOut_82 : decode cX1_layOut 82 = .ok (.dup, 1) := by decide +kernel
theorem dX1_layOut_83 : decode cX1_layOut 83 = .ok (.getfield 62, 3) := by decide +kernel
theorem dX1_layOut_86 : decode cX1_layOut 86 = .ok (.iconst 1, 1) := by decide +kernel
theorem dX1_layOut_87 : decode cX1_layOut 87 = .ok (.iadd, 1) := by decide +kernel
theorem dX1_layOut_88 : decode cX1_layOut 88 = .ok (.putfield 62, 3) := by decide +kernel
theorem dX1_layOut_91 : decode cX1_layOut 91 = .ok (.goto (-77), 3) := by decide +kernel
theorem dX1_layOut_94 : decode cX1_layOut 94 = .ok (.return_, 1) := by decide +kernel
abbrev rm_X1_layOut : Room := { frames := 64, cells := 0, slots := 0, locals := 1533 }
def f_X1_layOut_14 (N : Nat) : Nat → St → Option St
  | 0, _ => none
  | n + 1, σ => (if (σ.1 5202 0) ≤ (σ.1 5614 0) then some σ else (if 12 ≤ (σ.1 5602 0) then some σ else bd (f_X1_layBeside N 20 0 σ) (fun r4_ σ4 => grd (ib (σ.1 5602 0) 12) (grd (ib (σ4.1 5602 0) 12) (f_X1_layOut_14 N n (si (si (si (si σ4 24 (σ.1 5602 0).toNatClampNeg r4_) 25 (σ4.1 5602 0).toNatClampNeg ((σ4.1 5605 0) - (σ.1 5605 0))) 5602 0 ((σ4.1 5602 0) + 1)) 5614 0 ((σ4.1 5614 0) + 1)))))))
def f_X1_layOut (N : Nat) (σ : St) : Option St := bo (f_X1_forget σ) (fun σ1 => f_X1_layOut_14 N N (si (si σ1 5613 0 0) 5614 0 0))
section
variable {p : Program} {l : Launch} {e : Env} {s : State} {m : MethodId} {args : Array Value} {below : List Frame} {meth : Method} {c : Code} {g : XG}
set_option maxRecDepth 4000 in
theorem w_X1_layOut_14 (N : Nat) {σ' : St} (C : xC KX g RX1 cX1_layOut 2 none p s m args meth c) : ∀ (n : Nat), ∀ (σ : St) (H : Heap) (locs : List Loc) (ls : Array Slot), xW KX g s σ H locs → lv_has ls 2 [(0, .ref (g.q 23))] → f_X1_layOut_14 N n σ = some σ' → W p l e rm_X1_layOut s m args below meth c H locs 0 0 (MQ below (xPost KX g none σ') args s 0 0 (xA KX g.q)) (F0 m 14 ls []) := by
  have hx := C.1
  have hb := C.2.1
  intro n
  induction n with
  | zero => intro σ H locs ls hW hl h; rw [f_X1_layOut_14] at h; cases h
  | succ n ih =>
    intro σ H locs ls hW hl h
    rw [f_X1_layOut_14] at h
    refine lv_aload_n hx hb dX1_layOut_14 rfl (lv_at hl 0 rfl) ?_
    refine xg_i C hW fg_1_62 KX_23 rfl (v := 5614) rfl (x := σ.1 5614 0) rfl dX1_layOut_15 ?_
    refine lv_aload_n hx hb dX1_layOut_18 rfl (lv_at hl 0 rfl) ?_
    refine xg_r C hW fg_1_45 KX_23 rfl dX1_layOut_19 ?_
    refine xg_i C hW fg_1_65 KX_21 rfl (v := 5202) rfl (x := σ.1 5202 0) rfl dX1_layOut_22 ?_
    refine lv_icmp_ge (tgt := 94) hx hb dX1_layOut_25 (by decide) (fun c2 => ?_) (fun c2 => ?_)
    · have h := xit c2 h
      cases h
      exact xr_v C hW dX1_layOut_94
    · have h := xif c2 h
      refine lv_aload_n hx hb dX1_layOut_28 rfl (lv_at hl 0 rfl) ?_
      refine xg_i C hW fg_1_49 KX_23 rfl (v := 5602) rfl (x := σ.1 5602 0) rfl dX1_layOut_29 ?_
      refine lv_bipush (v := 12) hx hb dX1_layOut_32 rfl ?_
      refine lv_icmp_ge (tgt := 94) hx hb dX1_layOut_34 (by decide) (fun c3 => ?_) (fun c3 => ?_)
      · have h := xit c3 h
        cases h
        exact xr_v C hW dX1_layOut_94
      · have h := xif c3 h
        refine lv_aload_n hx hb dX1_layOut_37 rfl (lv_at hl 0 rfl) ?_
        refine xg_i C hW fg_1_53 KX_23 rfl (v := 5605) rfl (x := σ.1 5605 0) rfl dX1_layOut_38 ?_
        refine lv_istore_n (lv' := [(1, .int (σ.1 5605 0)), (0, .ref (g.q 23))]) hx hb dX1_layOut_41 rfl hl (Nat.le_of_ble_eq_true rfl) rfl (fun ls hl => ?_)
        refine lv_aload_n hx hb dX1_layOut_42 rfl (lv_at hl 1 rfl) ?_
        refine xg_r C hW fg_1_11 KX_23 rfl dX1_layOut_43 ?_
        refine lv_aload_n hx hb dX1_layOut_46 rfl (lv_at hl 1 rfl) ?_
        refine xg_i C hW fg_1_49 KX_23 rfl (v := 5602) rfl (x := σ.1 5602 0) rfl dX1_layOut_47 ?_
        refine lv_aload_n hx hb dX1_layOut_50 rfl (lv_at hl 1 rfl) ?_
        refine lv_iconst (v := 0) hx hb dX1_layOut_51 rfl ?_
        obtain ⟨r4_, σ4, e4, h⟩ := xbd h
        refine xc_V (As := [.int 0]) (rest := [.int (σ.1 5602 0), .ref (g.q 24)]) C hW (m_X1_layBeside N 20 0 _ e4) mf_X1_layBeside mv_X1_layBeside ml_X1_68 ⟨rfl, rfl⟩ ⟨Nat.le_of_ble_eq_true rfl, Nat.le_of_ble_eq_true rfl⟩ KX_23 rfl hl.1 rfl rfl (Nat.le_of_ble_eq_true rfl) dX1_layOut_52 (fun H locs hW => W.eq (g2 := F0 m 55 ls [.int r4_, .int (σ.1 5602 0), .ref (g.q 24)]) rfl ?_)
        obtain ⟨g5, h⟩ := xgd h
        refine xs_i C hW KX_24 g5 dX1_layOut_55 (fun H locs hW => ?_)
        refine lv_aload_n hx hb dX1_layOut_56 rfl (lv_at hl 1 rfl) ?_
        refine xg_r C hW fg_1_17 KX_23 rfl dX1_layOut_57 ?_
        refine lv_aload_n hx hb dX1_layOut_60 rfl (lv_at hl 1 rfl) ?_
        refine xg_i C hW fg_1_49 KX_23 rfl (v := 5602) rfl (x := σ4.1 5602 0) rfl dX1_layOut_61 ?_
        refine lv_aload_n hx hb dX1_layOut_64 rfl (lv_at hl 1 rfl) ?_
        refine xg_i C hW fg_1_53 KX_23 rfl (v := 5605) rfl (x := σ4.1 5605 0) rfl dX1_layOut_65 ?_
        refine lv_iload_n hx hb dX1_layOut_68 rfl (lv_at hl 0 rfl) ?_
        refine lv_isub hx hb dX1_layOut_69 ?_
        obtain ⟨g6, h⟩ := xgd h
        refine xs_i C hW KX_25 g6 dX1_layOut_70 (fun H locs hW => ?_)
        refine lv_aload_n hx hb dX1_layOut_71 rfl (lv_at hl 1 rfl) ?_
        refine lv_dup hx hb dX1_layOut_72 rfl ?_
        refine xg_i C hW fg_1_49 KX_23 rfl (v := 5602) rfl (x := σ4.1 5602 0) rfl dX1_layOut_73 ?_
        refine lv_iconst (v := 1) hx hb dX1_layOut_76 rfl ?_
        refine lv_iadd hx hb dX1_layOut_77 ?_
        refine xp_i C hW fp_1_49 KX_23 rfl (v := 5602) rfl rfl rfl dX1_layOut_78 (fun H locs hW => ?_)
        refine lv_aload_n hx hb dX1_layOut_81 rfl (lv_at hl 1 rfl) ?_
        refine lv_dup hx hb dX1_layOut_82 rfl ?_
        refine xg_i C hW fg_1_62 KX_23 rfl (v := 5614) rfl (x := σ4.1 5614 0) rfl dX1_layOut_83 ?_
        refine lv_iconst (v := 1) hx hb dX1_layOut_86 rfl ?_
        refine lv_iadd hx hb dX1_layOut_87 ?_
        refine xp_i C hW fp_1_62 KX_23 rfl (v := 5614) rfl rfl rfl dX1_layOut_88 (fun H locs hW => ?_)
        refine lv_goto (tgt := 14) hx hb dX1_layOut_91 (by decide) ?_
        exact ih _ _ _ _ hW (lv_sub hl [1] rfl) h
set_option maxRecDepth 4000 in
theorem m_X1_layOut (N : Nat) (σ : St) {σ' : St} (h : f_X1_layOut N σ = some σ') : xM l KX g yX1_layOut cX1_layOut 2 none rm_X1_layOut [.ref (g.q 23)] σ none σ' := by
  refine xmet pn_X1 rfl (Nat.le_of_ble_eq_true rfl) (lv := [(0, .ref (g.q 23))]) rfl (fun p e s m args below meth c ls C hW hl => ?_)
  have hx := C.1
  have hb := C.2.1
  unfold f_X1_layOut at h
  refine lv_aload_n hx hb dX1_layOut_0 rfl (lv_at hl 0 rfl) ?_
  obtain ⟨σ1, e1, h⟩ := xbo h
  refine xc_V (As := []) (rest := []) C hW (m_X1_forget _ e1) mf_X1_forget mv_X1_forget ml_X1_56 ⟨rfl, rfl⟩ ⟨Nat.le_of_ble_eq_true rfl, Nat.le_of_ble_eq_true rfl⟩ KX_23 rfl hl.1 rfl rfl (Nat.le_of_ble_eq_true rfl) dX1_layOut_1 (fun H locs hW => W.eq (g2 := F0 m 4 ls []) rfl ?_)
  refine lv_aload_n hx hb dX1_layOut_4 rfl (lv_at hl 0 rfl) ?_
  refine lv_iconst (v := 0) hx hb dX1_layOut_5 rfl ?_
  refine xp_i C hW fp_1_59 KX_23 rfl (v := 5613) rfl rfl rfl dX1_layOut_6 (fun H locs hW => ?_)
  refine lv_aload_n hx hb dX1_layOut_9 rfl (lv_at hl 0 rfl) ?_
  refine lv_iconst (v := 0) hx hb dX1_layOut_10 rfl ?_
  refine xp_i C hW fp_1_62 KX_23 rfl (v := 5614) rfl rfl rfl dX1_layOut_11 (fun H locs hW => ?_)
  exact w_X1_layOut_14 N C N _ _ _ _ hW (lv_sub hl [0] rfl) h
end
theorem dX11_edgeOf_0 : decode cX11_edgeOf 0 = .ok (.iload_n 0, 1) := by decide +kernel
theorem dX11_edgeOf_1 : decode cX11_edgeOf 1 = .ok (.invokestatic 197, 3) := by decide +kernel
theorem dX11_edgeOf_4 : decode cX11_edgeOf 4 = .ok (.iload_n 0, 1) := by decide +kernel
theorem dX11_edgeOf_5 : decode cX11_edgeOf 5 = .ok (.invokestatic 200, 3) := by decide +kernel
theorem dX11_edgeOf_8 : decode cX11_edgeOf 8 = .ok (.invokestatic 385, 3) := by decide +kernel
theorem dX11_edgeOf_11 : decode cX11_edgeOf 11 = .ok (.ireturn, 1) := by decide +kernel
abbrev rm_X11_edgeOf : Room := { frames := 1, cells := 0, slots := 0, locals := 60 }
def f_X11_edgeOf (x0 : Int32) (σ : St) : Int32 := imax (f_X11_widthOf x0 σ) (f_X11_heightOf x0 σ)
section
variable {p : Program} {l : Launch} {e : Env} {s : State} {m : MethodId} {args : Array Value} {below : List Frame} {meth : Method} {c : Code} {g : XG}
set_option maxRecDepth 4000 in
theorem m_X11_edgeOf (x0 : Int32) (σ : St) {r : Int32} (h : f_X11_edgeOf x0 σ = r) : xM l KX g yX11_edgeOf cX11_edgeOf 1 (some .int) rm_X11_edgeOf [.int x0] σ (some (.int r)) σ := by
  refine xmet pn_X11 rfl (Nat.le_of_ble_eq_true rfl) (lv := [(0, .int x0)]) rfl (fun p e s m args below meth c ls C hW hl => ?_)
  have hx := C.1
  have hb := C.2.1
  unfold f_X11_edgeOf at h
  refine lv_iload_n hx hb dX11_edgeOf_0 rfl (lv_at hl 0 rfl) ?_
  refine xc_S (As := [.int x0]) (rest := []) C hW (m_X11_widthOf x0 _ rfl) mf_X11_widthOf mt_X11_widthOf ml_X11_197 ⟨rfl, rfl⟩ ⟨Nat.le_of_ble_eq_true rfl, Nat.le_of_ble_eq_true rfl⟩ hl.1 rfl rfl (Nat.le_of_ble_eq_true rfl) dX11_edgeOf_1 (fun H locs hW => W.eq (g2 := F0 m 4 ls [.int (f_X11_widthOf x0 σ)]) rfl ?_)
  refine lv_iload_n hx hb dX11_edgeOf_4 rfl (lv_at hl 0 rfl) ?_
  refine xc_S (As := [.int x0]) (rest := [.int (f_X11_widthOf x0 σ)]) C hW (m_X11_heightOf x0 _ rfl) mf_X11_heightOf mt_X11_heightOf ml_X11_200 ⟨rfl, rfl⟩ ⟨Nat.le_of_ble_eq_true rfl, Nat.le_of_ble_eq_true rfl⟩ hl.1 rfl rfl (Nat.le_of_ble_eq_true rfl) dX11_edgeOf_5 (fun H locs hW => W.eq (g2 := F0 m 8 ls [.int (f_X11_heightOf x0 σ), .int (f_X11_widthOf x0 σ)]) rfl ?_)
  refine xmm_max C hW ml_X11_385 (Nat.le_of_ble_eq_true rfl) (Nat.le_of_ble_eq_true rfl) hl.1 (Nat.le_of_ble_eq_true rfl) dX11_edgeOf_8 ?_
  cases h
  exact xr_i C hW dX11_edgeOf_11
end
theorem dX6_shrunk_0 : decode cX6_shrunk 0 = .ok (.aload_n 0, 1) := by decide +kernel
theorem dX6_shrunk_1 : decode cX6_shrunk 1 = .ok (.getfield 34, 3) := by decide +kernel
theorem dX6_shrunk_4 : decode cX6_shrunk 4 = .ok (.iconst 1, 1) := by decide +kernel
theorem dX6_shrunk_5 : decode cX6_shrunk 5 = .ok (.iaload, 1) := by decide +kernel
theorem dX6_shrunk_6 : decode cX6_shrunk 6 = .ok (.istore_n 3, 1) := by decide +kernel
theorem dX6_shrunk_7 : decode cX6_shrunk 7 = .ok (.iload_n 2, 1) := by decide +kernel
theorem dX6_shrunk_8 : decode cX6_shrunk 8 = .ok (.iload_n 3, 1) := by decide +kernel
theorem dX6_shrunk_9 : decode cX6_shrunk 9 = .ok (.if_icmp .le 7, 3) := by decide +kernel
theorem dX6_shrunk_12 : decode cX6_shrunk 12 = .ok (.iload_n 2, 1) := by decide +kernel
theorem dX6_shrunk_13 : decode cX6_shrunk 13 = .ok (.goto 4, 3) := by decide +kernel
theorem dX6_shrunk_16 : decode cX6_shrunk 16 = .ok (.iload_n 3, 1) := by decide +kernel
theorem dX6_shrunk_17 : decode cX6_shrunk 17 = .ok (.istore 4, 2) := by decide +kernel
theorem dX6_shrunk_19 : decode cX6_shrunk 19 = .ok (.iload 4, 2) := by decide +kernel
theorem dX6_shrunk_21 : decode cX6_shrunk 21 = .ok (.iconst 1, 1) := by decide +kernel
theorem dX6_shrunk_22 : decode cX6_shrunk 22 = .ok (.if_icmp .ge 7, 3) := by decide +kernel
theorem dX6_shrunk_25 : decode cX6_shrunk 25 = .ok (.iconst 0, 1) := by decide +kernel
theorem dX6_shrunk_26 : decode cX6_shrunk 26 = .ok (.goto 9, 3) := by decide +kernel
theorem dX6_shrunk_29 : decode cX6_shrunk 29 = .ok (.iload_n 1, 1) := by decide +kernel
theorem dX6_shrunk_30 : decode cX6_shrunk 30 = .ok (.iload_n 3, 1) := by decide +kernel
theorem dX6_shrunk_31 : decode cX6_shrunk 31 = .ok (.imul, 1) := by decide +kernel
theorem dX6_shrunk_32 : decode cX6_shrunk 32 = .ok (.iload 4, 2) := by decide +kernel
theorem dX6_shrunk_34 : decode cX6_shrunk 34 = .ok (.idiv, 1) := by decide +kernel
theorem dX6_shrunk_35 : decode cX6_shrunk 35 = .ok (.ireturn, 1) := by decide +kernel
abbrev rm_X6_shrunk : Room := { frames := 0, cells := 0, slots := 0, locals := 0 }
def f_X6_shrunk_17 (o : Nat) (x1 : Int32) (x3 : Int32) (t0 : Int32) (σ : St) : Option Int32 := (if 1 ≤ t0 then grd (decide (¬ t0 = 0)) (some ((x1 * x3) / t0)) else some 0)
def f_X6_shrunk (o : Nat) (x1 : Int32) (x2 : Int32) (σ : St) : Option Int32 := grd (ib 1 4) ((if x2 ≤ (σ.1 (8 * o + 8 - 6) 1) then f_X6_shrunk_17 o x1 (σ.1 (8 * o + 8 - 6) 1) (σ.1 (8 * o + 8 - 6) 1) σ else f_X6_shrunk_17 o x1 (σ.1 (8 * o + 8 - 6) 1) x2 σ))
section
variable {p : Program} {l : Launch} {e : Env} {s : State} {m : MethodId} {args : Array Value} {below : List Frame} {meth : Method} {c : Code} {g : XG}
set_option maxRecDepth 4000 in
theorem w_X6_shrunk_17 (o : Nat) (ho : o = 1 ∨ o = 2) (σ : St) {r : Int32} (C : xC KX g RX6 cX6_shrunk 5 (some .int) p s m args meth c) : ∀ (x1 : Int32) (x3 : Int32) (t0 : Int32) (H : Heap) (locs : List Loc) (ls : Array Slot), xW KX g s σ H locs → lv_has ls 5 [(1, .int x1), (3, .int x3)] → f_X6_shrunk_17 o x1 x3 t0 σ = some r → W p l e rm_X6_shrunk s m args below meth c H locs 0 0 (MQ below (xPost KX g (some (.int r)) σ) args s 0 0 (xA KX g.q)) (F0 m 17 ls [.int t0]) := by
  have hx := C.1
  have hb := C.2.1
  intro x1 x3 t0 H locs ls hW hl h
  unfold f_X6_shrunk_17 at h
  refine lv_istore (lv' := [(4, .int t0), (1, .int x1), (3, .int x3)]) hx hb dX6_shrunk_17 hl (Nat.le_of_ble_eq_true rfl) rfl (fun ls hl => ?_)
  refine lv_iload hx hb dX6_shrunk_19 (lv_at hl 0 rfl) ?_
  refine lv_iconst (v := 1) hx hb dX6_shrunk_21 rfl ?_
  refine lv_icmp_ge (tgt := 29) hx hb dX6_shrunk_22 (by decide) (fun c3 => ?_) (fun c3 => ?_)
  · have h := xit c3 h
    refine lv_iload_n hx hb dX6_shrunk_29 rfl (lv_at hl 1 rfl) ?_
    refine lv_iload_n hx hb dX6_shrunk_30 rfl (lv_at hl 2 rfl) ?_
    refine lv_imul hx hb dX6_shrunk_31 ?_
    refine lv_iload hx hb dX6_shrunk_32 (lv_at hl 0 rfl) ?_
    obtain ⟨g4, h⟩ := xgd h
    refine lv_idiv hx hb dX6_shrunk_34 (of_decide_eq_true g4) ?_
    cases h
    exact xr_i C hW dX6_shrunk_35
  · have h := xif c3 h
    refine lv_iconst (v := 0) hx hb dX6_shrunk_25 rfl ?_
    refine lv_goto (tgt := 35) hx hb dX6_shrunk_26 (by decide) ?_
    cases h
    exact xr_i C hW dX6_shrunk_35
set_option maxRecDepth 4000 in
theorem m_X6_shrunk (o : Nat) (ho : o = 1 ∨ o = 2) (x1 : Int32) (x2 : Int32) (σ : St) {r : Int32} (h : f_X6_shrunk o x1 x2 σ = some r) : xM l KX g yX6_shrunk cX6_shrunk 5 (some .int) rm_X6_shrunk [.ref (g.q o), .int x1, .int x2] σ (some (.int r)) σ := by
  refine xmet pn_X6 rfl (Nat.le_of_ble_eq_true rfl) (lv := [(0, .ref (g.q o)), (1, .int x1), (2, .int x2)]) rfl (fun p e s m args below meth c ls C hW hl => ?_)
  have hx := C.1
  have hb := C.2.1
  unfold f_X6_shrunk at h
  refine lv_aload_n hx hb dX6_shrunk_0 rfl (lv_at hl 0 rfl) ?_
  refine xg_r C hW fg_6_34 (KX_sl ho) rfl dX6_shrunk_1 ?_
  refine lv_iconst (v := 1) hx hb dX6_shrunk_4 rfl ?_
  obtain ⟨g1, h⟩ := xgd h
  refine xa_i C hW (KX_sl_8 ho) g1 (x := σ.1 (8 * o + 8 - 6) 1) rfl dX6_shrunk_5 ?_
  refine lv_istore_n (lv' := [(3, .int (σ.1 (8 * o + 8 - 6) 1)), (0, .ref (g.q o)), (1, .int x1), (2, .int x2)]) hx hb dX6_shrunk_6 rfl hl (Nat.le_of_ble_eq_true rfl) rfl (fun ls hl => ?_)
  refine lv_iload_n hx hb dX6_shrunk_7 rfl (lv_at hl 3 rfl) ?_
  refine lv_iload_n hx hb dX6_shrunk_8 rfl (lv_at hl 0 rfl) ?_
  refine lv_icmp_le (tgt := 16) hx hb dX6_shrunk_9 (by decide) (fun c2 => ?_) (fun c2 => ?_)
  · have h := xit c2 h
    refine lv_iload_n hx hb dX6_shrunk_16 rfl (lv_at hl 0 rfl) ?_
    exact w_X6_shrunk_17 o ho σ C x1 (σ.1 (8 * o + 8 - 6) 1) (σ.1 (8 * o + 8 - 6) 1) _ _ _ hW (lv_sub hl [2, 0] rfl) h
  · have h := xif c2 h
    refine lv_iload_n hx hb dX6_shrunk_12 rfl (lv_at hl 3 rfl) ?_
    refine lv_goto (tgt := 17) hx hb dX6_shrunk_13 (by decide) ?_
    exact w_X6_shrunk_17 o ho σ C x1 (σ.1 (8 * o + 8 - 6) 1) x2 _ _ _ hW (lv_sub hl [2, 0] rfl) h
end
theorem dX1_shrunkAs_0 : decode cX1_shrunkAs 0 = .ok (.aload_n 0, 1) := by decide +kernel
theorem dX1_shrunkAs_1 : decode cX1_shrunkAs 1 = .ok (.getfield 41, 3) := by decide +kernel
theorem dX1_shrunkAs_4 : decode cX1_shrunkAs 4 = .ok (.iload_n 2, 1) := by decide +kernel
theorem dX1_shrunkAs_5 : decode cX1_shrunkAs 5 = .ok (.aload_n 0, 1) := by decide +kernel
theorem dX1_shrunkAs_6 : decode cX1_shrunkAs 6 = .ok (.getfield 11, 3) := by decide +kernel
theorem dX1_shrunkAs_9 : decode cX1_shrunkAs 9 = .ok (.aload_n 0, 1) := by decide +kernel
theorem dX1_shrunkAs_10 : decode cX1_shrunkAs 10 = .ok (.getfield 23, 3) := by decide +kernel
theorem dX1_shrunkAs_13 : decode cX1_shrunkAs 13 = .ok (.iload_n 1, 1) := by decide +kernel
theorem dX1_shrunkAs_14 : decode cX1_shrunkAs 14 = .ok (.iaload, 1) := by decide +kernel
theorem dX1_shrunkAs_15 : decode cX1_shrunkAs 15 = .ok (.iaload, 1) := by decide +kernel
theorem dX1_shrunkAs_16 : decode cX1_shrunkAs 16 = .ok (.invokestatic 133, 3) := by decide +kernel
theorem dX1_shrunkAs_19 : decode cX1_shrunkAs 19 = .ok (.invokevirtual 136, 3) := by decide +kernel
theorem dX1_shrunkAs_22 : decode cX1_shrunkAs 22 = .ok (.ireturn, 1) := by decide +kernel
abbrev rm_X1_shrunkAs : Room := { frames := 2, cells := 0, slots := 0, locals := 80 }
def f_X1_shrunkAs (x1 : Int32) (x2 : Int32) (σ : St) : Option Int32 := grd (ib x1 24) (grd (ib (σ.1 27 x1.toNatClampNeg) 12) (bo (f_X6_shrunk 1 x2 (f_X11_edgeOf (σ.1 24 (σ.1 27 x1.toNatClampNeg).toNatClampNeg) σ) σ) (fun r3_ => some r3_)))
section
variable {p : Program} {l : Launch} {e : Env} {s : State} {m : MethodId} {args : Array Value} {below : List Frame} {meth : Method} {c : Code} {g : XG}
set_option maxRecDepth 4000 in
theorem m_X1_shrunkAs (x1 : Int32) (x2 : Int32) (σ : St) {r : Int32} (h : f_X1_shrunkAs x1 x2 σ = some r) : xM l KX g yX1_shrunkAs cX1_shrunkAs 3 (some .int) rm_X1_shrunkAs [.ref (g.q 23), .int x1, .int x2] σ (some (.int r)) σ := by
  refine xmet pn_X1 rfl (Nat.le_of_ble_eq_true rfl) (lv := [(0, .ref (g.q 23)), (1, .int x1), (2, .int x2)]) rfl (fun p e s m args below meth c ls C hW hl => ?_)
  have hx := C.1
  have hb := C.2.1
  unfold f_X1_shrunkAs at h
  refine lv_aload_n hx hb dX1_shrunkAs_0 rfl (lv_at hl 0 rfl) ?_
  refine xg_r C hW fg_1_41 KX_23 rfl dX1_shrunkAs_1 ?_
  refine lv_iload_n hx hb dX1_shrunkAs_4 rfl (lv_at hl 2 rfl) ?_
  refine lv_aload_n hx hb dX1_shrunkAs_5 rfl (lv_at hl 0 rfl) ?_
  refine xg_r C hW fg_1_11 KX_23 rfl dX1_shrunkAs_6 ?_
  refine lv_aload_n hx hb dX1_shrunkAs_9 rfl (lv_at hl 0 rfl) ?_
  refine xg_r C hW fg_1_23 KX_23 rfl dX1_shrunkAs_10 ?_
  refine lv_iload_n hx hb dX1_shrunkAs_13 rfl (lv_at hl 1 rfl) ?_
  obtain ⟨g1, h⟩ := xgd h
  refine xa_i C hW KX_27 g1 (x := σ.1 27 x1.toNatClampNeg) rfl dX1_shrunkAs_14 ?_
  obtain ⟨g2, h⟩ := xgd h
  refine xa_i C hW KX_24 g2 (x := σ.1 24 (σ.1 27 x1.toNatClampNeg).toNatClampNeg) rfl dX1_shrunkAs_15 ?_
  refine xc_SN (As := [.int (σ.1 24 (σ.1 27 x1.toNatClampNeg).toNatClampNeg)]) (rest := [.int x2, .ref (g.q 1)]) C hW (m_X11_edgeOf (σ.1 24 (σ.1 27 x1.toNatClampNeg).toNatClampNeg) _ rfl) mf_X11_edgeOf mt_X11_edgeOf xn_X1_133 ⟨rfl, rfl⟩ ⟨Nat.le_of_ble_eq_true rfl, Nat.le_of_ble_eq_true rfl⟩ hl.1 rfl rfl (Nat.le_of_ble_eq_true rfl) dX1_shrunkAs_16 (fun H locs hW => W.eq (g2 := F0 m 19 ls [.int (f_X11_edgeOf (σ.1 24 (σ.1 27 x1.toNatClampNeg).toNatClampNeg) σ), .int x2, .ref (g.q 1)]) rfl ?_)
  obtain ⟨r3_, e3, h⟩ := xbo h
  refine xc_V (As := [.int x2, .int (f_X11_edgeOf (σ.1 24 (σ.1 27 x1.toNatClampNeg).toNatClampNeg) σ)]) (rest := []) C hW (m_X6_shrunk 1 (Or.inl rfl) x2 (f_X11_edgeOf (σ.1 24 (σ.1 27 x1.toNatClampNeg).toNatClampNeg) σ) _ e3) mf_X6_shrunk mv_X6_shrunk ml_X1_136 ⟨rfl, rfl⟩ ⟨Nat.le_of_ble_eq_true rfl, Nat.le_of_ble_eq_true rfl⟩ (KX_sl (Or.inl rfl)) rfl hl.1 rfl rfl (Nat.le_of_ble_eq_true rfl) dX1_shrunkAs_19 (fun H locs hW => W.eq (g2 := F0 m 22 ls [.int r3_]) rfl ?_)
  cases h
  exact xr_i C hW dX1_shrunkAs_22
end
theorem dX1_boxWidth_0 : decode cX1_boxWidth 0 = .ok (.aload_n 0, 1) := by decide +kernel
theorem dX1_boxWidth_1 : decode cX1_boxWidth 1 = .ok (.iload_n 1, 1) := by decide +kernel
theorem dX1_boxWidth_2 : decode cX1_boxWidth 2 = .ok (.aload_n 0, 1) := by decide +kernel
theorem dX1_boxWidth_3 : decode cX1_boxWidth 3 = .ok (.getfield 32, 3) := by decide +kernel
theorem dX1_boxWidth_6 : decode cX1_boxWidth 6 = .ok (.iload_n 1, 1) := by decide +kernel
theorem dX1_boxWidth_7 : decode cX1_boxWidth 7 = .ok (.iaload, 1) := by decide +kernel
theorem dX1_boxWidth_8 : decode cX1_boxWidth 8 = .ok (.invokestatic 130, 3) := by decide +kernel
theorem dX1_boxWidth_11 : decode cX1_boxWidth 11 = .ok (.invokevirtual 139, 3) := by decide +kernel
theorem dX1_boxWidth_14 : decode cX1_boxWidth 14 = .ok (.ireturn, 1) := by decide +kernel
abbrev rm_X1_boxWidth : Room := { frames := 3, cells := 0, slots := 0, locals := 102 }
def f_X1_boxWidth (x1 : Int32) (σ : St) : Option Int32 := grd (ib x1 24) (bo (f_X1_shrunkAs x1 (f_X11_widthOf (σ.1 30 x1.toNatClampNeg) σ) σ) (fun r2_ => some r2_))
section
variable {p : Program} {l : Launch} {e : Env} {s : State} {m : MethodId} {args : Array Value} {below : List Frame} {meth : Method} {c : Code} {g : XG}
set_option maxRecDepth 4000 in
theorem m_X1_boxWidth (x1 : Int32) (σ : St) {r : Int32} (h : f_X1_boxWidth x1 σ = some r) : xM l KX g yX1_boxWidth cX1_boxWidth 2 (some .int) rm_X1_boxWidth [.ref (g.q 23), .int x1] σ (some (.int r)) σ := by
  refine xmet pn_X1 rfl (Nat.le_of_ble_eq_true rfl) (lv := [(0, .ref (g.q 23)), (1, .int x1)]) rfl (fun p e s m args below meth c ls C hW hl => ?_)
  have hx := C.1
  have hb := C.2.1
  unfold f_X1_boxWidth at h
  refine lv_aload_n hx hb dX1_boxWidth_0 rfl (lv_at hl 0 rfl) ?_
  refine lv_iload_n hx hb dX1_boxWidth_1 rfl (lv_at hl 1 rfl) ?_
  refine lv_aload_n hx hb dX1_boxWidth_2 rfl (lv_at hl 0 rfl) ?_
  refine xg_r C hW fg_1_32 KX_23 rfl dX1_boxWidth_3 ?_
  refine lv_iload_n hx hb dX1_boxWidth_6 rfl (lv_at hl 1 rfl) ?_
  obtain ⟨g1, h⟩ := xgd h
  refine xa_i C hW KX_30 g1 (x := σ.1 30 x1.toNatClampNeg) rfl dX1_boxWidth_7 ?_
  refine xc_SN (As := [.int (σ.1 30 x1.toNatClampNeg)]) (rest := [.int x1, .ref (g.q 23)]) C hW (m_X11_widthOf (σ.1 30 x1.toNatClampNeg) _ rfl) mf_X11_widthOf mt_X11_widthOf xn_X1_130 ⟨rfl, rfl⟩ ⟨Nat.le_of_ble_eq_true rfl, Nat.le_of_ble_eq_true rfl⟩ hl.1 rfl rfl (Nat.le_of_ble_eq_true rfl) dX1_boxWidth_8 (fun H locs hW => W.eq (g2 := F0 m 11 ls [.int (f_X11_widthOf (σ.1 30 x1.toNatClampNeg) σ), .int x1, .ref (g.q 23)]) rfl ?_)
  obtain ⟨r2_, e2, h⟩ := xbo h
  refine xc_V (As := [.int x1, .int (f_X11_widthOf (σ.1 30 x1.toNatClampNeg) σ)]) (rest := []) C hW (m_X1_shrunkAs x1 (f_X11_widthOf (σ.1 30 x1.toNatClampNeg) σ) _ e2) mf_X1_shrunkAs mv_X1_shrunkAs ml_X1_139 ⟨rfl, rfl⟩ ⟨Nat.le_of_ble_eq_true rfl, Nat.le_of_ble_eq_true rfl⟩ KX_23 rfl hl.1 rfl rfl (Nat.le_of_ble_eq_true rfl) dX1_boxWidth_11 (fun H locs hW => W.eq (g2 := F0 m 14 ls [.int r2_]) rfl ?_)
  cases h
  exact xr_i C hW dX1_boxWidth_14
end
theorem dX1_boxHeight_0 : decode cX1_boxHeight 0 = .ok (.aload_n 0, 1) := by decide +kernel
theorem dX1_boxHeight_1 : decode cX1_boxHeight 1 = .ok (.iload_n 1, 1) := by decide +kernel
theorem dX1_boxHeight_2 : decode cX1_boxHeight 2 = .ok (.aload_n 0, 1) := by decide +kernel
theorem dX1_boxHeight_3 : decode cX1_boxHeight 3 = .ok (.getfield 32, 3) := by decide +kernel
theorem dX1_boxHeight_6 : decode cX1_boxHeight 6 = .ok (.iload_n 1, 1) := by decide +kernel
theorem dX1_boxHeight_7 : decode cX1_boxHeight 7 = .ok (.iaload, 1) := by decide +kernel
theorem dX1_boxHeight_8 : decode cX1_boxHeight 8 = .ok (.invokestatic 127, 3) := by decide +kernel
theorem dX1_boxHeight_11 : decode cX1_boxHeight 11 = .ok (.invokevirtual 139, 3) := by decide +kernel
theorem dX1_boxHeight_14 : decode cX1_boxHeight 14 = .ok (.ireturn, 1) := by decide +kernel
abbrev rm_X1_boxHeight : Room := { frames := 3, cells := 0, slots := 0, locals := 102 }
def f_X1_boxHeight (x1 : Int32) (σ : St) : Option Int32 := grd (ib x1 24) (bo (f_X1_shrunkAs x1 (f_X11_heightOf (σ.1 30 x1.toNatClampNeg) σ) σ) (fun r2_ => some r2_))
section
variable {p : Program} {l : Launch} {e : Env} {s : State} {m : MethodId} {args : Array Value} {below : List Frame} {meth : Method} {c : Code} {g : XG}
set_option maxRecDepth 4000 in
theorem m_X1_boxHeight (x1 : Int32) (σ : St) {r : Int32} (h : f_X1_boxHeight x1 σ = some r) : xM l KX g yX1_boxHeight cX1_boxHeight 2 (some .int) rm_X1_boxHeight [.ref (g.q 23), .int x1] σ (some (.int r)) σ := by
  refine xmet pn_X1 rfl (Nat.le_of_ble_eq_true rfl) (lv := [(0, .ref (g.q 23)), (1, .int x1)]) rfl (fun p e s m args below meth c ls C hW hl => ?_)
  have hx := C.1
  have hb := C.2.1
  unfold f_X1_boxHeight at h
  refine lv_aload_n hx hb dX1_boxHeight_0 rfl (lv_at hl 0 rfl) ?_
  refine lv_iload_n hx hb dX1_boxHeight_1 rfl (lv_at hl 1 rfl) ?_
  refine lv_aload_n hx hb dX1_boxHeight_2 rfl (lv_at hl 0 rfl) ?_
  refine xg_r C hW fg_1_32 KX_23 rfl dX1_boxHeight_3 ?_
  refine lv_iload_n hx hb dX1_boxHeight_6 rfl (lv_at hl 1 rfl) ?_
  obtain ⟨g1, h⟩ := xgd h
  refine xa_i C hW KX_30 g1 (x := σ.1 30 x1.toNatClampNeg) rfl dX1_boxHeight_7 ?_
  refine xc_SN (As := [.int (σ.1 30 x1.toNatClampNeg)]) (rest := [.int x1, .ref (g.q 23)]) C hW (m_X11_heightOf (σ.1 30 x1.toNatClampNeg) _ rfl) mf_X11_heightOf mt_X11_heightOf xn_X1_127 ⟨rfl, rfl⟩ ⟨Nat.le_of_ble_eq_true rfl, Nat.le_of_ble_eq_true rfl⟩ hl.1 rfl rfl (Nat.le_of_ble_eq_true rfl) dX1_boxHeight_8 (fun H locs hW => W.eq (g2 := F0 m 11 ls [.int (f_X11_heightOf (σ.1 30 x1.toNatClampNeg) σ), .int x1, .ref (g.q 23)]) rfl ?_)
  obtain ⟨r2_, e2, h⟩ := xbo h
  refine xc_V (As := [.int x1, .int (f_X11_heightOf (σ.1 30 x1.toNatClampNeg) σ)]) (rest := []) C hW (m_X1_shrunkAs x1 (f_X11_heightOf (σ.1 30 x1.toNatClampNeg) σ) _ e2) mf_X1_shrunkAs mv_X1_shrunkAs ml_X1_139 ⟨rfl, rfl⟩ ⟨Nat.le_of_ble_eq_true rfl, Nat.le_of_ble_eq_true rfl⟩ KX_23 rfl hl.1 rfl rfl (Nat.le_of_ble_eq_true rfl) dX1_boxHeight_11 (fun H locs hW => W.eq (g2 := F0 m 14 ls [.int r2_]) rfl ?_)
  cases h
  exact xr_i C hW dX1_boxHeight_14
end
theorem dX1_leftEdge_0 : decode cX1_leftEdge 0 = .ok (.aload_n 0, 1) := by decide +kernel
theorem dX1_leftEdge_1 : decode cX1_leftEdge 1 = .ok (.getfield 41, 3) := by decide +kernel
theorem dX1_leftEdge_4 : decode cX1_leftEdge 4 = .ok (.getfield 120, 3) := by decide +kernel
theorem dX1_leftEdge_7 : decode cX1_leftEdge 7 = .ok (.iconst 1, 1) := by decide +kernel
theorem dX1_leftEdge_8 : decode cX1_leftEdge 8 = .ok (.iaload, 1) := by decide +kernel
theorem dX1_leftEdge_9 : decode cX1_leftEdge 9 = .ok (.istore_n 3, 1) := by decide +kernel
theorem dX1_leftEdge_10 : decode cX1_leftEdge 10 = .ok (.iload_n 3, 1) := by decide +kernel
theorem dX1_leftEdge_11 : decode cX1_leftEdge 11 = .ok (.aload_n 0, 1) := by decide +kernel
theorem dX1_leftEdge_12 : decode cX1_leftEdge 12 = .ok (.iload_n 1, 1) := by decide +kernel
theorem dX1_leftEdge_13 : decode cX1_leftEdge 13 = .ok (.aload_n 0, 1) := by decide +kernel
theorem dX1_leftEdge_14 : decode cX1_leftEdge 14 = .ok (.getfield 11, 3) := by decide +kernel
theorem dX1_leftEdge_17 : decode cX1_leftEdge 17 = .ok (.aload_n 0, 1) := by decide +kernel
theorem dX1_leftEdge_18 : decode cX1_leftEdge 18 = .ok (.getfield 23, 3) := by decide +kernel
theorem dX1_leftEdge_21 : decode cX1_leftEdge 21 = .ok (.iload_n 1, 1) := by decide +kernel
theorem dX1_leftEdge_22 : decode cX1_leftEdge 22 = .ok (.iaload, 1) := by decide +kernel
theorem dX1_leftEdge_23 : decode cX1_leftEdge 23 = .ok (.iaload, 1) := by decide +kernel
theorem dX1_leftEdge_24 : decode cX1_leftEdge 24 = .ok (.invokestatic 130, 3) := by decide +kernel
theorem dX1_leftEdge_27 : decode cX1_leftEdge 27 = .ok (.invokevirtual 139, 3) := by decide +kernel
theorem dX1_leftEdge_30 : decode cX1_leftEdge 30 = .ok (.isub, 1) := by decide +kernel
theorem dX1_leftEdge_31 : decode cX1_leftEdge 31 = .ok (.iconst 2, 1) := by decide +kernel
theorem dX1_leftEdge_32 : decode cX1_leftEdge 32 = .ok (.idiv, 1) := by decide +kernel
theorem dX1_leftEdge_33 : decode cX1_leftEdge 33 = .ok (.istore 4, 2) := by decide +kernel
theorem dX1_leftEdge_35 : decode cX1_leftEdge 35 = .ok (.aload_n 0, 1) := by decide +kernel
theorem dX1_leftEdge_36 : decode cX1_leftEdge 36 = .ok (.iload_n 1, 1) := by decide +kernel
theorem dX1_leftEdge_37 : decode cX1_leftEdge 37 = .ok (.aload_n 0, 1) := by decide +kernel
theorem dX1_leftEdge_38 : decode cX1_leftEdge 38 = .ok (.getfield 26, 3) := by decide +kernel
theorem dX1_leftEdge_41 : decode cX1_leftEdge 41 = .ok (.iload_n 1, 1) := by decide +kernel
theorem dX1_leftEdge_42 : decode cX1_leftEdge 42 = .ok (.iaload, 1) := by decide +kernel
theorem dX1_leftEdge_43 : decode cX1_leftEdge 43 = .ok (.invokevirtual 139, 3) := by decide +kernel
theorem dX1_leftEdge_46 : decode cX1_leftEdge 46 = .ok (.iload 4, 2) := by decide +kernel
theorem dX1_leftEdge_48 : decode cX1_leftEdge 48 = .ok (.iadd, 1) := by decide +kernel
theorem dX1_leftEdge_49 : decode cX1_leftEdge 49 = .ok (.istore 5, 2) := by decide +kernel
theorem dX1_leftEdge_51 : decode cX1_leftEdge 51 = .ok (.iload_n 2, 1) := by decide +kernel
theorem dX1_leftEdge_52 : decode cX1_leftEdge 52 = .ok (.ifCond .eq 16, 3) := by decide +kernel
theorem dX1_leftEdge_55 : decode cX1_leftEdge 55 = .ok (.iload_n 3, 1) := by decide +kernel
theorem dX1_leftEdge_56 : decode cX1_leftEdge 56 = .ok (.iload 5, 2) := by decide +kernel
theorem dX1_leftEdge_58 : decode cX1_leftEdge 58 = .ok (.aload_n 0, 1) := by decide +kernel
theorem dX1_leftEdge_59 : decode cX1_leftEdge 59 = .ok (.iload_n 1, 1) := by decide +kernel
theorem dX1_leftEdge_60 : decode cX1_leftEdge 60 = .ok (.invokevirtual 142, 3) := by decide +kernel
theorem dX1_leftEdge_63 : decode cX1_leftEdge 63 = .ok (.iadd, 1) := by decide +kernel
theorem dX1_leftEdge_64 : decode cX1_leftEdge 64 = .ok (.isub, 1) := by decide +kernel
theorem dX1_leftEdge_65 : decode cX1_leftEdge 65 = .ok (.goto 5, 3) := by decide +kernel
theorem dX1_leftEdge_68 : decode cX1_leftEdge 68 = .ok (.iload 5, 2) := by decide +kernel
theorem dX1_leftEdge_70 : decode cX1_leftEdge 70 = .ok (.ireturn, 1) := by decide +kernel
abbrev rm_X1_leftEdge : Room := { frames := 4, cells := 0, slots := 0, locals := 123 }
def f_X1_leftEdge (x1 : Int32) (x2 : Int32) (σ : St) : Option Int32 := grd (ib 1 4) (grd (ib x1 24) (grd (ib (σ.1 27 x1.toNatClampNeg) 12) (bo (f_X1_shrunkAs x1 (f_X11_widthOf (σ.1 24 (σ.1 27 x1.toNatClampNeg).toNatClampNeg) σ) σ) (fun r4_ => grd (ib x1 24) (bo (f_X1_shrunkAs x1 (σ.1 28 x1.toNatClampNeg) σ) (fun r7_ => (if x2 = 0 then some (r7_ + (((σ.1 10 1) - r4_) / 2)) else bo (f_X1_boxWidth x1 σ) (fun r9_ => some ((σ.1 10 1) - ((r7_ + (((σ.1 10 1) - r4_) / 2)) + r9_))))))))))
section
variable {p : Program} {l : Launch} {e : Env} {s : State} {m : MethodId} {args : Array Value} {below : List Frame} {meth : Method} {c : Code} {g : XG}
set_option maxRecDepth 4000 in
theorem m_X1_leftEdge (x1 : Int32) (x2 : Int32) (σ : St) {r : Int32} (h : f_X1_leftEdge x1 x2 σ = some r) : xM l KX g yX1_leftEdge cX1_leftEdge 6 (some .int) rm_X1_leftEdge [.ref (g.q 23), .int x1, .int x2] σ (some (.int r)) σ := by
  refine xmet pn_X1 rfl (Nat.le_of_ble_eq_true rfl) (lv := [(0, .ref (g.q 23)), (1, .int x1), (2, .int x2)]) rfl (fun p e s m args below meth c ls C hW hl => ?_)
  have hx := C.1
  have hb := C.2.1
  unfold f_X1_leftEdge at h
  refine lv_aload_n hx hb dX1_leftEdge_0 rfl (lv_at hl 0 rfl) ?_
  refine xg_r C hW fg_1_41 KX_23 rfl dX1_leftEdge_1 ?_
  refine xg_r C hW fg_1_120 KX_1 rfl dX1_leftEdge_4 ?_
  refine lv_iconst (v := 1) hx hb dX1_leftEdge_7 rfl ?_
  obtain ⟨g1, h⟩ := xgd h
  refine xa_i C hW KX_10 g1 (x := σ.1 10 1) rfl dX1_leftEdge_8 ?_
  refine lv_istore_n (lv' := [(3, .int (σ.1 10 1)), (0, .ref (g.q 23)), (1, .int x1), (2, .int x2)]) hx hb dX1_leftEdge_9 rfl hl (Nat.le_of_ble_eq_true rfl) rfl (fun ls hl => ?_)
  refine lv_iload_n hx hb dX1_leftEdge_10 rfl (lv_at hl 0 rfl) ?_
  refine lv_aload_n hx hb dX1_leftEdge_11 rfl (lv_at hl 1 rfl) ?_
  refine lv_iload_n hx hb dX1_leftEdge_12 rfl (lv_at hl 2 rfl) ?_
  refine lv_aload_n hx hb dX1_leftEdge_13 rfl (lv_at hl 1 rfl) ?_
  refine xg_r C hW fg_1_11 KX_23 rfl dX1_leftEdge_14 ?_
  refine lv_aload_n hx hb dX1_leftEdge_17 rfl (lv_at hl 1 rfl) ?_
  refine xg_r C hW fg_1_23 KX_23 rfl dX1_leftEdge_18 ?_
  refine lv_iload_n hx hb dX1_leftEdge_21 rfl (lv_at hl 2 rfl) ?_
  obtain ⟨g2, h⟩ := xgd h
  refine xa_i C hW KX_27 g2 (x := σ.1 27 x1.toNatClampNeg) rfl dX1_leftEdge_22 ?_
  obtain ⟨g3, h⟩ := xgd h
  refine xa_i C hW KX_24 g3 (x := σ.1 24 (σ.1 27 x1.toNatClampNeg).toNatClampNeg) rfl dX1_leftEdge_23 ?_
  refine xc_SN (As := [.int (σ.1 24 (σ.1 27 x1.toNatClampNeg).toNatClampNeg)]) (rest := [.int x1, .ref (g.q 23), .int (σ.1 10 1)]) C hW (m_X11_widthOf (σ.1 24 (σ.1 27 x1.toNatClampNeg).toNatClampNeg) _ rfl) mf_X11_widthOf mt_X11_widthOf xn_X1_130 ⟨rfl, rfl⟩ ⟨Nat.le_of_ble_eq_true rfl, Nat.le_of_ble_eq_true rfl⟩ hl.1 rfl rfl (Nat.le_of_ble_eq_true rfl) dX1_leftEdge_24 (fun H locs hW => W.eq (g2 := F0 m 27 ls [.int (f_X11_widthOf (σ.1 24 (σ.1 27 x1.toNatClampNeg).toNatClampNeg) σ), .int x1, .ref (g.q 23), .int (σ.1 10 1)]) rfl ?_)
  obtain ⟨r4_, e4, h⟩ := xbo h
  refine xc_V (As := [.int x1, .int (f_X11_widthOf (σ.1 24 (σ.1 27 x1.toNatClampNeg).toNatClampNeg) σ)]) (rest := [.int (σ.1 10 1)]) C hW (m_X1_shrunkAs x1 (f_X11_widthOf (σ.1 24 (σ.1 27 x1.toNatClampNeg).toNatClampNeg) σ) _ e4) mf_X1_shrunkAs mv_X1_shrunkAs ml_X1_139 ⟨rfl, rfl⟩ ⟨Nat.le_of_ble_eq_true rfl, Nat.le_of_ble_eq_true rfl⟩ KX_23 rfl hl.1 rfl rfl (Nat.le_of_ble_eq_true rfl) dX1_leftEdge_27 (fun H locs hW => W.eq (g2 := F0 m 30 ls [.int r4_, .int (σ.1 10 1)]) rfl ?_)
  refine lv_isub hx hb dX1_leftEdge_30 ?_
  refine lv_iconst (v := 2) hx hb dX1_leftEdge_31 rfl ?_
  refine lv_idiv hx hb dX1_leftEdge_32 (by decide) ?_
  refine lv_istore (lv' := [(4, .int (((σ.1 10 1) - r4_) / 2)), (3, .int (σ.1 10 1)), (0, .ref (g.q 23)), (1, .int x1), (2, .int x2)]) hx hb dX1_leftEdge_33 hl (Nat.le_of_ble_eq_true rfl) rfl (fun ls hl => ?_)
  refine lv_aload_n hx hb dX1_leftEdge_35 rfl (lv_at hl 2 rfl) ?_
  refine lv_iload_n hx hb dX1_leftEdge_36 rfl (lv_at hl 3 rfl) ?_
  refine lv_aload_n hx hb dX1_leftEdge_37 rfl (lv_at hl 2 rfl) ?_
  refine xg_r C hW fg_1_26 KX_23 rfl dX1_leftEdge_38 ?_
  refine lv_iload_n hx hb dX1_leftEdge_41 rfl (lv_at hl 3 rfl) ?_
  obtain ⟨g6, h⟩ := xgd h
  refine xa_i C hW KX_28 g6 (x := σ.1 28 x1.toNatClampNeg) rfl dX1_leftEdge_42 ?_
  obtain ⟨r7_, e7, h⟩ := xbo h
  refine xc_V (As := [.int x1, .int (σ.1 28 x1.toNatClampNeg)]) (rest := []) C hW (m_X1_shrunkAs x1 (σ.1 28 x1.toNatClampNeg) _ e7) mf_X1_shrunkAs mv_X1_shrunkAs ml_X1_139 ⟨rfl, rfl⟩ ⟨Nat.le_of_ble_eq_true rfl, Nat.le_of_ble_eq_true rfl⟩ KX_23 rfl hl.1 rfl rfl (Nat.le_of_ble_eq_true rfl) dX1_leftEdge_43 (fun H locs hW => W.eq (g2 := F0 m 46 ls [.int r7_]) rfl ?_)
  refine lv_iload hx hb dX1_leftEdge_46 (lv_at hl 0 rfl) ?_
  refine lv_iadd hx hb dX1_leftEdge_48 ?_
  refine lv_istore (lv' := [(5, .int (r7_ + (((σ.1 10 1) - r4_) / 2))), (4, .int (((σ.1 10 1) - r4_) / 2)), (3, .int (σ.1 10 1)), (0, .ref (g.q 23)), (1, .int x1), (2, .int x2)]) hx hb dX1_leftEdge_49 hl (Nat.le_of_ble_eq_true rfl) rfl (fun ls hl => ?_)
  refine lv_iload_n hx hb dX1_leftEdge_51 rfl (lv_at hl 5 rfl) ?_
  refine lv_if_eq (tgt := 68) hx hb dX1_leftEdge_52 (by decide) (fun c8 => ?_) (fun c8 => ?_)
  · have h := xit c8 h
    refine lv_iload hx hb dX1_leftEdge_68 (lv_at hl 0 rfl) ?_
    cases h
    exact xr_i C hW dX1_leftEdge_70
  · have h := xif c8 h
    refine lv_iload_n hx hb dX1_leftEdge_55 rfl (lv_at hl 2 rfl) ?_
    refine lv_iload hx hb dX1_leftEdge_56 (lv_at hl 0 rfl) ?_
    refine lv_aload_n hx hb dX1_leftEdge_58 rfl (lv_at hl 3 rfl) ?_
    refine lv_iload_n hx hb dX1_leftEdge_59 rfl (lv_at hl 4 rfl) ?_
    obtain ⟨r9_, e9, h⟩ := xbo h
    refine xc_V (As := [.int x1]) (rest := [.int (r7_ + (((σ.1 10 1) - r4_) / 2)), .int (σ.1 10 1)]) C hW (m_X1_boxWidth x1 _ e9) mf_X1_boxWidth mv_X1_boxWidth ml_X1_142 ⟨rfl, rfl⟩ ⟨Nat.le_of_ble_eq_true rfl, Nat.le_of_ble_eq_true rfl⟩ KX_23 rfl hl.1 rfl rfl (Nat.le_of_ble_eq_true rfl) dX1_leftEdge_60 (fun H locs hW => W.eq (g2 := F0 m 63 ls [.int r9_, .int (r7_ + (((σ.1 10 1) - r4_) / 2)), .int (σ.1 10 1)]) rfl ?_)
    refine lv_iadd hx hb dX1_leftEdge_63 ?_
    refine lv_isub hx hb dX1_leftEdge_64 ?_
    refine lv_goto (tgt := 70) hx hb dX1_leftEdge_65 (by decide) ?_
    cases h
    exact xr_i C hW dX1_leftEdge_70
end
theorem dX1_upperEdge_0 : decode cX1_upperEdge 0 = .ok (.aload_n 0, 1) := by decide +kernel
theorem dX1_upperEdge_1 : decode cX1_upperEdge 1 = .ok (.getfield 41, 3) := by decide +kernel
theorem dX1_upperEdge_4 : decode cX1_upperEdge 4 = .ok (.getfield 120, 3) := by decide +kernel
theorem dX1_upperEdge_7 : decode cX1_upperEdge 7 = .ok (.iconst 1, 1) := by decide +kernel
theorem dX1_upperEdge_8 : decode cX1_upperEdge 8 = .ok (.iaload, 1) := by decide +kernel
theorem dX1_upperEdge_9 : decode cX1_upperEdge 9 = .ok (.istore_n 2, 1) := by decide +kernel
theorem dX1_upperEdge_10 : decode cX1_upperEdge 10 = .ok (.iload_n 2, 1) := by decide +kernel
theorem dX1_upperEdge_11 : decode cX1_upperEdge 11 = .ok (.aload_n 0, 1) := by decide +kernel
theorem dX1_upperEdge_12 : decode cX1_upperEdge 12 = .ok (.iload_n 1, 1) := by decide +kernel
theorem dX1_upperEdge_13 : decode cX1_upperEdge 13 = .ok (.aload_n 0, 1) := by decide +kernel
theorem dX1_upperEdge_14 : decode cX1_upperEdge 14 = .ok (.getfield 11, 3) := by decide +kernel
theorem dX1_upperEdge_17 : decode cX1_upperEdge 17 = .ok (.aload_n 0, 1) := by decide +kernel
theorem dX1_upperEdge_18 : decode cX1_upperEdge 18 = .ok (.getfield 23, 3) := by decide +kernel
theorem dX1_upperEdge_21 : decode cX1_upperEdge 21 = .ok (.iload_n 1, 1) := by decide +kernel
theorem dX1_upperEdge_22 : decode cX1_upperEdge 22 = .ok (.iaload, 1) := by decide +kernel
theorem dX1_upperEdge_23 : decode cX1_upperEdge 23 = .ok (.iaload, 1) := by decide +kernel
theorem dX1_upperEdge_24 : decode cX1_upperEdge 24 = .ok (.invokestatic 127, 3) := by decide +kernel
theorem dX1_upperEdge_27 : decode cX1_upperEdge 27 = .ok (.invokevirtual 139, 3) := by decide +kernel
theorem dX1_upperEdge_30 : decode cX1_upperEdge 30 = .ok (.isub, 1) := by decide +kernel
theorem dX1_upperEdge_31 : decode cX1_upperEdge 31 = .ok (.iconst 2, 1) := by decide +kernel
theorem dX1_upperEdge_32 : decode cX1_upperEdge 32 = .ok (.idiv, 1) := by decide +kernel
theorem dX1_upperEdge_33 : decode cX1_upperEdge 33 = .ok (.istore_n 3, 1) := by decide +kernel
theorem dX1_upperEdge_34 : decode cX1_upperEdge 34 = .ok (.aload_n 0, 1) := by decide +kernel
theorem dX1_upperEdge_35 : decode cX1_upperEdge 35 = .ok (.iload_n 1, 1) := by decide +kernel
theorem dX1_upperEdge_36 : decode cX1_upperEdge 36 = .ok (.aload_n 0, 1) := by decide +kernel
theorem dX1_upperEdge_37 : decode cX1_upperEdge 37 = .ok (.getfield 29, 3) := by decide +kernel
theorem dX1_upperEdge_40 : decode cX1_upperEdge 40 = .ok (.iload_n 1, 1) := by decide +kernel
theorem dX1_upperEdge_41 : decode cX1_upperEdge 41 = .ok (.iaload, 1) := by decide +kernel
theorem dX1_upperEdge_42 : decode cX1_upperEdge 42 = .ok (.invokevirtual 139, 3) := by decide +kernel
theorem dX1_upperEdge_45 : decode cX1_upperEdge 45 = .ok (.iload_n 3, 1) := by decide +kernel
theorem dX1_upperEdge_46 : decode cX1_upperEdge 46 = .ok (.iadd, 1) := by decide +kernel
theorem dX1_upperEdge_47 : decode cX1_upperEdge 47 = .ok (.ireturn, 1) := by decide +kernel
abbrev rm_X1_upperEdge : Room := { frames := 3, cells := 0, slots := 0, locals := 102 }
def f_X1_upperEdge (x1 : Int32) (σ : St) : Option Int32 := grd (ib 1 4) (grd (ib x1 24) (grd (ib (σ.1 27 x1.toNatClampNeg) 12) (bo (f_X1_shrunkAs x1 (f_X11_heightOf (σ.1 24 (σ.1 27 x1.toNatClampNeg).toNatClampNeg) σ) σ) (fun r4_ => grd (ib x1 24) (bo (f_X1_shrunkAs x1 (σ.1 29 x1.toNatClampNeg) σ) (fun r7_ => some (r7_ + (((σ.1 10 1) - r4_) / 2))))))))
section
variable {p : Program} {l : Launch} {e : Env} {s : State} {m : MethodId} {args : Array Value} {below : List Frame} {meth : Method} {c : Code} {g : XG}
set_option maxRecDepth 4000 in
theorem m_X1_upperEdge (x1 : Int32) (σ : St) {r : Int32} (h : f_X1_upperEdge x1 σ = some r) : xM l KX g yX1_upperEdge cX1_upperEdge 4 (some .int) rm_X1_upperEdge [.ref (g.q 23), .int x1] σ (some (.int r)) σ := by
  refine xmet pn_X1 rfl (Nat.le_of_ble_eq_true rfl) (lv := [(0, .ref (g.q 23)), (1, .int x1)]) rfl (fun p e s m args below meth c ls C hW hl => ?_)
  have hx := C.1
  have hb := C.2.1
  unfold f_X1_upperEdge at h
  refine lv_aload_n hx hb dX1_upperEdge_0 rfl (lv_at hl 0 rfl) ?_
  refine xg_r C hW fg_1_41 KX_23 rfl dX1_upperEdge_1 ?_
  refine xg_r C hW fg_1_120 KX_1 rfl dX1_upperEdge_4 ?_
  refine lv_iconst (v := 1) hx hb dX1_upperEdge_7 rfl ?_
  obtain ⟨g1, h⟩ := xgd h
  refine xa_i C hW KX_10 g1 (x := σ.1 10 1) rfl dX1_upperEdge_8 ?_
  refine lv_istore_n (lv' := [(2, .int (σ.1 10 1)), (0, .ref (g.q 23)), (1, .int x1)]) hx hb dX1_upperEdge_9 rfl hl (Nat.le_of_ble_eq_true rfl) rfl (fun ls hl => ?_)
  refine lv_iload_n hx hb dX1_upperEdge_10 rfl (lv_at hl 0 rfl) ?_
  refine lv_aload_n hx hb dX1_upperEdge_11 rfl (lv_at hl 1 rfl) ?_
  refine lv_iload_n hx hb dX1_upperEdge_12 rfl (lv_at hl 2 rfl) ?_
  refine lv_aload_n hx hb dX1_upperEdge_13 rfl (lv_at hl 1 rfl) ?_
  refine xg_r C hW fg_1_11 KX_23 rfl dX1_upperEdge_14 ?_
  refine lv_aload_n hx hb dX1_upperEdge_17 rfl (lv_at hl 1 rfl) ?_
  refine xg_r C hW fg_1_23 KX_23 rfl dX1_upperEdge_18 ?_
  refine lv_iload_n hx hb dX1_upperEdge_21 rfl (lv_at hl 2 rfl) ?_
  obtain ⟨g2, h⟩ := xgd h
  refine xa_i C hW KX_27 g2 (x := σ.1 27 x1.toNatClampNeg) rfl dX1_upperEdge_22 ?_
  obtain ⟨g3, h⟩ := xgd h
  refine xa_i C hW KX_24 g3 (x := σ.1 24 (σ.1 27 x1.toNatClampNeg).toNatClampNeg) rfl dX1_upperEdge_23 ?_
  refine xc_SN (As := [.int (σ.1 24 (σ.1 27 x1.toNatClampNeg).toNatClampNeg)]) (rest := [.int x1, .ref (g.q 23), .int (σ.1 10 1)]) C hW (m_X11_heightOf (σ.1 24 (σ.1 27 x1.toNatClampNeg).toNatClampNeg) _ rfl) mf_X11_heightOf mt_X11_heightOf xn_X1_127 ⟨rfl, rfl⟩ ⟨Nat.le_of_ble_eq_true rfl, Nat.le_of_ble_eq_true rfl⟩ hl.1 rfl rfl (Nat.le_of_ble_eq_true rfl) dX1_upperEdge_24 (fun H locs hW => W.eq (g2 := F0 m 27 ls [.int (f_X11_heightOf (σ.1 24 (σ.1 27 x1.toNatClampNeg).toNatClampNeg) σ), .int x1, .ref (g.q 23), .int (σ.1 10 1)]) rfl ?_)
  obtain ⟨r4_, e4, h⟩ := xbo h
  refine xc_V (As := [.int x1, .int (f_X11_heightOf (σ.1 24 (σ.1 27 x1.toNatClampNeg).toNatClampNeg) σ)]) (rest := [.int (σ.1 10 1)]) C hW (m_X1_shrunkAs x1 (f_X11_heightOf (σ.1 24 (σ.1 27 x1.toNatClampNeg).toNatClampNeg) σ) _ e4) mf_X1_shrunkAs mv_X1_shrunkAs ml_X1_139 ⟨rfl, rfl⟩ ⟨Nat.le_of_ble_eq_true rfl, Nat.le_of_ble_eq_true rfl⟩ KX_23 rfl hl.1 rfl rfl (Nat.le_of_ble_eq_true rfl) dX1_upperEdge_27 (fun H locs hW => W.eq (g2 := F0 m 30 ls [.int r4_, .int (σ.1 10 1)]) rfl ?_)
  refine lv_isub hx hb dX1_upperEdge_30 ?_
  refine lv_iconst (v := 2) hx hb dX1_upperEdge_31 rfl ?_
  refine lv_idiv hx hb dX1_upperEdge_32 (by decide) ?_
  refine lv_istore_n (lv' := [(3, .int (((σ.1 10 1) - r4_) / 2)), (2, .int (σ.1 10 1)), (0, .ref (g.q 23)), (1, .int x1)]) hx hb dX1_upperEdge_33 rfl hl (Nat.le_of_ble_eq_true rfl) rfl (fun ls hl => ?_)
  refine lv_aload_n hx hb dX1_upperEdge_34 rfl (lv_at hl 2 rfl) ?_
  refine lv_iload_n hx hb dX1_upperEdge_35 rfl (lv_at hl 3 rfl) ?_
  refine lv_aload_n hx hb dX1_upperEdge_36 rfl (lv_at hl 2 rfl) ?_
  refine xg_r C hW fg_1_29 KX_23 rfl dX1_upperEdge_37 ?_
  refine lv_iload_n hx hb dX1_upperEdge_40 rfl (lv_at hl 3 rfl) ?_
  obtain ⟨g6, h⟩ := xgd h
  refine xa_i C hW KX_29 g6 (x := σ.1 29 x1.toNatClampNeg) rfl dX1_upperEdge_41 ?_
  obtain ⟨r7_, e7, h⟩ := xbo h
  refine xc_V (As := [.int x1, .int (σ.1 29 x1.toNatClampNeg)]) (rest := []) C hW (m_X1_shrunkAs x1 (σ.1 29 x1.toNatClampNeg) _ e7) mf_X1_shrunkAs mv_X1_shrunkAs ml_X1_139 ⟨rfl, rfl⟩ ⟨Nat.le_of_ble_eq_true rfl, Nat.le_of_ble_eq_true rfl⟩ KX_23 rfl hl.1 rfl rfl (Nat.le_of_ble_eq_true rfl) dX1_upperEdge_42 (fun H locs hW => W.eq (g2 := F0 m 45 ls [.int r7_]) rfl ?_)
  refine lv_iload_n hx hb dX1_upperEdge_45 rfl (lv_at hl 0 rfl) ?_
  refine lv_iadd hx hb dX1_upperEdge_46 ?_
  cases h
  exact xr_i C hW dX1_upperEdge_47
end
theorem dX6_isLegible_0 : decode cX6_isLegible 0 = .ok (.aload_n 0, 1) := by decide +kernel
theorem dX6_isLegible_1 : decode cX6_isLegible 1 = .ok (.bipush 100, 2) := by decide +kernel
theorem dX6_isLegible_3 : decode cX6_isLegible 3 = .ok (.iload_n 1, 1) := by decide +kernel
theorem dX6_isLegible_4 : decode cX6_isLegible 4 = .ok (.invokevirtual 50, 3) := by decide +kernel
theorem dX6_isLegible_7 : decode cX6_isLegible 7 = .ok (.aload_n 0, 1) := by decide +kernel
theorem dX6_isLegible_8 : decode cX6_isLegible 8 = .ok (.getfield 34, 3) := by decide +kernel
theorem dX6_isLegible_11 : decode cX6_isLegible 11 = .ok (.iconst 2, 1) := by decide +kernel
theorem dX6_isLegible_12 : decode cX6_isLegible 12 = .ok (.iaload, 1) := by decide +kernel
theorem dX6_isLegible_13 : decode cX6_isLegible 13 = .ok (.if_icmp .lt 7, 3) := by decide +kernel
theorem dX6_isLegible_16 : decode cX6_isLegible 16 = .ok (.iconst 1, 1) := by decide +kernel
theorem dX6_isLegible_17 : decode cX6_isLegible 17 = .ok (.goto 4, 3) := by decide +kernel
theorem dX6_isLegible_20 : decode cX6_isLegible 20 = .ok (.iconst 0, 1) := by decide +kernel
theorem dX6_isLegible_21 : decode cX6_isLegible 21 = .ok (.ireturn, 1) := by decide +kernel
abbrev rm_X6_isLegible : Room := { frames := 1, cells := 0, slots := 0, locals := 24 }
def f_X6_isLegible (o : Nat) (x1 : Int32) (σ : St) : Option Int32 := bo (f_X6_shrunk o 100 x1 σ) (fun r1_ => grd (ib 2 4) ((if r1_ < (σ.1 (8 * o + 8 - 6) 2) then some 0 else some 1)))
section
variable {p : Program} {l : Launch} {e : Env} {s : State} {m : MethodId} {args : Array Value} {below : List Frame} {meth : Method} {c : Code} {g : XG}
set_option maxRecDepth 4000 in
theorem m_X6_isLegible (o : Nat) (ho : o = 1 ∨ o = 2) (x1 : Int32) (σ : St) {r : Int32} (h : f_X6_isLegible o x1 σ = some r) : xM l KX g yX6_isLegible cX6_isLegible 2 (some .boolean) rm_X6_isLegible [.ref (g.q o), .int x1] σ (some (.int r)) σ := by
  refine xmet pn_X6 rfl (Nat.le_of_ble_eq_true rfl) (lv := [(0, .ref (g.q o)), (1, .int x1)]) rfl (fun p e s m args below meth c ls C hW hl => ?_)
  have hx := C.1
  have hb := C.2.1
  unfold f_X6_isLegible at h
  refine lv_aload_n hx hb dX6_isLegible_0 rfl (lv_at hl 0 rfl) ?_
  refine lv_bipush (v := 100) hx hb dX6_isLegible_1 rfl ?_
  refine lv_iload_n hx hb dX6_isLegible_3 rfl (lv_at hl 1 rfl) ?_
  obtain ⟨r1_, e1, h⟩ := xbo h
  refine xc_V (As := [.int 100, .int x1]) (rest := []) C hW (m_X6_shrunk o ho 100 x1 _ e1) mf_X6_shrunk mv_X6_shrunk ml_X6_50 ⟨rfl, rfl⟩ ⟨Nat.le_of_ble_eq_true rfl, Nat.le_of_ble_eq_true rfl⟩ (KX_sl ho) rfl hl.1 rfl rfl (Nat.le_of_ble_eq_true rfl) dX6_isLegible_4 (fun H locs hW => W.eq (g2 := F0 m 7 ls [.int r1_]) rfl ?_)
  refine lv_aload_n hx hb dX6_isLegible_7 rfl (lv_at hl 0 rfl) ?_
  refine xg_r C hW fg_6_34 (KX_sl ho) rfl dX6_isLegible_8 ?_
  refine lv_iconst (v := 2) hx hb dX6_isLegible_11 rfl ?_
  obtain ⟨g2, h⟩ := xgd h
  refine xa_i C hW (KX_sl_8 ho) g2 (x := σ.1 (8 * o + 8 - 6) 2) rfl dX6_isLegible_12 ?_
  refine lv_icmp_lt (tgt := 20) hx hb dX6_isLegible_13 (by decide) (fun c3 => ?_) (fun c3 => ?_)
  · have h := xit c3 h
    refine lv_iconst (v := 0) hx hb dX6_isLegible_20 rfl ?_
    cases h
    exact xr_z C hW (by decide) dX6_isLegible_21
  · have h := xif c3 h
    refine lv_iconst (v := 1) hx hb dX6_isLegible_16 rfl ?_
    refine lv_goto (tgt := 21) hx hb dX6_isLegible_17 (by decide) ?_
    cases h
    exact xr_z C hW (by decide) dX6_isLegible_21
end
theorem dX1_firstIllegible_0 : decode cX1_firstIllegible 0 = .ok (.iconst 0, 1) := by decide +kernel
theorem dX1_firstIllegible_1 : decode cX1_firstIllegible 1 = .ok (.istore_n 1, 1) := by decide +kernel
theorem dX1_firstIllegible_2 : decode cX1_firstIllegible 2 = .ok (.iload_n 1, 1) := by decide +kernel
theorem dX1_firstIllegible_3 : decode cX1_firstIllegible 3 = .ok (.aload_n 0, 1) := by decide +kernel
theorem dX1_firstIllegible_4 : decode cX1_firstIllegible 4 = .ok (.getfield 49, 3) := by decide +kernel
theorem dX1_firstIllegible_7 : decode cX1_firstIllegible 7 = .ok (.if_icmp .ge 30, 3) := by decide +kernel
theorem dX1_firstIllegible_10 : decode cX1_firstIllegible 10 = .ok (.aload_n 0, 1) := by decide +kernel
theorem dX1_firstIllegible_11 : decode cX1_firstIllegible 11 = .ok (.getfield 41, 3) := by decide +kernel
theorem dX1_firstIllegible_14 : decode cX1_firstIllegible 14 = .ok (.aload_n 0, 1) := by decide +kernel
theorem dX1_firstIllegible_15 : decode cX1_firstIllegible 15 = .ok (.getfield 11, 3) := by decide +kernel
theorem dX1_firstIllegible_18 : decode cX1_firstIllegible 18 = .ok (.iload_n 1, 1) := by decide +kernel
theorem dX1_firstIllegible_19 : decode cX1_firstIllegible 19 = .ok (.iaload, 1) := by decide +kernel
theorem dX1_firstIllegible_20 : decode cX1_firstIllegible 20 = .ok (.invokestatic 133, 3) := by decide +kernel
theorem dX1_firstIllegible_23 : decode cX1_firstIllegible 23 = .ok (.invokevirtual 145, 3) := by decide +kernel
theorem dX1_firstIllegible_26 : decode cX1_firstIllegible 26 = .ok (.ifCond .ne 5, 3) := by decide +kernel
theorem dX1_firstIllegible_29 : decode cX1_firstIllegible 29 = .ok (.iload_n 1, 1) := by decide +kernel
theorem dX1_firstIllegible_30 : decode cX1_firstIllegible 30 = .ok (.ireturn, 1) := by decide +kernel
theorem dX1_firstIllegible_31 : decode cX1_firstIllegible 31 = .ok (.iinc 1 1, 3) := by decide +kernel
theorem dX1_firstIllegible_34 : decode cX1_firstIllegible 34 = .ok (.goto (-32), 3) := by decide +kernel
theorem dX1_firstIllegible_37 : decode cX1_firstIllegible 37 = .ok (.iconst (-1), 1) := by decide +kernel
theorem dX1_firstIllegible_38 : decode cX1_firstIllegible 38 = .ok (.ireturn, 1) := by decide +kernel
abbrev rm_X1_firstIllegible : Room := { frames := 2, cells := 0, slots := 0, locals := 80 }
def f_X1_firstIllegible_2 (N : Nat) : Nat → Int32 → St → Option Int32
  | 0, _, _ => none
  | n + 1, x1, σ => (if (σ.1 5602 0) ≤ x1 then some ((-1)) else grd (ib x1 12) (bo (f_X6_isLegible 1 (f_X11_edgeOf (σ.1 24 x1.toNatClampNeg) σ) σ) (fun r3_ => (if r3_ = 0 then some x1 else f_X1_firstIllegible_2 N n (x1 + 1) σ))))
def f_X1_firstIllegible (N : Nat) (σ : St) : Option Int32 := f_X1_firstIllegible_2 N N 0 σ
section
variable {p : Program} {l : Launch} {e : Env} {s : State} {m : MethodId} {args : Array Value} {below : List Frame} {meth : Method} {c : Code} {g : XG}
set_option maxRecDepth 4000 in
theorem w_X1_firstIllegible_2 (N : Nat) (σ : St) {r : Int32} (C : xC KX g RX1 cX1_firstIllegible 2 (some .int) p s m args meth c) : ∀ (n : Nat), ∀ (x1 : Int32) (H : Heap) (locs : List Loc) (ls : Array Slot), xW KX g s σ H locs → lv_has ls 2 [(0, .ref (g.q 23)), (1, .int x1)] → f_X1_firstIllegible_2 N n x1 σ = some r → W p l e rm_X1_firstIllegible s m args below meth c H locs 0 0 (MQ below (xPost KX g (some (.int r)) σ) args s 0 0 (xA KX g.q)) (F0 m 2 ls []) := by
  have hx := C.1
  have hb := C.2.1
  intro n
  induction n with
  | zero => intro x1 H locs ls hW hl h; rw [f_X1_firstIllegible_2] at h; cases h
  | succ n ih =>
    intro x1 H locs ls hW hl h
    rw [f_X1_firstIllegible_2] at h
    refine lv_iload_n hx hb dX1_firstIllegible_2 rfl (lv_at hl 1 rfl) ?_
    refine lv_aload_n hx hb dX1_firstIllegible_3 rfl (lv_at hl 0 rfl) ?_
    refine xg_i C hW fg_1_49 KX_23 rfl (v := 5602) rfl (x := σ.1 5602 0) rfl dX1_firstIllegible_4 ?_
    refine lv_icmp_ge (tgt := 37) hx hb dX1_firstIllegible_7 (by decide) (fun c1 => ?_) (fun c1 => ?_)
    · have h := xit c1 h
      refine lv_iconst (v := (-1)) hx hb dX1_firstIllegible_37 rfl ?_
      cases h
      exact xr_i C hW dX1_firstIllegible_38
    · have h := xif c1 h
      refine lv_aload_n hx hb dX1_firstIllegible_10 rfl (lv_at hl 0 rfl) ?_
      refine xg_r C hW fg_1_41 KX_23 rfl dX1_firstIllegible_11 ?_
      refine lv_aload_n hx hb dX1_firstIllegible_14 rfl (lv_at hl 0 rfl) ?_
      refine xg_r C hW fg_1_11 KX_23 rfl dX1_firstIllegible_15 ?_
      refine lv_iload_n hx hb dX1_firstIllegible_18 rfl (lv_at hl 1 rfl) ?_
      obtain ⟨g2, h⟩ := xgd h
      refine xa_i C hW KX_24 g2 (x := σ.1 24 x1.toNatClampNeg) rfl dX1_firstIllegible_19 ?_
      refine xc_SN (As := [.int (σ.1 24 x1.toNatClampNeg)]) (rest := [.ref (g.q 1)]) C hW (m_X11_edgeOf (σ.1 24 x1.toNatClampNeg) _ rfl) mf_X11_edgeOf mt_X11_edgeOf xn_X1_133 ⟨rfl, rfl⟩ ⟨Nat.le_of_ble_eq_true rfl, Nat.le_of_ble_eq_true rfl⟩ hl.1 rfl rfl (Nat.le_of_ble_eq_true rfl) dX1_firstIllegible_20 (fun H locs hW => W.eq (g2 := F0 m 23 ls [.int (f_X11_edgeOf (σ.1 24 x1.toNatClampNeg) σ), .ref (g.q 1)]) rfl ?_)
      obtain ⟨r3_, e3, h⟩ := xbo h
      refine xc_V (As := [.int (f_X11_edgeOf (σ.1 24 x1.toNatClampNeg) σ)]) (rest := []) C hW (m_X6_isLegible 1 (Or.inl rfl) (f_X11_edgeOf (σ.1 24 x1.toNatClampNeg) σ) _ e3) mf_X6_isLegible mv_X6_isLegible ml_X1_145 ⟨rfl, rfl⟩ ⟨Nat.le_of_ble_eq_true rfl, Nat.le_of_ble_eq_true rfl⟩ (KX_sl (Or.inl rfl)) rfl hl.1 rfl rfl (Nat.le_of_ble_eq_true rfl) dX1_firstIllegible_23 (fun H locs hW => W.eq (g2 := F0 m 26 ls [.int r3_]) rfl ?_)
      refine lv_if_ne (tgt := 31) hx hb dX1_firstIllegible_26 (by decide) (fun c4 => ?_) (fun c4 => ?_)
      · have h := xif c4 h
        refine lv_iinc (v := x1 + 1) (lv' := [(1, .int (x1 + 1)), (0, .ref (g.q 23))]) hx hb dX1_firstIllegible_31 hl (k := 1) rfl rfl (Nat.le_of_ble_eq_true rfl) rfl (fun ls hl => ?_)
        refine lv_goto (tgt := 2) hx hb dX1_firstIllegible_34 (by decide) ?_
        exact ih (x1 + 1) _ _ _ hW (lv_sub hl [1, 0] rfl) h
      · have h := xit c4 h
        refine lv_iload_n hx hb dX1_firstIllegible_29 rfl (lv_at hl 1 rfl) ?_
        cases h
        exact xr_i C hW dX1_firstIllegible_30
set_option maxRecDepth 4000 in
theorem m_X1_firstIllegible (N : Nat) (σ : St) {r : Int32} (h : f_X1_firstIllegible N σ = some r) : xM l KX g yX1_firstIllegible cX1_firstIllegible 2 (some .int) rm_X1_firstIllegible [.ref (g.q 23)] σ (some (.int r)) σ := by
  refine xmet pn_X1 rfl (Nat.le_of_ble_eq_true rfl) (lv := [(0, .ref (g.q 23))]) rfl (fun p e s m args below meth c ls C hW hl => ?_)
  have hx := C.1
  have hb := C.2.1
  unfold f_X1_firstIllegible at h
  refine lv_iconst (v := 0) hx hb dX1_firstIllegible_0 rfl ?_
  refine lv_istore_n (lv' := [(1, .int 0), (0, .ref (g.q 23))]) hx hb dX1_firstIllegible_1 rfl hl (Nat.le_of_ble_eq_true rfl) rfl (fun ls hl => ?_)
  exact w_X1_firstIllegible_2 N σ C N 0 _ _ _ hW (lv_sub hl [1, 0] rfl) h
end
theorem dJ7_fill_53178_0 : decode cJ7_fill_53178 0 = .ok (.iconst 0, 1) := by decide +kernel
theorem dJ7_fill_53178_1 : decode cJ7_fill_53178 1 = .ok (.istore_n 2, 1) := by decide +kernel
theorem dJ7_fill_53178_2 : decode cJ7_fill_53178 2 = .ok (.aload_n 0, 1) := by decide +kernel
theorem dJ7_fill_53178_3 : decode cJ7_fill_53178 3 = .ok (.arraylength, 1) := by decide +kernel
theorem dJ7_fill_53178_4 : decode cJ7_fill_53178 4 = .ok (.istore_n 3, 1) := by decide +kernel
theorem dJ7_fill_53178_5 : decode cJ7_fill_53178 5 = .ok (.iload_n 2, 1) := by decide +kernel
theorem dJ7_fill_53178_6 : decode cJ7_fill_53178 6 = .ok (.iload_n 3, 1) := by decide +kernel
theorem dJ7_fill_53178_7 : decode cJ7_fill_53178 7 = .ok (.if_icmp .ge 13, 3) := by decide +kernel
theorem dJ7_fill_53178_10 : decode cJ7_fill_53178 10 = .ok (.aload_n 0, 1) := by decide +kernel
theorem dJ7_fill_53178_11 : decode cJ7_fill_53178 11 = .ok (.iload_n 2, 1) := by decide +kernel
theorem dJ7_fill_53178_12 : decode cJ7_fill_53178 12 = .ok (.iload_n 1, 1) := by decide +kernel
theorem dJ7_fill_53178_13 : decode cJ7_fill_53178 13 = .ok (.iastore, 1) := by decide +kernel
theorem dJ7_fill_53178_14 : decode cJ7_fill_53178 14 = .ok (.iinc 2 1, 3) := by decide +kernel
theorem dJ7_fill_53178_17 : decode cJ7_fill_53178 17 = .ok (.goto (-12), 3) := by decide +kernel
theorem dJ7_fill_53178_20 : decode cJ7_fill_53178 20 = .ok (.return_, 1) := by decide +kernel
abbrev rm_J7_fill_53178 : Room := { frames := 0, cells := 0, slots := 0, locals := 0 }
def f_J7_fill_53178_5 (r0 rn0 : Nat) (N : Nat) : Nat → Int32 → Int32 → Int32 → St → Option St
  | 0, _, _, _, _ => none
  | n + 1, x1, x2, x3, σ => (if x3 ≤ x2 then some σ else grd (ib x2 rn0) (f_J7_fill_53178_5 r0 rn0 N n x1 (x2 + 1) x3 (si σ r0 x2.toNatClampNeg x1)))
def f_J7_fill_53178 (r0 rn0 : Nat) (N : Nat) (x1 : Int32) (σ : St) : Option St := f_J7_fill_53178_5 r0 rn0 N N x1 0 (Int32.ofNat rn0) σ
section
variable {p : Program} {l : Launch} {e : Env} {s : State} {m : MethodId} {args : Array Value} {below : List Frame} {meth : Method} {c : Code} {g : XG}
set_option maxRecDepth 4000 in
theorem w_J7_fill_53178_5 (r0 rn0 : Nat) (hr0 : KX[r0]? = some (.inr (0, rn0))) (N : Nat) {σ' : St} (C : xC KX g RJ7 cJ7_fill_53178 4 none p s m args meth c) : ∀ (n : Nat), ∀ (x1 : Int32) (x2 : Int32) (x3 : Int32) (σ : St) (H : Heap) (locs : List Loc) (ls : Array Slot), xW KX g s σ H locs → lv_has ls 4 [(0, .ref (g.q r0)), (1, .int x1), (2, .int x2), (3, .int x3)] → f_J7_fill_53178_5 r0 rn0 N n x1 x2 x3 σ = some σ' → W p l e rm_J7_fill_53178 s m args below meth c H locs 0 0 (MQ below (xPost KX g none σ') args s 0 0 (xA KX g.q)) (F0 m 5 ls []) := by
  have hx := C.1
  have hb := C.2.1
  intro n
  induction n with
  | zero => intro x1 x2 x3 σ H locs ls hW hl h; rw [f_J7_fill_53178_5] at h; cases h
  | succ n ih =>
    intro x1 x2 x3 σ H locs ls hW hl h
    rw [f_J7_fill_53178_5] at h
    refine lv_iload_n hx hb dJ7_fill_53178_5 rfl (lv_at hl 2 rfl) ?_
    refine lv_iload_n hx hb dJ7_fill_53178_6 rfl (lv_at hl 3 rfl) ?_
    refine lv_icmp_ge (tgt := 20) hx hb dJ7_fill_53178_7 (by decide) (fun c1 => ?_) (fun c1 => ?_)
    · have h := xit c1 h
      cases h
      exact xr_v C hW dJ7_fill_53178_20
    · have h := xif c1 h
      refine lv_aload_n hx hb dJ7_fill_53178_10 rfl (lv_at hl 0 rfl) ?_
      refine lv_iload_n hx hb dJ7_fill_53178_11 rfl (lv_at hl 2 rfl) ?_
      refine lv_iload_n hx hb dJ7_fill_53178_12 rfl (lv_at hl 1 rfl) ?_
      obtain ⟨g2, h⟩ := xgd h
      refine xs_i C hW hr0 g2 dJ7_fill_53178_13 (fun H locs hW => ?_)
      refine lv_iinc (v := x2 + 1) (lv' := [(2, .int (x2 + 1)), (0, .ref (g.q r0)), (1, .int x1), (3, .int x3)]) hx hb dJ7_fill_53178_14 hl (k := 2) rfl rfl (Nat.le_of_ble_eq_true rfl) rfl (fun ls hl => ?_)
      refine lv_goto (tgt := 5) hx hb dJ7_fill_53178_17 (by decide) ?_
      exact ih x1 (x2 + 1) x3 _ _ _ _ hW (lv_sub hl [1, 2, 0, 3] rfl) h
set_option maxRecDepth 4000 in
theorem m_J7_fill_53178 (r0 rn0 : Nat) (hr0 : KX[r0]? = some (.inr (0, rn0))) (N : Nat) (x1 : Int32) (σ : St) {σ' : St} (h : f_J7_fill_53178 r0 rn0 N x1 σ = some σ') : xM l KX g yJ7_fill_53178 cJ7_fill_53178 4 none rm_J7_fill_53178 [.ref (g.q r0), .int x1] σ none σ' := by
  refine xmet pn_J7 rfl (Nat.le_of_ble_eq_true rfl) (lv := [(0, .ref (g.q r0)), (1, .int x1)]) rfl (fun p e s m args below meth c ls C hW hl => ?_)
  have hx := C.1
  have hb := C.2.1
  unfold f_J7_fill_53178 at h
  refine lv_iconst (v := 0) hx hb dJ7_fill_53178_0 rfl ?_
  refine lv_istore_n (lv' := [(2, .int 0), (0, .ref (g.q r0)), (1, .int x1)]) hx hb dJ7_fill_53178_1 rfl hl (Nat.le_of_ble_eq_true rfl) rfl (fun ls hl => ?_)
  refine lv_aload_n hx hb dJ7_fill_53178_2 rfl (lv_at hl 1 rfl) ?_
  refine xa_n C hW hr0 (x := Int32.ofNat rn0) rfl dJ7_fill_53178_3 ?_
  refine lv_istore_n (lv' := [(3, .int (Int32.ofNat rn0)), (2, .int 0), (0, .ref (g.q r0)), (1, .int x1)]) hx hb dJ7_fill_53178_4 rfl hl (Nat.le_of_ble_eq_true rfl) rfl (fun ls hl => ?_)
  exact w_J7_fill_53178_5 r0 rn0 hr0 N C N x1 0 (Int32.ofNat rn0) _ _ _ _ hW (lv_sub hl [2, 3, 1, 0] rfl) h
end
theorem dX2_forget_0 : decode cX2_forget 0 = .ok (.aload_n 0, 1) := by decide +kernel
theorem dX2_forget_1 : decode cX2_forget 1 = .ok (.getfield 15, 3) := by decide +kernel
theorem dX2_forget_4 : decode cX2_forget 4 = .ok (.iconst 0, 1) := by decide +kernel
theorem dX2_forget_5 : decode cX2_forget 5 = .ok (.invokestatic 59, 3) := by decide +kernel
theorem dX2_forget_8 : decode cX2_forget 8 = .ok (.return_, 1) := by decide +kernel
abbrev rm_X2_forget : Room := { frames := 1, cells := 0, slots := 0, locals := 23 }
def f_X2_forget (N : Nat) (σ : St) : Option St := bo (f_J7_fill_53178 47 40 N 0 σ) (fun σ1 => some σ1)
section
variable {p : Program} {l : Launch} {e : Env} {s : State} {m : MethodId} {args : Array Value} {below : List Frame} {meth : Method} {c : Code} {g : XG}
set_option maxRecDepth 4000 in
theorem m_X2_forget (N : Nat) (σ : St) {σ' : St} (h : f_X2_forget N σ = some σ') : xM l KX g yX2_forget cX2_forget 1 none rm_X2_forget [.ref (g.q 46)] σ none σ' := by
  refine xmet pn_X2 rfl (Nat.le_of_ble_eq_true rfl) (lv := [(0, .ref (g.q 46))]) rfl (fun p e s m args below meth c ls C hW hl => ?_)
  have hx := C.1
  have hb := C.2.1
  unfold f_X2_forget at h
  refine lv_aload_n hx hb dX2_forget_0 rfl (lv_at hl 0 rfl) ?_
  refine xg_r C hW fg_2_15 KX_46 rfl dX2_forget_1 ?_
  refine lv_iconst (v := 0) hx hb dX2_forget_4 rfl ?_
  obtain ⟨σ1, e1, h⟩ := xbo h
  refine xc_S (As := [.ref (g.q 47), .int 0]) (rest := []) C hW (m_J7_fill_53178 47 40 KX_47 N 0 _ e1) mf_J7_fill_53178 mt_J7_fill_53178 ml_X2_59 ⟨rfl, rfl⟩ ⟨Nat.le_of_ble_eq_true rfl, Nat.le_of_ble_eq_true rfl⟩ hl.1 rfl rfl (Nat.le_of_ble_eq_true rfl) dX2_forget_5 (fun H locs hW => W.eq (g2 := F0 m 8 ls []) rfl ?_)
  cases h
  exact xr_v C hW dX2_forget_8
end
theorem dX2_isNew_0 : decode cX2_isNew 0 = .ok (.aload_n 0, 1) := by decide +kernel
theorem dX2_isNew_1 : decode cX2_isNew 1 = .ok (.getfield 15, 3) := by decide +kernel
theorem dX2_isNew_4 : decode cX2_isNew 4 = .ok (.iload_n 1, 1) := by decide +kernel
theorem dX2_isNew_5 : decode cX2_isNew 5 = .ok (.iaload, 1) := by decide +kernel
theorem dX2_isNew_6 : decode cX2_isNew 6 = .ok (.iload_n 2, 1) := by decide +kernel
theorem dX2_isNew_7 : decode cX2_isNew 7 = .ok (.iand, 1) := by decide +kernel
theorem dX2_isNew_8 : decode cX2_isNew 8 = .ok (.ifCond .ne 7, 3) := by decide +kernel
theorem dX2_isNew_11 : decode cX2_isNew 11 = .ok (.iconst 1, 1) := by decide +kernel
theorem dX2_isNew_12 : decode cX2_isNew 12 = .ok (.goto 4, 3) := by decide +kernel
theorem dX2_isNew_15 : decode cX2_isNew 15 = .ok (.iconst 0, 1) := by decide +kernel
theorem dX2_isNew_16 : decode cX2_isNew 16 = .ok (.istore_n 3, 1) := by decide +kernel
theorem dX2_isNew_17 : decode cX2_isNew 17 = .ok (.aload_n 0, 1) := by decide +kernel
theorem dX2_isNew_18 : decode cX2_isNew 18 = .ok (.getfield 15, 3) := by decide +kernel
theorem dX2_isNew_21 : decode cX2_isNew 21 = .ok (.iload_n 1, 1) := by decide +kernel
theorem dX2_isNew_22 : decode cX2_isNew 22 = .ok (.dup2, 1) := by decide +kernel
theorem dX2_isNew_23 : decode cX2_isNew 23 = .ok (.iaload, 1) := by decide +kernel
theorem dX2_isNew_24 : decode cX2_isNew 24 = .ok (.iload_n 2, 1) := by decide +kernel
theorem dX2_isNew_25 : decode cX2_isNew 25 = .ok (.ior, 1) := by decide +kernel
theorem dX2_isNew_26 : decode cX2_isNew 26 = .ok (.iastore, 1) := by decide +kernel
theorem dX2_isNew_27 : decode cX2_isNew 27 = .ok (.iload_n 3, 1) := by decide +kernel
theorem dX2_isNew_28 : decode cX2_isNew 28 = .ok (.ireturn, 1) := by decide +kernel
abbrev rm_X2_isNew : Room := { frames := 0, cells := 0, slots := 0, locals := 0 }
def f_X2_isNew_16 (x1 : Int32) (x2 : Int32) (t0 : Int32) (σ : St) : Option (Int32 × St) := grd (ib x1 40) (grd (ib x1 40) (grd (zbb t0) (some (t0, (si σ 47 x1.toNatClampNeg ((σ.1 47 x1.toNatClampNeg) ||| x2))))))
def f_X2_isNew (x1 : Int32) (x2 : Int32) (σ : St) : Option (Int32 × St) := grd (ib x1 40) ((if ((σ.1 47 x1.toNatClampNeg) &&& x2) = 0 then f_X2_isNew_16 x1 x2 1 σ else f_X2_isNew_16 x1 x2 0 σ))
section
variable {p : Program} {l : Launch} {e : Env} {s : State} {m : MethodId} {args : Array Value} {below : List Frame} {meth : Method} {c : Code} {g : XG}
set_option maxRecDepth 4000 in
theorem w_X2_isNew_16 {r : Int32} {σ' : St} (C : xC KX g RX2 cX2_isNew 4 (some .boolean) p s m args meth c) : ∀ (x1 : Int32) (x2 : Int32) (t0 : Int32) (σ : St) (H : Heap) (locs : List Loc) (ls : Array Slot), xW KX g s σ H locs → lv_has ls 4 [(0, .ref (g.q 46)), (1, .int x1), (2, .int x2)] → f_X2_isNew_16 x1 x2 t0 σ = some (r, σ') → W p l e rm_X2_isNew s m args below meth c H locs 0 0 (MQ below (xPost KX g (some (.int r)) σ') args s 0 0 (xA KX g.q)) (F0 m 16 ls [.int t0]) := by
  have hx := C.1
  have hb := C.2.1
  intro x1 x2 t0 σ H locs ls hW hl h
  unfold f_X2_isNew_16 at h
  refine lv_istore_n (lv' := [(3, .int t0), (0, .ref (g.q 46)), (1, .int x1), (2, .int x2)]) hx hb dX2_isNew_16 rfl hl (Nat.le_of_ble_eq_true rfl) rfl (fun ls hl => ?_)
  refine lv_aload_n hx hb dX2_isNew_17 rfl (lv_at hl 1 rfl) ?_
  refine xg_r C hW fg_2_15 KX_46 rfl dX2_isNew_18 ?_
  refine lv_iload_n hx hb dX2_isNew_21 rfl (lv_at hl 2 rfl) ?_
  refine lv_dup2_11 hx hb dX2_isNew_22 rfl rfl ?_
  obtain ⟨g3, h⟩ := xgd h
  refine xa_i C hW KX_47 g3 (x := σ.1 47 x1.toNatClampNeg) rfl dX2_isNew_23 ?_
  refine lv_iload_n hx hb dX2_isNew_24 rfl (lv_at hl 3 rfl) ?_
  refine lv_ior hx hb dX2_isNew_25 ?_
  obtain ⟨g4, h⟩ := xgd h
  refine xs_i C hW KX_47 g4 dX2_isNew_26 (fun H locs hW => ?_)
  refine lv_iload_n hx hb dX2_isNew_27 rfl (lv_at hl 0 rfl) ?_
  obtain ⟨g5, h⟩ := xgd h
  cases h
  exact xr_z C hW g5 dX2_isNew_28
set_option maxRecDepth 4000 in
theorem m_X2_isNew (x1 : Int32) (x2 : Int32) (σ : St) {r : Int32} {σ' : St} (h : f_X2_isNew x1 x2 σ = some (r, σ')) : xM l KX g yX2_isNew cX2_isNew 4 (some .boolean) rm_X2_isNew [.ref (g.q 46), .int x1, .int x2] σ (some (.int r)) σ' := by
  refine xmet pn_X2 rfl (Nat.le_of_ble_eq_true rfl) (lv := [(0, .ref (g.q 46)), (1, .int x1), (2, .int x2)]) rfl (fun p e s m args below meth c ls C hW hl => ?_)
  have hx := C.1
  have hb := C.2.1
  unfold f_X2_isNew at h
  refine lv_aload_n hx hb dX2_isNew_0 rfl (lv_at hl 0 rfl) ?_
  refine xg_r C hW fg_2_15 KX_46 rfl dX2_isNew_1 ?_
  refine lv_iload_n hx hb dX2_isNew_4 rfl (lv_at hl 1 rfl) ?_
  obtain ⟨g1, h⟩ := xgd h
  refine xa_i C hW KX_47 g1 (x := σ.1 47 x1.toNatClampNeg) rfl dX2_isNew_5 ?_
  refine lv_iload_n hx hb dX2_isNew_6 rfl (lv_at hl 2 rfl) ?_
  refine lv_iand hx hb dX2_isNew_7 ?_
  refine lv_if_ne (tgt := 15) hx hb dX2_isNew_8 (by decide) (fun c2 => ?_) (fun c2 => ?_)
  · have h := xif c2 h
    refine lv_iconst (v := 0) hx hb dX2_isNew_15 rfl ?_
    exact w_X2_isNew_16 C x1 x2 0 _ _ _ _ hW (lv_sub hl [0, 1, 2] rfl) h
  · have h := xit c2 h
    refine lv_iconst (v := 1) hx hb dX2_isNew_11 rfl ?_
    refine lv_goto (tgt := 16) hx hb dX2_isNew_12 (by decide) ?_
    exact w_X2_isNew_16 C x1 x2 1 _ _ _ _ hW (lv_sub hl [0, 1, 2] rfl) h
end
theorem dX6_paintOf_0 : decode cX6_paintOf 0 = .ok (.aload_n 0, 1) := by decide +kernel
theorem dX6_paintOf_1 : decode cX6_paintOf 1 = .ok (.getfield 15, 3) := by decide +kernel
theorem dX6_paintOf_4 : decode cX6_paintOf 4 = .ok (.iload_n 1, 1) := by decide +kernel
theorem dX6_paintOf_5 : decode cX6_paintOf 5 = .ok (.iaload, 1) := by decide +kernel
theorem dX6_paintOf_6 : decode cX6_paintOf 6 = .ok (.aload_n 0, 1) := by decide +kernel
theorem dX6_paintOf_7 : decode cX6_paintOf 7 = .ok (.getfield 19, 3) := by decide +kernel
theorem dX6_paintOf_10 : decode cX6_paintOf 10 = .ok (.iload_n 1, 1) := by decide +kernel
theorem dX6_paintOf_11 : decode cX6_paintOf 11 = .ok (.iaload, 1) := by decide +kernel
theorem dX6_paintOf_12 : decode cX6_paintOf 12 = .ok (.imul, 1) := by decide +kernel
theorem dX6_paintOf_13 : decode cX6_paintOf 13 = .ok (.ireturn, 1) := by decide +kernel
abbrev rm_X6_paintOf : Room := { frames := 0, cells := 0, slots := 0, locals := 0 }
def f_X6_paintOf (o : Nat) (x1 : Int32) (σ : St) : Option Int32 := grd (ib x1 40) (grd (ib x1 40) (some ((σ.1 (8 * o + 2 - 6) x1.toNatClampNeg) * (σ.1 (8 * o + 3 - 6) x1.toNatClampNeg))))
section
variable {p : Program} {l : Launch} {e : Env} {s : State} {m : MethodId} {args : Array Value} {below : List Frame} {meth : Method} {c : Code} {g : XG}
set_option maxRecDepth 4000 in
theorem m_X6_paintOf (o : Nat) (ho : o = 1 ∨ o = 2) (x1 : Int32) (σ : St) {r : Int32} (h : f_X6_paintOf o x1 σ = some r) : xM l KX g yX6_paintOf cX6_paintOf 2 (some .int) rm_X6_paintOf [.ref (g.q o), .int x1] σ (some (.int r)) σ := by
  refine xmet pn_X6 rfl (Nat.le_of_ble_eq_true rfl) (lv := [(0, .ref (g.q o)), (1, .int x1)]) rfl (fun p e s m args below meth c ls C hW hl => ?_)
  have hx := C.1
  have hb := C.2.1
  unfold f_X6_paintOf at h
  refine lv_aload_n hx hb dX6_paintOf_0 rfl (lv_at hl 0 rfl) ?_
  refine xg_r C hW fg_6_15 (KX_sl ho) rfl dX6_paintOf_1 ?_
  refine lv_iload_n hx hb dX6_paintOf_4 rfl (lv_at hl 1 rfl) ?_
  obtain ⟨g1, h⟩ := xgd h
  refine xa_i C hW (KX_sl_2 ho) g1 (x := σ.1 (8 * o + 2 - 6) x1.toNatClampNeg) rfl dX6_paintOf_5 ?_
  refine lv_aload_n hx hb dX6_paintOf_6 rfl (lv_at hl 0 rfl) ?_
  refine xg_r C hW fg_6_19 (KX_sl ho) rfl dX6_paintOf_7 ?_
  refine lv_iload_n hx hb dX6_paintOf_10 rfl (lv_at hl 1 rfl) ?_
  obtain ⟨g2, h⟩ := xgd h
  refine xa_i C hW (KX_sl_3 ho) g2 (x := σ.1 (8 * o + 3 - 6) x1.toNatClampNeg) rfl dX6_paintOf_11 ?_
  refine lv_imul hx hb dX6_paintOf_12 ?_
  cases h
  exact xr_i C hW dX6_paintOf_13
end
theorem dX2_costOf_0 : decode cX2_costOf 0 = .ok (.aload_n 0, 1) := by decide +kernel
theorem dX2_costOf_1 : decode cX2_costOf 1 = .ok (.getfield 47, 3) := by decide +kernel
theorem dX2_costOf_4 : decode cX2_costOf 4 = .ok (.iload_n 1, 1) := by decide +kernel
theorem dX2_costOf_5 : decode cX2_costOf 5 = .ok (.invokevirtual 65, 3) := by decide +kernel
theorem dX2_costOf_8 : decode cX2_costOf 8 = .ok (.bipush 16, 2) := by decide +kernel
theorem dX2_costOf_10 : decode cX2_costOf 10 = .ok (.imul, 1) := by decide +kernel
theorem dX2_costOf_11 : decode cX2_costOf 11 = .ok (.iconst 1, 1) := by decide +kernel
theorem dX2_costOf_12 : decode cX2_costOf 12 = .ok (.iadd, 1) := by decide +kernel
theorem dX2_costOf_13 : decode cX2_costOf 13 = .ok (.ireturn, 1) := by decide +kernel
abbrev rm_X2_costOf : Room := { frames := 1, cells := 0, slots := 0, locals := 21 }
def f_X2_costOf (x1 : Int32) (σ : St) : Option Int32 := bo (f_X6_paintOf 1 x1 σ) (fun r1_ => some ((r1_ * 16) + 1))
section
variable {p : Program} {l : Launch} {e : Env} {s : State} {m : MethodId} {args : Array Value} {below : List Frame} {meth : Method} {c : Code} {g : XG}
set_option maxRecDepth 4000 in
theorem m_X2_costOf (x1 : Int32) (σ : St) {r : Int32} (h : f_X2_costOf x1 σ = some r) : xM l KX g yX2_costOf cX2_costOf 2 (some .int) rm_X2_costOf [.ref (g.q 46), .int x1] σ (some (.int r)) σ := by
  refine xmet pn_X2 rfl (Nat.le_of_ble_eq_true rfl) (lv := [(0, .ref (g.q 46)), (1, .int x1)]) rfl (fun p e s m args below meth c ls C hW hl => ?_)
  have hx := C.1
  have hb := C.2.1
  unfold f_X2_costOf at h
  refine lv_aload_n hx hb dX2_costOf_0 rfl (lv_at hl 0 rfl) ?_
  refine xg_r C hW fg_2_47 KX_46 rfl dX2_costOf_1 ?_
  refine lv_iload_n hx hb dX2_costOf_4 rfl (lv_at hl 1 rfl) ?_
  obtain ⟨r1_, e1, h⟩ := xbo h
  refine xc_V (As := [.int x1]) (rest := []) C hW (m_X6_paintOf 1 (Or.inl rfl) x1 _ e1) mf_X6_paintOf mv_X6_paintOf ml_X2_65 ⟨rfl, rfl⟩ ⟨Nat.le_of_ble_eq_true rfl, Nat.le_of_ble_eq_true rfl⟩ (KX_sl (Or.inl rfl)) rfl hl.1 rfl rfl (Nat.le_of_ble_eq_true rfl) dX2_costOf_5 (fun H locs hW => W.eq (g2 := F0 m 8 ls [.int r1_]) rfl ?_)
  refine lv_bipush (v := 16) hx hb dX2_costOf_8 rfl ?_
  refine lv_imul hx hb dX2_costOf_10 ?_
  refine lv_iconst (v := 1) hx hb dX2_costOf_11 rfl ?_
  refine lv_iadd hx hb dX2_costOf_12 ?_
  cases h
  exact xr_i C hW dX2_costOf_13
end
theorem dX7_isCover_0 : decode cX7_isCover 0 = .ok (.iload_n 2, 1) := by decide +kernel
theorem dX7_isCover_1 : decode cX7_isCover 1 = .ok (.aload_n 0, 1) := by decide +kernel
theorem dX7_isCover_2 : decode cX7_isCover 2 = .ok (.getfield 55, 3) := by decide +kernel
theorem dX7_isCover_5 : decode cX7_isCover 5 = .ok (.isub, 1) := by decide +kernel
theorem dX7_isCover_6 : decode cX7_isCover 6 = .ok (.istore_n 3, 1) := by decide +kernel
theorem dX7_isCover_7 : decode cX7_isCover 7 = .ok (.iload_n 3, 1) := by decide +kernel
theorem dX7_isCover_8 : decode cX7_isCover 8 = .ok (.ifCond .lt 24, 3) := by decide +kernel
theorem dX7_isCover_11 : decode cX7_isCover 11 = .ok (.iload_n 3, 1) := by decide +kernel
theorem dX7_isCover_12 : decode cX7_isCover 12 = .ok (.aload_n 0, 1) := by decide +kernel
theorem dX7_isCover_13 : decode cX7_isCover 13 = .ok (.getfield 26, 3) := by decide +kernel
theorem dX7_isCover_16 : decode cX7_isCover 16 = .ok (.if_icmp .gt 16, 3) := by decide +kernel
theorem dX7_isCover_19 : decode cX7_isCover 19 = .ok (.iload_n 1, 1) := by decide +kernel
theorem dX7_isCover_20 : decode cX7_isCover 20 = .ok (.iload_n 3, 1) := by decide +kernel
theorem dX7_isCover_21 : decode cX7_isCover 21 = .ok (.iushr, 1) := by decide +kernel
theorem dX7_isCover_22 : decode cX7_isCover 22 = .ok (.iconst 1, 1) := by decide +kernel
theorem dX7_isCover_23 : decode cX7_isCover 23 = .ok (.iand, 1) := by decide +kernel
theorem dX7_isCover_24 : decode cX7_isCover 24 = .ok (.iconst 1, 1) := by decide +kernel
theorem dX7_isCover_25 : decode cX7_isCover 25 = .ok (.if_icmp .ne 7, 3) := by decide +kernel
theorem dX7_isCover_28 : decode cX7_isCover 28 = .ok (.iconst 1, 1) := by decide +kernel
theorem dX7_isCover_29 : decode cX7_isCover 29 = .ok (.goto 4, 3) := by decide +kernel
theorem dX7_isCover_32 : decode cX7_isCover 32 = .ok (.iconst 0, 1) := by decide +kernel
theorem dX7_isCover_33 : decode cX7_isCover 33 = .ok (.ireturn, 1) := by decide +kernel
abbrev rm_X7_isCover : Room := { frames := 0, cells := 0, slots := 0, locals := 0 }
def f_X7_isCover (x1 : Int32) (x2 : Int32) (σ : St) : Int32 := (if (x2 - (σ.1 8606 0)) < 0 then 0 else (if (σ.1 8602 0) < (x2 - (σ.1 8606 0)) then 0 else (if ((ushr x1 (x2 - (σ.1 8606 0))) &&& 1) = 1 then 1 else 0)))
section
variable {p : Program} {l : Launch} {e : Env} {s : State} {m : MethodId} {args : Array Value} {below : List Frame} {meth : Method} {c : Code} {g : XG}
set_option maxRecDepth 4000 in
theorem m_X7_isCover (x1 : Int32) (x2 : Int32) (σ : St) {r : Int32} (h : f_X7_isCover x1 x2 σ = r) : xM l KX g yX7_isCover cX7_isCover 4 (some .boolean) rm_X7_isCover [.ref (g.q 38), .int x1, .int x2] σ (some (.int r)) σ := by
  refine xmet pn_X7 rfl (Nat.le_of_ble_eq_true rfl) (lv := [(0, .ref (g.q 38)), (1, .int x1), (2, .int x2)]) rfl (fun p e s m args below meth c ls C hW hl => ?_)
  have hx := C.1
  have hb := C.2.1
  unfold f_X7_isCover at h
  refine lv_iload_n hx hb dX7_isCover_0 rfl (lv_at hl 2 rfl) ?_
  refine lv_aload_n hx hb dX7_isCover_1 rfl (lv_at hl 0 rfl) ?_
  refine xg_i C hW fg_7_55 KX_38 rfl (v := 8606) rfl (x := σ.1 8606 0) rfl dX7_isCover_2 ?_
  refine lv_isub hx hb dX7_isCover_5 ?_
  refine lv_istore_n (lv' := [(3, .int (x2 - (σ.1 8606 0))), (0, .ref (g.q 38)), (1, .int x1), (2, .int x2)]) hx hb dX7_isCover_6 rfl hl (Nat.le_of_ble_eq_true rfl) rfl (fun ls hl => ?_)
  refine lv_iload_n hx hb dX7_isCover_7 rfl (lv_at hl 0 rfl) ?_
  refine lv_if_lt (tgt := 32) hx hb dX7_isCover_8 (by decide) (fun c1 => ?_) (fun c1 => ?_)
  · have h := xit c1 h
    refine lv_iconst (v := 0) hx hb dX7_isCover_32 rfl ?_
    cases h
    exact xr_z C hW (by decide) dX7_isCover_33
  · have h := xif c1 h
    refine lv_iload_n hx hb dX7_isCover_11 rfl (lv_at hl 0 rfl) ?_
    refine lv_aload_n hx hb dX7_isCover_12 rfl (lv_at hl 1 rfl) ?_
    refine xg_i C hW fg_7_26 KX_38 rfl (v := 8602) rfl (x := σ.1 8602 0) rfl dX7_isCover_13 ?_
    refine lv_icmp_gt (tgt := 32) hx hb dX7_isCover_16 (by decide) (fun c2 => ?_) (fun c2 => ?_)
    · have h := xit c2 h
      refine lv_iconst (v := 0) hx hb dX7_isCover_32 rfl ?_
      cases h
      exact xr_z C hW (by decide) dX7_isCover_33
    · have h := xif c2 h
      refine lv_iload_n hx hb dX7_isCover_19 rfl (lv_at hl 2 rfl) ?_
      refine lv_iload_n hx hb dX7_isCover_20 rfl (lv_at hl 0 rfl) ?_
      refine lv_iushr (v := ushr x1 (x2 - (σ.1 8606 0))) hx hb dX7_isCover_21 rfl ?_
      refine lv_iconst (v := 1) hx hb dX7_isCover_22 rfl ?_
      refine lv_iand hx hb dX7_isCover_23 ?_
      refine lv_iconst (v := 1) hx hb dX7_isCover_24 rfl ?_
      refine lv_icmp_ne (tgt := 32) hx hb dX7_isCover_25 (by decide) (fun c3 => ?_) (fun c3 => ?_)
      · have h := xif c3 h
        refine lv_iconst (v := 0) hx hb dX7_isCover_32 rfl ?_
        cases h
        exact xr_z C hW (by decide) dX7_isCover_33
      · have h := xit c3 h
        refine lv_iconst (v := 1) hx hb dX7_isCover_28 rfl ?_
        refine lv_goto (tgt := 33) hx hb dX7_isCover_29 (by decide) ?_
        cases h
        exact xr_z C hW (by decide) dX7_isCover_33
end
