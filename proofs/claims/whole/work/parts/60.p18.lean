theorem x_fill_5 {r0 rn0 N : Nat} {x : Int32} (hr : rn0 < 2147483648) {Q : St → Prop} {σ0 : St} : ∀ (k fuel i : Nat) (σ : St), rn0 - i = k → k < fuel → i ≤ rn0 → (∀ j, j < i → σ.1 r0 j = x) → Fr [r0] σ0 σ → (∀ σ', (∀ j, j < rn0 → σ'.1 r0 j = x) → Fr [r0] σ0 σ' → Q σ') → ok (f_J7_fill_53178_5 r0 rn0 N fuel x (nI i) (nI rn0) σ) Q := by
  intro k
  induction k with
  | zero =>
    intro fuel i σ hk hf hi h1 h2 kk
    obtain ⟨fuel, rfl⟩ : ∃ f, fuel = f + 1 := ⟨fuel - 1, by omega⟩
    rw [f_J7_fill_53178_5, if_pos (nI_le (by omega) (by omega)), ok_some]
    exact kk σ (fun j hj => h1 j (by omega)) h2
  | succ k ih =>
    intro fuel i σ hk hf hi h1 h2 kk
    obtain ⟨fuel, rfl⟩ : ∃ f, fuel = f + 1 := ⟨fuel - 1, by omega⟩
    rw [f_J7_fill_53178_5, if_neg (nI_ge (by omega) (by omega)), ib_n (by omega), decide_eq_true (by omega), grd_true, ncl (by omega), nI_1]
    refine ih fuel (i + 1) _ (by omega) (by omega) (by omega) (fun j hj => ?_) (h2.si _ _ _ (by simp)) kk
    rw [si_rd, if_pos rfl]
    by_cases e : j = i
    · rw [if_pos e]
    · rw [if_neg e]; exact h1 j (by omega)
theorem x_fill {r0 rn0 N : Nat} {x : Int32} {σ : St} (hr : rn0 < N) (hr2 : rn0 < 2147483648) : ok (f_J7_fill_53178 r0 rn0 N x σ) (fun σ' => (∀ j, j < rn0 → σ'.1 r0 j = x) ∧ Fr [r0] σ σ') := by
  unfold f_J7_fill_53178
  exact x_fill_5 hr2 rn0 N 0 σ rfl (by omega) (by omega) (fun j hj => by omega) (Fr.refl _ _) (fun σ' h1 h2 => ⟨h1, h2⟩)
theorem tape_B {σ τ : St} (h : RTape σ τ) : ∃ n B, TapeX σ n B ∧ n ≤ 800 ∧ τ.1 1001 0 = nI n ∧ ∀ j, j < n → B j < 256 ∧ τ.1 1 j &&& 255 = nI (B j) := by
  obtain ⟨n, h1, h2, h3, h4⟩ := h
  refine ⟨n, fun j => (τ.1 1 j &&& 255).toNatClampNeg, ⟨h1, h2, fun j hj => ?_⟩, h1, h3, fun j hj => ?_⟩
  · obtain ⟨a, b⟩ := h4 j hj
    obtain ⟨c, c1, c2, c3⟩ := sb_ex _ b
    show (τ.1 1 j &&& 255).toNatClampNeg < 256 ∧ σ.1 20 j = sb (τ.1 1 j &&& 255).toNatClampNeg
    rw [c3, ncl (by omega), a]
    exact ⟨c1, c2⟩
  · obtain ⟨a, b⟩ := h4 j hj
    obtain ⟨c, c1, c2, c3⟩ := sb_ex _ b
    show (τ.1 1 j &&& 255).toNatClampNeg < 256 ∧ τ.1 1 j &&& 255 = nI (τ.1 1 j &&& 255).toNatClampNeg
    rw [c3, ncl (by omega)]
    exact ⟨c1, rfl⟩
abbrev VT : List Nat := [1001, 1002, 1003, 1004, 1005, 1006, 1007, 1010]
theorem m_take {N n : Nat} {B : Nat → Nat} {τ : St} (hN : 802 < N) (hn : n ≤ 800) (h1 : τ.1 1001 0 = nI n) (h2 : ∀ j, j < n → B j < 256 ∧ τ.1 1 j &&& 255 = nI (B j)) : ok (f_X12_take N τ) (fun τ' => TapeM τ' n B ∧ TokM τ' n B 0 ∧ τ'.1 1001 0 = 0 ∧ Fr VT τ τ') := by
  unfold f_X12_take
  have f1 : Fr [1001, 1002, 1006] τ (si (si (si τ 1002 0 (τ.1 1001 0)) 1001 0 0) 1006 0 0) := (((Fr.refl _ _).si _ _ _ rfl).si _ _ _ rfl).si _ _ _ rfl
  have hT : TapeM (si (si (si τ 1002 0 (τ.1 1001 0)) 1001 0 0) 1006 0 0) n B := by
    refine ⟨hn, ?_, fun j hj => ?_⟩
    · simp only [si_rd, reduceIte, Nat.reduceEqDiff]; exact h1
    · rw [f1.i 1 rfl]; exact h2 j hj
  have r6 : (si (si (si τ 1002 0 (τ.1 1001 0)) 1001 0 0) 1006 0 0).1 1006 0 = nI 0 := by simp only [si_rd, reduceIte, Nat.reduceEqDiff]; rfl
  have r1 : (si (si (si τ 1002 0 (τ.1 1001 0)) 1001 0 0) 1006 0 0).1 1001 0 = 0 := by simp only [si_rd, reduceIte, Nat.reduceEqDiff]
  generalize si (si (si τ 1002 0 (τ.1 1001 0)) 1001 0 0) 1006 0 0 = τ1 at *
  refine ok_bo_of (m_scan hN (Nat.zero_le _) hT r6) (fun τ2 h => ok_some.mpr ⟨hT.fr h.2 rfl, h.1, ?_, (f1.wide rfl).trans (h.2.wide rfl)⟩)
  rw [h.2.i 1001 rfl]; exact r1
abbrev VF : List Nat := [4801, 4811, 4812, 4802, 4803, 4804, 4805, 4806, 4807, 4808, 4809, 4810, 11, 12, 13, 14, 15, 16, 17, 18, 1400, 1409]
abbrev VFM : List Nat := [1001, 1002, 1008, 1009, 1011, 1003, 1004, 1005, 1006, 1007, 1010, 2, 3, 4, 5, 6, 7, 8, 9, 10, 1021]
abbrev VG : List Nat := [4801, 4811, 4812, 4802, 4803, 4804, 4805, 4806, 4807, 4808, 4809, 4810, 11, 12, 13, 14, 15, 16, 17, 18, 1400, 1409, 1200, 3, 4, 5, 6, 7, 8, 9, 10, 5602, 5605, 12404, 12411, 9004, 15600, 15601, 47, 14405, 14404]
abbrev VGM : List Nat := [1001, 1002, 1008, 1009, 1011, 1003, 1004, 1005, 1006, 1007, 1010, 2, 3, 4, 5, 6, 7, 8, 9, 10, 1021, 1035, 1036, 1069, 1096, 1097, 1074, 1082, 1086]
theorem LM_kp {τ τ' : St} {L : Lv} (hL : LOk L) (h : LM τ L) (k : Kp τ τ') : LM τ' L := by
  obtain ⟨a1, a2, a3, a4, a5, a6⟩ := h
  obtain ⟨k1, k2, k3, k4⟩ := k
  refine ⟨by rw [k4]; exact a1, fun s hs => ?_, by rw [k3 0 (by omega)]; exact a3, by rw [k3 1 (by omega)]; exact a4, by rw [k3 2 (by omega)]; exact a5, by rw [k3 3 (by omega)]; exact a6⟩
  have hs40 : s < 40 := Nat.lt_of_lt_of_le hs hL.1
  obtain ⟨q1, q2, q3, q4, q5, q6⟩ := k1 s hs40
  obtain ⟨b1, b2, b3, b4, b5, b6, b7⟩ := a2 s hs
  obtain ⟨_, _, _, c1, c2, _⟩ := hL.2.1 s hs
  have hc3 : L.c s ≤ 3 := by
    by_cases e1 : L.k s = 1
    · exact (c1 e1).2
    · rw [c2 e1]; omega
  rw [q1, q2, q3, q4, q5, q6]
  refine ⟨b1, b2, b3, b4, b5, fun i hi => ?_, b7⟩
  rw [k2 _ (by omega)]; exact b6 i hi
theorem LX1_fr {σ σ' : St} {L : Lv} {V : List Nat} (h : LX 1 σ L) (f : Fr V σ σ') (hv : ([1200, 3, 4, 5, 6, 7, 8, 9, 10] : List Nat).all (fun a => !V.contains a) = true) : LX 1 σ' L := by
  have q := f.at hv
  unfold LX at h ⊢
  simp only [Nat.reduceMul, Nat.reduceAdd, Nat.reduceSub] at h ⊢
  rw [(q 1200 (by decide)).1, (q 3 (by decide)).2, (q 4 (by decide)).1, (q 5 (by decide)).1, (q 6 (by decide)).1, (q 7 (by decide)).1, (q 8 (by decide)).1, (q 9 (by decide)).2, (q 10 (by decide)).1]
  exact h
theorem LX2_fr {σ σ' : St} {L : Lv} {V : List Nat} (h : LX 2 σ L) (f : Fr V σ σ') (hv : ([1400, 11, 12, 13, 14, 15, 16, 17, 18] : List Nat).all (fun a => !V.contains a) = true) : LX 2 σ' L := by
  have q := f.at hv
  unfold LX at h ⊢
  simp only [Nat.reduceMul, Nat.reduceAdd, Nat.reduceSub] at h ⊢
  rw [(q 1400 (by decide)).1, (q 11 (by decide)).2, (q 12 (by decide)).1, (q 13 (by decide)).1, (q 14 (by decide)).1, (q 15 (by decide)).1, (q 16 (by decide)).1, (q 17 (by decide)).2, (q 18 (by decide)).1]
  exact h
theorem LM_fr {σ σ' : St} {L : Lv} {V : List Nat} (h : LM σ L) (f : Fr V σ σ') (hv : ([3, 4, 5, 6, 7, 8, 9, 10, 2] : List Nat).all (fun a => !V.contains a) = true) : LM σ' L := by
  have q := f.at hv
  unfold LM at h ⊢
  rw [(q 3 (by decide)).1, (q 4 (by decide)).2, (q 5 (by decide)).1, (q 6 (by decide)).1, (q 7 (by decide)).1, (q 8 (by decide)).1, (q 9 (by decide)).1, (q 10 (by decide)).2, (q 2 (by decide)).1]
  exact h
/-- after list(): nothing of the elder LIST is left -/
def ZX (σ : St) : Prop := σ.1 5602 0 = 0 ∧ σ.1 5605 0 = 0 ∧ σ.1 12404 0 = 0 ∧ σ.1 12411 0 = 0 ∧ σ.1 9004 0 = 0 ∧ σ.1 15600 0 = 0 ∧ σ.1 15601 0 = 0 ∧ σ.1 14405 0 = 0 ∧ σ.1 14404 0 = 0 ∧ ∀ j, j < 40 → σ.1 47 j = 0
def ZM (τ : St) : Prop := τ.1 1035 0 = 0 ∧ τ.1 1036 0 = 0 ∧ τ.1 1069 0 = 0 ∧ τ.1 1096 0 = 0 ∧ τ.1 1097 0 = 0 ∧ τ.1 1074 0 = 0 ∧ τ.1 1082 0 = 0 ∧ τ.1 1086 0 = 0
theorem x_listEnd {N : Nat} (hN : 802 < N) {σ : St} {L : Lv} (hL : LOk L) (h : LX 2 σ L) (x : Int32) : ok (bo (f_X6_become 1 2 σ) (fun σ6 => bo (f_X1_forget σ6) (fun σ7 => bo (f_X5_forget σ7) (fun σ8 => bo (f_X3_forget σ8) (fun σ9 => bo (f_X10_forget σ9) (fun σ10 => bo (f_X2_forget N σ10) (fun σ11 => bo (f_X4_forgetFilled σ11) (fun σ12 => some (x, σ12))))))))) (fun a => a.1 = x ∧ LX 1 a.2 L ∧ ZX a.2 ∧ Fr [1200, 3, 4, 5, 6, 7, 8, 9, 10, 5602, 5605, 12404, 12411, 9004, 15600, 15601, 47, 14405, 14404] σ a.2) := by
  obtain ⟨σ1, e1, l1, f1⟩ := x_become12 hL.1 h
  rw [e1, bo_some]
  unfold f_X1_forget f_X5_forget f_X3_forget f_X10_forget f_X4_forgetFilled f_X2_forget
  rw [bo_some, bo_some, bo_some, bo_some]
  have f2 : Fr [5602, 5605, 12404, 12411, 9004, 15600, 15601] σ1 (si (si (si (si (si (si (si σ1 5602 0 0) 5605 0 0) 12404 0 0) 12411 0 0) 9004 0 0) 15600 0 0) 15601 0 0) := (((((((Fr.refl _ _).si _ _ _ rfl).si _ _ _ rfl).si _ _ _ rfl).si _ _ _ rfl).si _ _ _ rfl).si _ _ _ rfl).si _ _ _ rfl
  have z : (si (si (si (si (si (si (si σ1 5602 0 0) 5605 0 0) 12404 0 0) 12411 0 0) 9004 0 0) 15600 0 0) 15601 0 0).1 5602 0 = 0 ∧ (si (si (si (si (si (si (si σ1 5602 0 0) 5605 0 0) 12404 0 0) 12411 0 0) 9004 0 0) 15600 0 0) 15601 0 0).1 5605 0 = 0 ∧ (si (si (si (si (si (si (si σ1 5602 0 0) 5605 0 0) 12404 0 0) 12411 0 0) 9004 0 0) 15600 0 0) 15601 0 0).1 12404 0 = 0 ∧ (si (si (si (si (si (si (si σ1 5602 0 0) 5605 0 0) 12404 0 0) 12411 0 0) 9004 0 0) 15600 0 0) 15601 0 0).1 12411 0 = 0 ∧ (si (si (si (si (si (si (si σ1 5602 0 0) 5605 0 0) 12404 0 0) 12411 0 0) 9004 0 0) 15600 0 0) 15601 0 0).1 9004 0 = 0 ∧ (si (si (si (si (si (si (si σ1 5602 0 0) 5605 0 0) 12404 0 0) 12411 0 0) 9004 0 0) 15600 0 0) 15601 0 0).1 15600 0 = 0 ∧ (si (si (si (si (si (si (si σ1 5602 0 0) 5605 0 0) 12404 0 0) 12411 0 0) 9004 0 0) 15600 0 0) 15601 0 0).1 15601 0 = 0 := by
    simp only [si_rd, reduceIte, Nat.reduceEqDiff, and_self]
  generalize si (si (si (si (si (si (si σ1 5602 0 0) 5605 0 0) 12404 0 0) 12411 0 0) 9004 0 0) 15600 0 0) 15601 0 0 = σ2 at *
  obtain ⟨σ3, e3, k3, f3⟩ := x_fill (r0 := 47) (rn0 := 40) (N := N) (x := 0) (σ := σ2) (by omega) (by omega)
  rw [e3, bo_some, bo_some, bo_some, ok_some]
  have f4 : Fr [14405, 14404] σ3 (si (si σ3 14405 0 0) 14404 0 0) := ((Fr.refl _ _).si _ _ _ rfl).si _ _ _ rfl
  refine ⟨rfl, LX1_fr (LX1_fr (LX1_fr l1 f2 rfl) f3 rfl) f4 rfl, ?_, (((f1.wide rfl).trans (f2.wide rfl)).trans (f3.wide rfl)).trans (f4.wide rfl)⟩
  obtain ⟨z1, z2, z3, z4, z5, z6, z7⟩ := z
  refine ⟨?_, ?_, ?_, ?_, ?_, ?_, ?_, ?_, ?_, fun j hj => ?_⟩
  · rw [f4.i 5602 rfl, f3.i 5602 rfl]; exact z1
  · rw [f4.i 5605 rfl, f3.i 5605 rfl]; exact z2
  · rw [f4.i 12404 rfl, f3.i 12404 rfl]; exact z3
  · rw [f4.i 12411 rfl, f3.i 12411 rfl]; exact z4
  · rw [f4.i 9004 rfl, f3.i 9004 rfl]; exact z5
  · rw [f4.i 15600 rfl, f3.i 15600 rfl]; exact z6
  · rw [f4.i 15601 rfl, f3.i 15601 rfl]; exact z7
  · simp only [si_rd, reduceIte, Nat.reduceEqDiff]
  · simp only [si_rd, reduceIte, Nat.reduceEqDiff]
  · rw [f4.i 47 rfl]; exact k3 j hj
