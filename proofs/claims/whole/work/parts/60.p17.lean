/-! the draft is taken -/
theorem cpb_n {n : Nat} (h : n ≤ 40) : cpb 0 0 (nI n) 40 40 = true := by
  unfold cpb
  rw [decide_eq_true_iff, ncl (by omega)]
  exact ⟨by decide, by decide, nI_pos (by omega), by simpa using h, by simpa using h⟩
theorem cpy_in {α : Type} {f g : Nat → α} {n k : Nat} (h : k < n) : va_cpy f g 0 0 n k = f k := by
  unfold va_cpy
  rw [if_pos ⟨Nat.zero_le _, by omega⟩, Nat.sub_zero, Nat.zero_add]
theorem x_become12 {σ : St} {L : Lv} (hL : L.n ≤ 40) (h : LX 2 σ L) : ok (f_X6_become 1 2 σ) (fun σ' => LX 1 σ' L ∧ Fr [1200, 3, 4, 5, 6, 7, 8, 9, 10] σ σ') := by
  obtain ⟨h1, h2, h3, h4, h5, h6⟩ := h
  simp only [Nat.reduceMul, Nat.reduceAdd, Nat.reduceSub] at h1 h2 h3 h4 h5 h6
  unfold f_X6_become
  simp only [Nat.reduceMul, Nat.reduceAdd, Nat.reduceSub, stl, si_rd, si_2, sr_rd, srl_rd, sr_2, srl_1, reduceIte, h1, cpb_n hL, ncl (show L.n < 2147483648 by omega), grd_true, show cpb 0 0 4 4 4 = true from rfl, Nat.reduceEqDiff]
  rw [ok_some]
  refine ⟨⟨?_, fun s hs => ?_, ?_, ?_, ?_, ?_⟩, ?_⟩
  · simp only [Nat.reduceMul, Nat.reduceAdd, Nat.reduceSub, si_rd, si_2, sr_rd, srl_rd, sr_2, srl_1, reduceIte, Nat.reduceEqDiff]
  · obtain ⟨a1, a2, a3, a4, a5, a6, a7⟩ := h2 s hs
    simp only [Nat.reduceMul, Nat.reduceAdd, Nat.reduceSub, si_rd, si_2, sr_rd, srl_rd, sr_2, srl_1, reduceIte, Nat.reduceEqDiff, cpy_in hs]
    exact ⟨a1, a2, a3, a4, a5, a6, a7⟩
  · simp only [Nat.reduceMul, Nat.reduceAdd, Nat.reduceSub, si_rd, si_2, sr_rd, srl_rd, sr_2, srl_1, reduceIte, Nat.reduceEqDiff, cpy_in (show 0 < 4 by omega)]
    exact h3
  · simp only [Nat.reduceMul, Nat.reduceAdd, Nat.reduceSub, si_rd, si_2, sr_rd, srl_rd, sr_2, srl_1, reduceIte, Nat.reduceEqDiff, cpy_in (show 1 < 4 by omega)]
    exact h4
  · simp only [Nat.reduceMul, Nat.reduceAdd, Nat.reduceSub, si_rd, si_2, sr_rd, srl_rd, sr_2, srl_1, reduceIte, Nat.reduceEqDiff, cpy_in (show 2 < 4 by omega)]
    exact h5
  · simp only [Nat.reduceMul, Nat.reduceAdd, Nat.reduceSub, si_rd, si_2, sr_rd, srl_rd, sr_2, srl_1, reduceIte, Nat.reduceEqDiff, cpy_in (show 3 < 4 by omega)]
    exact h6
  · exact (((((((((Fr.refl _ _).si _ _ _ rfl).srl _ _ rfl).sr _ _ rfl).sr _ _ rfl).sr _ _ rfl).sr _ _ rfl).sr _ _ rfl).srl _ _ rfl).sr _ _ rfl
theorem x_become21 {σ : St} {L : Lv} (hL : L.n ≤ 40) (h : LX 1 σ L) : ok (f_X6_become 2 1 σ) (fun σ' => LX 2 σ' L ∧ Fr [1400, 11, 12, 13, 14, 15, 16, 17, 18] σ σ') := by
  obtain ⟨h1, h2, h3, h4, h5, h6⟩ := h
  simp only [Nat.reduceMul, Nat.reduceAdd, Nat.reduceSub] at h1 h2 h3 h4 h5 h6
  unfold f_X6_become
  simp only [Nat.reduceMul, Nat.reduceAdd, Nat.reduceSub, stl, si_rd, si_2, sr_rd, srl_rd, sr_2, srl_1, reduceIte, h1, cpb_n hL, ncl (show L.n < 2147483648 by omega), grd_true, show cpb 0 0 4 4 4 = true from rfl, Nat.reduceEqDiff]
  rw [ok_some]
  refine ⟨⟨?_, fun s hs => ?_, ?_, ?_, ?_, ?_⟩, ?_⟩
  · simp only [Nat.reduceMul, Nat.reduceAdd, Nat.reduceSub, si_rd, si_2, sr_rd, srl_rd, sr_2, srl_1, reduceIte, Nat.reduceEqDiff]
  · obtain ⟨a1, a2, a3, a4, a5, a6, a7⟩ := h2 s hs
    simp only [Nat.reduceMul, Nat.reduceAdd, Nat.reduceSub, si_rd, si_2, sr_rd, srl_rd, sr_2, srl_1, reduceIte, Nat.reduceEqDiff, cpy_in hs]
    exact ⟨a1, a2, a3, a4, a5, a6, a7⟩
  · simp only [Nat.reduceMul, Nat.reduceAdd, Nat.reduceSub, si_rd, si_2, sr_rd, srl_rd, sr_2, srl_1, reduceIte, Nat.reduceEqDiff, cpy_in (show 0 < 4 by omega)]
    exact h3
  · simp only [Nat.reduceMul, Nat.reduceAdd, Nat.reduceSub, si_rd, si_2, sr_rd, srl_rd, sr_2, srl_1, reduceIte, Nat.reduceEqDiff, cpy_in (show 1 < 4 by omega)]
    exact h4
  · simp only [Nat.reduceMul, Nat.reduceAdd, Nat.reduceSub, si_rd, si_2, sr_rd, srl_rd, sr_2, srl_1, reduceIte, Nat.reduceEqDiff, cpy_in (show 2 < 4 by omega)]
    exact h5
  · simp only [Nat.reduceMul, Nat.reduceAdd, Nat.reduceSub, si_rd, si_2, sr_rd, srl_rd, sr_2, srl_1, reduceIte, Nat.reduceEqDiff, cpy_in (show 3 < 4 by omega)]
    exact h6
  · exact (((((((((Fr.refl _ _).si _ _ _ rfl).srl _ _ rfl).sr _ _ rfl).sr _ _ rfl).sr _ _ rfl).sr _ _ rfl).sr _ _ rfl).srl _ _ rfl).sr _ _ rfl

/-- the s-th SIGN and those ahead are taken out of the draft -/
def TD (τ0 τ : St) (m : Nat) : Prop := (∀ s, s < m → τ.2 4 s = τ0.2 4 (40 + s) ∧ τ.1 5 s = τ0.1 5 (40 + s) ∧ τ.1 6 s = τ0.1 6 (40 + s) ∧ τ.1 7 s = τ0.1 7 (40 + s) ∧ τ.1 8 s = τ0.1 8 (40 + s) ∧ (∀ i, i < 3 → τ.1 9 (3 * s + i) = τ0.1 9 (3 * (40 + s) + i)) ∧ τ.2 10 s = τ0.2 10 (40 + s)) ∧ (∀ s, 40 ≤ s → τ.2 4 s = τ0.2 4 s ∧ τ.1 5 s = τ0.1 5 s ∧ τ.1 6 s = τ0.1 6 s ∧ τ.1 7 s = τ0.1 7 s ∧ τ.1 8 s = τ0.1 8 s ∧ τ.2 10 s = τ0.2 10 s) ∧ (∀ j, 120 ≤ j → τ.1 9 j = τ0.1 9 j) ∧ Fr [4, 5, 6, 7, 8, 9, 10] τ0 τ
theorem m_td126 {N s : Nat} {k41 : Int32 → St → Option St} {Q : St → Prop} (hs : s < 40) : ∀ (k fuel i : Nat) (τ : St), 3 - i = k → k < fuel → i ≤ 3 →
    (∀ τ', (∀ j, j < i → τ'.1 9 (3 * s + j) = τ.1 9 (3 * s + j)) → (∀ j, i ≤ j → j < 3 → τ'.1 9 (3 * s + j) = τ.1 9 (3 * (40 + s) + j)) → FrP (fun a j => a = 9 ∧ 3 * s ≤ j ∧ j < 3 * s + 3) τ τ' → ok (k41 (nI (s + 1)) τ') Q) → ok (f_X12_takeDraft_126 N k41 fuel (nI s) (nI (40 + s)) (nI i) τ) Q := by
  intro k
  induction k with
  | zero =>
    intro fuel i τ hk hf hi kk
    obtain ⟨fuel, rfl⟩ : ∃ f, fuel = f + 1 := ⟨fuel - 1, by omega⟩
    rw [f_X12_takeDraft_126, if_pos (show (3 : Int32) ≤ nI i from nI_le (a := 3) (by omega) (by omega)), nI_1]
    exact kk τ (fun j hj => rfl) (fun j h1 h2 => by omega) (FrP.refl _ _)
  | succ k ih =>
    intro fuel i τ hk hf hi kk
    obtain ⟨fuel, rfl⟩ : ∃ f, fuel = f + 1 := ⟨fuel - 1, by omega⟩
    rw [f_X12_takeDraft_126, if_neg (show ¬ (3 : Int32) ≤ nI i from nI_ge (b := 3) (by omega) (by omega)), show (3 : Int32) = nI 3 from rfl, nmul, nmul, nadd, nadd, ib_n (by omega), decide_eq_true (by omega), ib_n (by omega), decide_eq_true (by omega), grd_true, grd_true, ncl (by omega), ncl (by omega), nI_1]
    have f1 : FrP (fun a j => a = 9 ∧ 3 * s ≤ j ∧ j < 3 * s + 3) τ (si τ 9 (3 * s + i) (τ.1 9 (3 * (40 + s) + i))) := (FrP.refl _ _).si _ _ _ ⟨rfl, by omega, by omega⟩
    refine ih fuel (i + 1) _ (by omega) (by omega) (by omega) (fun τ' h1 h2 h3 => kk τ' ?_ ?_ (f1.trans h3))
    · intro j hj
      rw [h1 j (by omega), si_rd, if_pos rfl, if_neg (by omega)]
    · intro j hj hj3
      by_cases e : j = i
      · rw [e, h1 i (by omega), si_rd, if_pos rfl, if_pos rfl]
      · rw [h2 j (by omega) hj3, (f1 9 (3 * (40 + s) + j) (by simp; omega)).1]
theorem m_td41 {N : Nat} (hN : 802 < N) {Q : St → Prop} {τ0 : St} : ∀ (k fuel s : Nat) (τ : St), 40 - s = k → k < fuel → s ≤ 40 → TD τ0 τ s → (∀ τ', TD τ0 τ' 40 → Q τ') → ok (f_X12_takeDraft_41 N fuel (nI s) τ) Q := by
  intro k
  induction k with
  | zero =>
    intro fuel s τ hk hf hs h kk
    obtain ⟨fuel, rfl⟩ : ∃ f, fuel = f + 1 := ⟨fuel - 1, by omega⟩
    rw [f_X12_takeDraft_41, if_pos (show (40 : Int32) ≤ nI s from nI_le (a := 40) (by omega) (by omega)), ok_some]
    have : s = 40 := by omega
    subst this
    exact kk τ h
  | succ k ih =>
    intro fuel s τ hk hf hs h kk
    obtain ⟨fuel, rfl⟩ : ∃ f, fuel = f + 1 := ⟨fuel - 1, by omega⟩
    rw [f_X12_takeDraft_41, if_neg (show ¬ (40 : Int32) ≤ nI s from nI_ge (b := 40) (by omega) (by omega)), show (40 : Int32) = nI 40 from rfl, nadd, ib_n (a := 40 + s) (by omega), decide_eq_true (show 40 + s < 80 by omega), ib_n (a := s) (by omega), decide_eq_true (show s < 80 by omega)]
    simp only [grd_true]
    rw [ncl (a := 40 + s) (by omega), ncl (a := s) (by omega), ← nI_0]
    obtain ⟨c1, c2, c3, c4⟩ := h
    obtain ⟨d1, d2, d3, d4, d5, d6⟩ := c2 (40 + s) (by omega)
    rw [d1, d2, d3, d4, d5, d6]
    have fF : Fr [4, 5, 6, 7, 8, 10] τ (sl (si (si (si (si (sl τ 4 s (τ0.2 4 (40 + s))) 5 s (τ0.1 5 (40 + s))) 6 s (τ0.1 6 (40 + s))) 7 s (τ0.1 7 (40 + s))) 8 s (τ0.1 8 (40 + s))) 10 s (τ0.2 10 (40 + s))) := ((((((Fr.refl _ _).sl _ _ _ rfl).si _ _ _ rfl).si _ _ _ rfl).si _ _ _ rfl).si _ _ _ rfl).sl _ _ _ rfl
    have rr : ∀ j, (sl (si (si (si (si (sl τ 4 s (τ0.2 4 (40 + s))) 5 s (τ0.1 5 (40 + s))) 6 s (τ0.1 6 (40 + s))) 7 s (τ0.1 7 (40 + s))) 8 s (τ0.1 8 (40 + s))) 10 s (τ0.2 10 (40 + s))).2 4 j = (if j = s then τ0.2 4 (40 + s) else τ.2 4 j) ∧ (sl (si (si (si (si (sl τ 4 s (τ0.2 4 (40 + s))) 5 s (τ0.1 5 (40 + s))) 6 s (τ0.1 6 (40 + s))) 7 s (τ0.1 7 (40 + s))) 8 s (τ0.1 8 (40 + s))) 10 s (τ0.2 10 (40 + s))).1 5 j = (if j = s then τ0.1 5 (40 + s) else τ.1 5 j) ∧ (sl (si (si (si (si (sl τ 4 s (τ0.2 4 (40 + s))) 5 s (τ0.1 5 (40 + s))) 6 s (τ0.1 6 (40 + s))) 7 s (τ0.1 7 (40 + s))) 8 s (τ0.1 8 (40 + s))) 10 s (τ0.2 10 (40 + s))).1 6 j = (if j = s then τ0.1 6 (40 + s) else τ.1 6 j) ∧ (sl (si (si (si (si (sl τ 4 s (τ0.2 4 (40 + s))) 5 s (τ0.1 5 (40 + s))) 6 s (τ0.1 6 (40 + s))) 7 s (τ0.1 7 (40 + s))) 8 s (τ0.1 8 (40 + s))) 10 s (τ0.2 10 (40 + s))).1 7 j = (if j = s then τ0.1 7 (40 + s) else τ.1 7 j) ∧ (sl (si (si (si (si (sl τ 4 s (τ0.2 4 (40 + s))) 5 s (τ0.1 5 (40 + s))) 6 s (τ0.1 6 (40 + s))) 7 s (τ0.1 7 (40 + s))) 8 s (τ0.1 8 (40 + s))) 10 s (τ0.2 10 (40 + s))).1 8 j = (if j = s then τ0.1 8 (40 + s) else τ.1 8 j) ∧ (sl (si (si (si (si (sl τ 4 s (τ0.2 4 (40 + s))) 5 s (τ0.1 5 (40 + s))) 6 s (τ0.1 6 (40 + s))) 7 s (τ0.1 7 (40 + s))) 8 s (τ0.1 8 (40 + s))) 10 s (τ0.2 10 (40 + s))).2 10 j = (if j = s then τ0.2 10 (40 + s) else τ.2 10 j) := by
      intro j
      simp only [si_rd, si_2, sl_rd, sl_1, reduceIte, Nat.reduceEqDiff]
      exact ⟨trivial, trivial, trivial, trivial, trivial, trivial⟩
    generalize sl (si (si (si (si (sl τ 4 s (τ0.2 4 (40 + s))) 5 s (τ0.1 5 (40 + s))) 6 s (τ0.1 6 (40 + s))) 7 s (τ0.1 7 (40 + s))) 8 s (τ0.1 8 (40 + s))) 10 s (τ0.2 10 (40 + s)) = τ1 at *
    refine m_td126 (by omega) 3 N 0 τ1 rfl (by omega) (by omega) (fun τ2 _ h2 h3 => ih fuel (s + 1) τ2 (by omega) (by omega) (by omega) ?_ kk)
    have n9 : ∀ a j, a ≠ 9 → τ2.1 a j = τ1.1 a j ∧ τ2.2 a j = τ1.2 a j := fun a j ha => h3 a j (fun h => ha h.1)
    refine ⟨fun t ht => ?_, fun t ht => ?_, fun j hj => ?_, ?_⟩
    · rw [(n9 4 t (by decide)).2, (n9 5 t (by decide)).1, (n9 6 t (by decide)).1, (n9 7 t (by decide)).1, (n9 8 t (by decide)).1, (n9 10 t (by decide)).2]
      obtain ⟨r1, r2, r3, r4, r5, r6⟩ := rr t
      rw [r1, r2, r3, r4, r5, r6]
      by_cases e : t = s
      · subst e
        simp only [if_pos]
        refine ⟨trivial, trivial, trivial, trivial, trivial, fun i hi => ?_, trivial⟩
        rw [h2 i (by omega) hi, fF.i 9 rfl]
        exact c3 _ (by omega)
      · simp only [if_neg e]
        obtain ⟨q1, q2, q3, q4, q5, q6, q7⟩ := c1 t (by omega)
        refine ⟨q1, q2, q3, q4, q5, fun i hi => ?_, q7⟩
        rw [(h3 9 (3 * t + i) (by simp; omega)).1, fF.i 9 rfl]
        exact q6 i hi
    · rw [(n9 4 t (by decide)).2, (n9 5 t (by decide)).1, (n9 6 t (by decide)).1, (n9 7 t (by decide)).1, (n9 8 t (by decide)).1, (n9 10 t (by decide)).2]
      obtain ⟨r1, r2, r3, r4, r5, r6⟩ := rr t
      rw [r1, r2, r3, r4, r5, r6]
      have e : t ≠ s := by omega
      simp only [if_neg e]
      exact c2 t ht
    · rw [(h3 9 j (by simp; omega)).1, fF.i 9 rfl]; exact c3 j hj
    · exact (c4.trans (fF.wide rfl)).trans (h3.toFr (fun a j h => by rw [h.1]; rfl))
theorem m_td2 {N : Nat} {Q : St → Prop} {τ0 : St} : ∀ (k fuel i : Nat) (τ : St), 4 - i = k → k < fuel → i ≤ 4 → (∀ j, j < i → τ.1 2 j = τ0.1 2 (4 + j)) → (∀ j, 4 ≤ j → τ.1 2 j = τ0.1 2 j) → Fr [2] τ0 τ →
    (∀ τ', (∀ j, j < 4 → τ'.1 2 j = τ0.1 2 (4 + j)) → Fr [2] τ0 τ' → ok (f_X12_takeDraft_41 N N 0 (si τ' 3 0 (τ'.1 3 1))) Q) → ok (f_X12_takeDraft_2 N fuel (nI i) τ) Q := by
  intro k
  induction k with
  | zero =>
    intro fuel i τ hk hf hi h1 h2 h3 kk
    obtain ⟨fuel, rfl⟩ : ∃ f, fuel = f + 1 := ⟨fuel - 1, by omega⟩
    rw [f_X12_takeDraft_2, if_pos (show (4 : Int32) ≤ nI i from nI_le (a := 4) (by omega) (by omega)), show ib 1 2 = true from rfl, show ib 0 2 = true from rfl, grd_true, grd_true]
    exact kk τ (fun j hj => h1 j (by omega)) h3
  | succ k ih =>
    intro fuel i τ hk hf hi h1 h2 h3 kk
    obtain ⟨fuel, rfl⟩ : ∃ f, fuel = f + 1 := ⟨fuel - 1, by omega⟩
    rw [f_X12_takeDraft_2, if_neg (show ¬ (4 : Int32) ≤ nI i from nI_ge (b := 4) (by omega) (by omega)), show (4 : Int32) = nI 4 from rfl, nadd, ib_n (a := 4 + i) (by omega), decide_eq_true (show 4 + i < 8 by omega), ib_n (a := i) (by omega), decide_eq_true (show i < 8 by omega), grd_true, grd_true, ncl (a := 4 + i) (by omega), ncl (a := i) (by omega), nI_1, h2 (4 + i) (by omega)]
    refine ih fuel (i + 1) _ (by omega) (by omega) (by omega) (fun j hj => ?_) (fun j hj => ?_) (h3.si _ _ _ rfl) kk
    · rw [si_rd, if_pos rfl]
      by_cases e : j = i
      · rw [if_pos e, e]
      · rw [if_neg e]; exact h1 j (by omega)
    · rw [si_rd, if_pos rfl, if_neg (by omega)]; exact h2 j hj
theorem m_takeDraft {N : Nat} (hN : 802 < N) {τ : St} {L : Lv} {b : Nat} (hL : LOk L) (dm : DM τ L b) : ok (f_X12_takeDraft N τ) (fun τ' => LM τ' L ∧ Fr [2, 3, 4, 5, 6, 7, 8, 9, 10] τ τ') := by
  unfold f_X12_takeDraft
  obtain ⟨d1, d2, d3, d4, d5, d6, d7⟩ := dm
  rw [← nI_0]
  refine m_td2 (τ0 := τ) 4 N 0 τ rfl (by omega) (by omega) (fun j hj => by omega) (fun j hj => rfl) (Fr.refl _ _) (fun τ9 y1 y2 => ?_)
  have fF : Fr [2, 3] τ (si τ9 3 0 (τ9.1 3 1)) := (y2.wide rfl).si _ _ _ rfl
  have r2 : ∀ j, (si τ9 3 0 (τ9.1 3 1)).1 2 j = τ9.1 2 j := fun j => by rw [si_rd, if_neg (by decide)]
  have r3 : (si τ9 3 0 (τ9.1 3 1)).1 3 0 = nI L.n := by rw [si_rd, if_pos rfl, if_pos rfl, y2.i 3 rfl]; exact d1
  generalize si τ9 3 0 (τ9.1 3 1) = τ1 at *
  rw [← nI_0]
  refine m_td41 hN (τ0 := τ1) 40 N 0 τ1 rfl (by omega) (by omega) ⟨fun s hs => by omega, fun s hs => ⟨rfl, rfl, rfl, rfl, rfl, rfl⟩, fun j hj => rfl, Fr.refl _ _⟩ (fun τ' h => ?_)
  obtain ⟨h1, h2, h3, h4⟩ := h
  refine ⟨⟨?_, fun s hs => ?_, ?_, ?_, ?_, ?_⟩, (fF.wide rfl).trans (h4.wide rfl)⟩
  · rw [h4.i 3 rfl]; exact r3
  · have hs40 : s < 40 := Nat.lt_of_lt_of_le hs hL.1
    obtain ⟨q1, q2, q3, q4, q5, q6, q7⟩ := h1 s hs40
    obtain ⟨b1, b2, b3, b4, b5, b6, b7⟩ := d2 s hs
    obtain ⟨_, _, _, c1, c2, _⟩ := hL.2.1 s hs
    have hc3 : L.c s ≤ 3 := by
      by_cases e1 : L.k s = 1
      · exact (c1 e1).2
      · rw [c2 e1]; omega
    refine ⟨?_, ?_, ?_, ?_, ?_, fun i hi => ?_, ?_⟩
    · rw [q1, fF.l 4 rfl]; exact b1
    · rw [q2, fF.i 5 rfl]; exact b2
    · rw [q3, fF.i 6 rfl]; exact b3
    · rw [q4, fF.i 7 rfl]; exact b4
    · rw [q5, fF.i 8 rfl]; exact b5
    · rw [q6 i (by omega), fF.i 9 rfl]; exact b6 i hi
    · rw [q7, fF.l 10 rfl]; exact b7
  · rw [h4.i 2 rfl, r2, y1 0 (by omega)]; exact d3
  · rw [h4.i 2 rfl, r2, y1 1 (by omega)]; exact d4
  · rw [h4.i 2 rfl, r2, y1 2 (by omega)]; exact d5
  · rw [h4.i 2 rfl, r2, y1 3 (by omega)]; exact d6
