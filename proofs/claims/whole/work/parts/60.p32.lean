theorem cel_end {L : Lv} {T : Tv} {R S s : Nat} (hL : LOk L) (hT : TvOk T) (hs : s < L.n) (hk1 : L.k s = 1) (hR : Rok L T R S) (p' g' : Nat) (hg : g' < 2) : cel L T R S s (T.n + 1) p' g' = cvm (stp L T R S s) (S + L.c s) p' g' := by
  have hc1 := ((hL.2.1 s hs).2.2.2.1 hk1).1
  have he3 : L.ech ≤ 3 := hL.2.2.2.2.2
  unfold cel cvm
  have hiff : cstB L T R S s (T.n + 1) p' g' = true ↔ ((p' ≤ S + L.c s ∧ S + L.c s - p' < 4 ∧ (stp L T R S s).testBit (S + L.c s - p') = true) ∧ g' = (if 16 ≤ stp L T R S s then 1 else 0)) := by
    unfold cstB
    rw [decide_eq_true_iff]
    constructor
    · rintro ⟨h1, h | h⟩
      · obtain ⟨a1, a2, ⟨a3, a4, a5⟩, a6⟩ := h
        have e1 : S - (p' - L.c s) = S + L.c s - p' := by omega
        rw [e1] at a4 a5
        have hok := hR.2 _ a4 a5
        have hst : stB L T R S s (S + L.c s - p') = true := decide_eq_true ⟨hok.1, Or.inl ⟨a5, hok.2.1, by rw [show S - (S + L.c s - p') = p' - L.c s by omega]; exact a6⟩⟩
        have hbit : (stp L T R S s).testBit (S + L.c s - p') = true := by rw [stp_bit _ _ _ _ _ a4]; exact hst
        refine ⟨⟨by omega, a4, hbit⟩, ?_⟩
        rw [h1]
        have hne : stp L T R S s ≠ 0 := fun q => by rw [q, Nat.zero_testBit] at hbit; cases hbit
        unfold gC
        by_cases hc : 1 < L.c s
        · rw [if_pos hc, if_pos ((stp_16 L T R S s).mpr ⟨hne, hc⟩)]
        · rw [if_neg hc, if_neg (fun q => hc ((stp_16 L T R S s).mp q).2)]
      · obtain ⟨a1, a2, ⟨a3, a4, a5⟩, a6, a7, a8⟩ := h
        have e1 : S + L.c s - p' = S - p' + 1 := by omega
        have hst : stB L T R S s (S - p' + 1) = true := decide_eq_true ⟨a7, Or.inr ⟨by omega, by rw [Nat.add_sub_cancel]; exact a5, a6, by omega, by rw [Nat.add_sub_cancel, show S - (S - p') = p' by omega]; exact a8⟩⟩
        have hbit : (stp L T R S s).testBit (S + L.c s - p') = true := by rw [e1, stp_bit _ _ _ _ _ (by omega)]; exact hst
        refine ⟨⟨by omega, by omega, hbit⟩, ?_⟩
        rw [h1]
        unfold gC
        rw [if_neg (by omega), if_neg (fun q => by have := ((stp_16 L T R S s).mp q).2; omega)]
    · rintro ⟨⟨a1, a2, a3⟩, a4⟩
      have hne : stp L T R S s ≠ 0 := fun q => by rw [q, Nat.zero_testBit] at a3; cases a3
      have hg1 : g' = gC L s := by
        rw [a4]
        unfold gC
        by_cases hc : 1 < L.c s
        · rw [if_pos hc, if_pos ((stp_16 L T R S s).mpr ⟨hne, hc⟩)]
        · rw [if_neg hc, if_neg (fun q => hc ((stp_16 L T R S s).mp q).2)]
      rw [stp_bit _ _ _ _ _ a2] at a3
      obtain ⟨b1, b | b⟩ := of_decide_eq_true a3
      · obtain ⟨c1, c2, c3⟩ := b
        have e1 : S - (S + L.c s - p') = p' - L.c s := by omega
        rw [e1] at c3
        have hat := of_decide_eq_true c3
        refine ⟨hg1, Or.inl ⟨by omega, by omega, ⟨by omega, by omega, ?_⟩, c3⟩⟩
        rw [show S - (p' - L.c s) = S + L.c s - p' by omega]; exact c1
      · obtain ⟨c1, c2, c3, c4, c5⟩ := b
        have hec := of_decide_eq_true c5
        have e1 : S + L.c s - p' - 1 = S - p' := by omega
        rw [e1] at c2 c4 c5
        have e2 : S - (S - p') = p' := by omega
        rw [e2] at c5
        have hok := hR.2 (S - p') (by omega) c2
        refine ⟨hg1, Or.inr ⟨hec.1, by omega, ⟨by omega, by omega, c2⟩, c3, by omega, c5⟩⟩
  by_cases h : cstB L T R S s (T.n + 1) p' g' = true
  · rw [if_pos h, if_pos (hiff.mp h)]
  · rw [if_neg h, if_neg (fun q => h (hiff.mpr q))]
theorem cvm_lt (R S p g : Nat) : cvm R S p g < 16 := by
  unfold cvm
  by_cases h : (p ≤ S ∧ S - p < 4 ∧ R.testBit (S - p) = true) ∧ g = (if 16 ≤ R then 1 else 0)
  · rw [if_pos h]
    have : 2 ^ (S - p) < 2 ^ 4 := Nat.pow_lt_pow_right (by omega) h.1.2.1
    exact this
  · rw [if_neg h]; omega
theorem m_cov255 {N m R S : Nat} (hm : m ≤ 11) {τ : St} (hv : CvR τ (m + 1) R S) : ∀ (k fuel i A : Nat), 18 - i = k → k < fuel → i ≤ 18 → A < 16 → (A = 0 ↔ ∀ j, j < i → cvm R S (j / 2) (j % 2) = 0) → ∃ b, f_X12_coverOn_255 N fuel (nI m) (nI A) (nI i) τ = some (b2 b, τ) ∧ (b = false ↔ ∀ j, j < 18 → cvm R S (j / 2) (j % 2) = 0) := by
  intro k
  induction k with
  | zero =>
    intro fuel i A hk hf hi hA hb
    obtain ⟨fuel, rfl⟩ : ∃ f, fuel = f + 1 := ⟨fuel - 1, by omega⟩
    have hi18 : i = 18 := by omega
    subst hi18
    rw [f_X12_coverOn_255, if_pos (show (18 : Int32) ≤ nI 18 by decide)]
    by_cases h0 : A = 0
    · rw [h0, if_pos (show nI 0 = (0 : Int32) from rfl)]; exact ⟨false, rfl, fun _ => hb.mp h0, fun _ => rfl⟩
    · rw [if_neg (nI_ne0 (by omega) (by omega))]; exact ⟨true, rfl, fun q => absurd q (by decide), fun q => absurd (hb.mpr q) h0⟩
  | succ k ih =>
    intro fuel i A hk hf hi hA hb
    obtain ⟨fuel, rfl⟩ : ∃ f, fuel = f + 1 := ⟨fuel - 1, by omega⟩
    have i1 : 18 * nI m + 18 + nI i = nI (18 * m + 18 + i) := by rw [show (18 : Int32) = nI 18 from rfl, nmul, nadd, nadd]
    have hc := hv (i / 2) (by omega) (i % 2) (by omega)
    rw [show 18 * (m + 1) + 2 * (i / 2) + i % 2 = 18 * m + 18 + i by omega] at hc
    have hlt := cvm_lt R S (i / 2) (i % 2)
    rw [f_X12_coverOn_255, if_neg (show ¬ (18 : Int32) ≤ nI i from nI_ge (b := 18) (by omega) (by omega)), i1, ib_n (by omega), decide_eq_true (show 18 * m + 18 + i < 234 by omega), grd_true, ncl (by omega), hc, nor, nI_1]
    refine ih fuel (i + 1) _ (by omega) (by omega) (by omega) (Nat.or_lt_two_pow (n := 4) hA hlt) ?_
    rw [Nat.or_eq_zero_iff, hb]
    constructor
    · rintro ⟨a, b⟩ j hj
      by_cases ej : j = i
      · rw [ej]; exact b
      · exact a j (by omega)
    · intro a
      exact ⟨fun j hj => a j (by omega), a i (by omega)⟩
theorem m_coverOn {N : Nat} (hN : 802 < N) {τ : St} {L : Lv} {T : Tv} {t : Nat} (hn : NM τ L) (ht : TMt τ t T) (hL : LOk L) (hT : TvOk T) {m R S s : Nat} (hm : m ≤ 11) (hs : s < L.n) (hR : Rok L T R S) (hfl : 16 ≤ R → ∀ e, e < 4 → R.testBit e = true → e < S) (hS : S ≤ 20) (hv : CvR τ m R S) : ok (f_X12_coverOn N (nI m) (nI s) (nI t) τ) (fun a => a.1 = b2 (decide (stp L T R S s ≠ 0)) ∧ CvR a.2 (m + 1) (stp L T R S s) (S + L.c s) ∧ FrP (PC m) τ a.2) := by
  have u2 := hT.2.1
  have t40 := ht.1
  have h40 := hL.1
  have hc3 := LOk_c hL hs
  -- the end
  have fin : ∀ τ', CvR τ' (m + 1) (stp L T R S s) (S + L.c s) → FrP (PC m) τ τ' → ok (f_X12_coverOn_255 N N (nI m) 0 0 τ') (fun a => a.1 = b2 (decide (stp L T R S s ≠ 0)) ∧ CvR a.2 (m + 1) (stp L T R S s) (S + L.c s) ∧ FrP (PC m) τ a.2) := by
    intro τ' h1 h2
    obtain ⟨b, e, hbb⟩ := m_cov255 (N := N) hm h1 18 N 0 0 rfl (by omega) (by omega) (by omega) ⟨fun _ j hj => by omega, fun _ => rfl⟩
    have e' : f_X12_coverOn_255 N N (nI m) 0 0 τ' = some (b2 b, τ') := e
    rw [e', ok_some]
    refine ⟨?_, h1, h2⟩
    show b2 b = _
    congr 1
    rw [Bool.eq_iff_iff, decide_eq_true_iff]
    have hbt : b = true ↔ ¬ ∀ j, j < 18 → cvm (stp L T R S s) (S + L.c s) (j / 2) (j % 2) = 0 := by
      rw [← hbb]; cases b <;> simp
    rw [hbt]
    have hok := Rok_stp (s := s) hR
    constructor
    · intro hno hz
      apply hno
      intro j hj
      unfold cvm
      rw [if_neg]
      rintro ⟨⟨_, _, a⟩, _⟩
      rw [hz, Nat.zero_testBit] at a; cases a
    · intro hne hall
      have : ∃ e, e < 4 ∧ (stp L T R S s).testBit e = true := by
        apply Classical.byContradiction
        intro hc
        apply hne
        rw [stp_0]
        intro e he
        cases hb : stB L T R S s e with
        | false => rfl
        | true => exact absurd ⟨e, he, by rw [stp_bit _ _ _ _ _ he]; exact hb⟩ hc
      obtain ⟨e, he, hb⟩ := this
      obtain ⟨o1, o2, o3⟩ := hok.2 e he hb
      have hp8 : S + L.c s - e ≤ 8 := by omega
      have hg2 : (if 16 ≤ stp L T R S s then 1 else 0) < 2 := by split <;> omega
      have z := hall (2 * (S + L.c s - e) + (if 16 ≤ stp L T R S s then 1 else 0)) (by omega)
      rw [show (2 * (S + L.c s - e) + (if 16 ≤ stp L T R S s then 1 else 0)) / 2 = S + L.c s - e by omega, show (2 * (S + L.c s - e) + (if 16 ≤ stp L T R S s then 1 else 0)) % 2 = (if 16 ≤ stp L T R S s then 1 else 0) by omega] at z
      unfold cvm at z
      have e3 : S + L.c s - (S + L.c s - e) = e := by omega
      rw [if_pos ⟨⟨by omega, by omega, by rw [e3]; exact hb⟩, rfl⟩] at z
      exact absurd z (Nat.ne_of_gt (Nat.pow_pos (by omega)))
  -- the places of the ROW
  have loop : L.k s = 1 → ∀ (k fuel p : Nat) (τ1 : St), T.n + 1 - p = k → k < fuel → p ≤ T.n + 1 → CelI τ1 L T m R S s p → FrP (PC m) τ τ1 → ok (f_X12_coverOn_38 N fuel (nI m) (nI s) (nI t) 0 (nI p) τ1) (fun a => a.1 = b2 (decide (stp L T R S s ≠ 0)) ∧ CvR a.2 (m + 1) (stp L T R S s) (S + L.c s) ∧ FrP (PC m) τ a.2) := by
    intro hk1 k
    induction k with
    | zero =>
      intro fuel p τ1 hk hf hp hc f
      obtain ⟨fuel, rfl⟩ : ∃ f, fuel = f + 1 := ⟨fuel - 1, by omega⟩
      have ht1 := ht.frP f PC_t
      rw [f_X12_coverOn_38, ib_n (a := t) (by omega), decide_eq_true t40, grd_true, ncl (a := t) (by omega), ht1.2.2.2.1, if_pos (nI_lt (by omega) (by omega))]
      refine fin τ1 (fun p' hp' g' hg' => ?_) f
      rw [show 18 * (m + 1) + 2 * p' + g' = 18 * m + 18 + 2 * p' + g' by omega, hc p' hp' g' hg', show p = T.n + 1 by omega, cel_end hL hT hs hk1 hR p' g' hg']
    | succ k ih =>
      intro fuel p τ1 hk hf hp hc f
      obtain ⟨fuel, rfl⟩ : ∃ f, fuel = f + 1 := ⟨fuel - 1, by omega⟩
      have hn1 := hn.frP f PC_n
      have ht1 := ht.frP f PC_t
      have i1 : 18 * nI m + 2 * nI p = nI (18 * m + 2 * p) := by rw [show (18 : Int32) = nI 18 from rfl, show (2 : Int32) = nI 2 from rfl, nmul, nmul, nadd]
      have g1 : ib (18 * nI m + 2 * nI p) 234 = true := by rw [i1, ib_n (by omega)]; exact decide_eq_true (by omega)
      have g2 : ib (18 * nI m + 2 * nI p + 1) 234 = true := by rw [i1, nI_1, ib_n (by omega)]; exact decide_eq_true (by omega)
      rw [f_X12_coverOn_38, ib_n (a := t) (by omega), decide_eq_true t40, grd_true, ncl (a := t) (by omega), ht1.2.2.2.1, if_neg (nI_nlt (by omega) (by omega)), g1, g2, ib_n (a := s) (by omega), decide_eq_true (show s < 40 by omega), grd_true, grd_true, grd_true, show τ1.1 34 (nI s).toNatClampNeg = (1 : Int32) by rw [ncl (by omega), (hn1.1 s hs).1, hk1]; rfl, if_pos rfl]
      have st := m_cov_step hN hn1 ht1 hL hT hm hs hk1 hR hfl hS (by omega) (hv.frC f) hc (Q := fun a => a.1 = b2 (decide (stp L T R S s ≠ 0)) ∧ CvR a.2 (m + 1) (stp L T R S s) (S + L.c s) ∧ FrP (PC m) τ a.2) (k38 := f_X12_coverOn_38 N fuel) (fun τ' y1 y2 => ih fuel (p + 1) τ' (by omega) (by omega) (by omega) y1 (f.trans y2))
      rw [ib_n (a := s) (by omega), decide_eq_true (show s < 40 by omega)] at st
      exact st
  -- the row is emptied first
  unfold f_X12_coverOn
  have zero : ∀ (k fuel i : Nat) (τ1 : St), 18 - i = k → k < fuel → i ≤ 18 → (∀ j, j < i → τ1.1 37 (18 * m + 18 + j) = 0) → FrP (PC m) τ τ1 → ok (f_X12_coverOn_6 N fuel (nI m) (nI s) (nI t) 0 (nI i) τ1) (fun a => a.1 = b2 (decide (stp L T R S s ≠ 0)) ∧ CvR a.2 (m + 1) (stp L T R S s) (S + L.c s) ∧ FrP (PC m) τ a.2) := by
    intro k
    induction k with
    | zero =>
      intro fuel i τ1 hk hf hi hz f
      obtain ⟨fuel, rfl⟩ : ∃ f, fuel = f + 1 := ⟨fuel - 1, by omega⟩
      rw [f_X12_coverOn_6, if_pos (show (18 : Int32) ≤ nI i from nI_le (a := 18) (by omega) (by omega))]
      by_cases hk1 : L.k s = 1
      · refine loop hk1 (T.n + 1) N 0 τ1 (by omega) (by omega) (by omega) (fun p' hp' g' hg' => ?_) f
        rw [Nat.add_assoc (18 * m + 18), hz _ (by omega)]
        unfold cel
        rw [if_neg]
        · rfl
        · intro q
          obtain ⟨_, a | a⟩ := of_decide_eq_true q
          · omega
          · omega
      · have hn1 := hn.frP f PC_n
        have ht1 := ht.frP f PC_t
        have hk3 := (hL.2.1 s hs).2.2.1
        have hc0 := (hL.2.1 s hs).2.2.2.2.1 hk1
        have hst0 : stp L T R S s = 0 := by
          rw [stp_0]
          intro e he
          unfold stB
          rw [decide_eq_false]
          rintro ⟨_, a | a⟩
          · exact hk1 (of_decide_eq_true a.2.2).1
          · have := (of_decide_eq_true a.2.2.2.2).1; omega
        obtain ⟨N', hN'⟩ : ∃ f, N = f + 1 := ⟨N - 1, by omega⟩
        have e38 : f_X12_coverOn_38 N N (nI m) (nI s) (nI t) 0 0 τ1 = f_X12_coverOn_255 N N (nI m) 0 0 τ1 := by
          conv => lhs; arg 2; rw [hN']
          rw [f_X12_coverOn_38, ib_n (a := t) (by omega), decide_eq_true t40, grd_true, ncl (a := t) (by omega), ht1.2.2.2.1, if_neg (nI_pos (by omega)), ib_n (a := s) (by omega), decide_eq_true (show s < 40 by omega), grd_true, ncl (a := s) (by omega), (hn1.1 s hs).1, if_neg (show ¬ nI (L.k s) = (1 : Int32) from fun q => hk1 ((neq (b := 1) (by omega) (by omega)).mp q))]
        rw [e38]
        refine fin τ1 (fun p' hp' g' hg' => ?_) f
        rw [show 18 * (m + 1) + 2 * p' + g' = 18 * m + 18 + (2 * p' + g') by omega, hz _ (by omega), hst0]
        unfold cvm
        rw [if_neg]
        · rfl
        · rintro ⟨⟨_, _, a⟩, _⟩
          rw [Nat.zero_testBit] at a; cases a
    | succ k ih =>
      intro fuel i τ1 hk hf hi hz f
      obtain ⟨fuel, rfl⟩ : ∃ f, fuel = f + 1 := ⟨fuel - 1, by omega⟩
      have i1 : 18 * nI m + 18 + nI i = nI (18 * m + 18 + i) := by rw [show (18 : Int32) = nI 18 from rfl, nmul, nadd, nadd]
      rw [f_X12_coverOn_6, if_neg (show ¬ (18 : Int32) ≤ nI i from nI_ge (b := 18) (by omega) (by omega)), i1, ib_n (by omega), decide_eq_true (show 18 * m + 18 + i < 234 by omega), grd_true, ncl (by omega), nI_1]
      refine ih fuel (i + 1) _ (by omega) (by omega) (by omega) (fun j hj => ?_) (f.si _ _ _ ⟨rfl, by omega, by omega⟩)
      rw [si_rd, if_pos rfl]
      by_cases ej : j = i
      · rw [if_pos (by omega)]
      · rw [if_neg (by omega)]; exact hz j (by omega)
  exact zero 18 N 0 τ rfl (by omega) (by omega) (fun j hj => by omega) (FrP.refl _ _)
