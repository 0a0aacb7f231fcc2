/-! judge -/
def lgB (q lst e : Nat) : Bool := decide (¬ (100 * nI q / nI (max q e) < nI lst))
theorem x_isLegible {σ : St} {L : Lv} (hL : LOk L) (hx : LX 1 σ L) {e : Nat} (he : e < 2147483648) : f_X6_isLegible 1 (nI e) σ = some (b2 (lgB L.sq L.lst e)) := by
  have q1 : σ.1 (8 * 1 + 8 - 6) 1 = nI L.sq := hx.2.2.2.1
  have l1 : σ.1 (8 * 1 + 8 - 6) 2 = nI L.lst := hx.2.2.2.2.1
  unfold f_X6_isLegible lgB
  rw [x_shrunk q1 hL.2.2.2.1 he, bo_some, show ib 2 4 = true from rfl, grd_true, l1]
  by_cases h : 100 * nI L.sq / nI (max L.sq e) < nI L.lst
  · rw [if_pos h, decide_eq_false (fun q => q h)]; rfl
  · rw [if_neg h, decide_eq_true h]; rfl
theorem x_endsFromAny {N r rn : Nat} (hN : 802 < N) {σ : St} {o : Nat} {L : Lv} {T : Tv} (h : SPX σ o L T) (hL : LOk L) (hT : TvOk T) {g : Nat → Nat} {len D : Nat} (hlen : len ≤ 24) (hrn : len ≤ rn) (hrn2 : rn < 1000) (hg : RowX σ r L.n len g) (hD : D < 33554432) :
    ∃ E, f_X7_endsFromAny r rn N (nI len) (nI D) σ = some (nI E) ∧ E < 33554432 ∧ ∀ j, E.testBit j = true ↔ ∃ i, i < len ∧ D.testBit i = true ∧ i < j ∧ j ≤ len ∧ spB L T g i j = true := by
  unfold f_X7_endsFromAny
  have key : ∀ (k fuel i E : Nat), len - i = k → k < fuel → i ≤ len → E < 33554432 → (∀ j, E.testBit j = true ↔ ∃ i', i' < i ∧ D.testBit i' = true ∧ i' < j ∧ j ≤ len ∧ spB L T g i' j = true) → ∃ E', f_X7_endsFromAny_6 r rn N fuel (nI len) (nI D) (nI E) (nI i) σ = some (nI E') ∧ E' < 33554432 ∧ ∀ j, E'.testBit j = true ↔ ∃ i, i < len ∧ D.testBit i = true ∧ i < j ∧ j ≤ len ∧ spB L T g i j = true := by
    intro k
    induction k with
    | zero =>
      intro fuel i E hk hf hi hE hb
      obtain ⟨fuel, rfl⟩ : ∃ f, fuel = f + 1 := ⟨fuel - 1, by omega⟩
      rw [f_X7_endsFromAny_6, if_pos (nI_le (by omega) (by omega))]
      have : i = len := by omega
      subst this
      exact ⟨E, rfl, hE, hb⟩
    | succ k ih =>
      intro fuel i E hk hf hi hE hb
      obtain ⟨fuel, rfl⟩ : ∃ f, fuel = f + 1 := ⟨fuel - 1, by omega⟩
      rw [f_X7_endsFromAny_6, if_neg (nI_ge (by omega) (by omega)), show (1 : Int32) = nI 1 from rfl, nbit (by omega) (by omega), nadd]
      by_cases hbit : D.testBit i = true
      · obtain ⟨C, e1, hC, hcb⟩ := x_endsFrom hN h hL hT hlen hrn hrn2 hg (a := i) (by omega)
        rw [if_pos hbit, if_pos rfl, e1, bo_some, nor]
        refine ih fuel (i + 1) _ (by omega) (by omega) (by omega) (Nat.or_lt_two_pow (n := 25) hE hC) (fun j => ?_)
        rw [Nat.testBit_or, Bool.or_eq_true, hb j, hcb j]
        constructor
        · rintro (⟨i', q1, q2⟩ | q)
          · exact ⟨i', by omega, q2⟩
          · exact ⟨i, by omega, hbit, q⟩
        · rintro ⟨i', q1, q2, q3⟩
          by_cases ei : i' = i
          · subst ei; exact Or.inr q3
          · exact Or.inl ⟨i', by omega, q2, q3⟩
      · rw [if_neg hbit, if_neg (show ¬ nI 0 = nI 1 by decide)]
        refine ih fuel (i + 1) E (by omega) (by omega) (by omega) hE (fun j => ?_)
        rw [hb j]
        constructor
        · rintro ⟨i', q1, q2⟩; exact ⟨i', by omega, q2⟩
        · rintro ⟨i', q1, q2, q3⟩
          refine ⟨i', ?_, q2, q3⟩
          by_cases ei : i' = i
          · subst ei; exact absurd q2 hbit
          · omega
  exact key len N 0 0 rfl (by omega) (by omega) (by omega) (fun j => by
    rw [Nat.zero_testBit]
    exact ⟨fun q => absurd q (by decide), fun ⟨i, q, _⟩ => by omega⟩)
theorem bits25 {A B : Nat} (h : ∀ j, A.testBit j = true ↔ B.testBit j = true) : A = B := Nat.eq_of_testBit_eq (fun j => Bool.eq_iff_iff.mpr (h j))
theorem P37_of {a j : Nat} (h : P37 a j) : ([37] : List Nat).contains a = true := by rw [show a = 37 from h]; rfl
theorem m_reach {N : Nat} (hN : 802 < N) {L : Lv} {T : Tv} {t : Nat} (hL : LOk L) (hT : TvOk T) {g : Nat → Nat} {len D ti : Nat} (hlen : len ≤ 24) (hD : D < 33554432) (hti : ti < 12) {τ0 : St} (hn : NM τ0 L) (ht : TMt τ0 t T) (h36 : τ0.1 1036 0 = nI len) (h57 : τ0.1 57 ti = nI t) (hg : ∀ i, i < len → g i < L.n ∧ τ0.1 23 i = nI (g i)) {k56 : Int32 → Int32 → St → Option (Int32 × St)} {Q : Int32 × St → Prop}
    (kk : ∀ E τ', E < 33554432 → (∀ j, E.testBit j = true ↔ ∃ i, i < len ∧ D.testBit i = true ∧ i < j ∧ j ≤ len ∧ spB L T g i j = true) → FrP P37 τ0 τ' → ok (if nI E = 0 then some (2000 + nI ti, τ') else k56 (nI E) (nI ti + 1) τ') Q) :
    ok (f_X12_judge_69 N k56 N (nI D) (nI ti) 0 0 τ0) Q := by
  -- one beginning, all ends
  have inner : ∀ (i : Nat), i < len → D.testBit i = true → ∀ (k69 : Int32 → Int32 → Int32 → Int32 → St → Option (Int32 × St)) (A0 : Nat), A0 < 33554432 → (∀ A' τ', A' < 33554432 → (∀ j, A'.testBit j = true ↔ (A0.testBit j = true ∨ (i < j ∧ j ≤ len ∧ spB L T g i j = true))) → FrP P37 τ0 τ' → ok (k69 (nI D) (nI ti) (nI A') (nI (i + 1)) τ') Q) → ∀ (k fuel j A : Nat) (τ : St), len + 1 - j = k → k < fuel → i < j → j ≤ len + 1 → A < 33554432 → (∀ l, A.testBit l = true ↔ (A0.testBit l = true ∨ (i < l ∧ l < j ∧ l ≤ len ∧ spB L T g i l = true))) → FrP P37 τ0 τ → ok (f_X12_judge_84 N k56 k69 fuel (nI D) (nI ti) (nI A) (nI i) (nI j) τ) Q := by
    intro i hi hbit k69 A0 hA0 kk69 k
    induction k with
    | zero =>
      intro fuel j A τ hk hf hij hj hA hb f
      obtain ⟨fuel, rfl⟩ : ∃ f, fuel = f + 1 := ⟨fuel - 1, by omega⟩
      rw [f_X12_judge_84, (f 1036 0 (by unfold P37; omega)).1, h36, if_pos (nI_lt (by omega) (by omega)), nI_1]
      refine kk69 A τ hA (fun l => ?_) f
      rw [hb l]
      constructor
      · rintro (q | q)
        · exact Or.inl q
        · exact Or.inr ⟨q.1, q.2.2.1, q.2.2.2⟩
      · rintro (q | q)
        · exact Or.inl q
        · exact Or.inr ⟨q.1, by omega, q.2.1, q.2.2⟩
    | succ k ih =>
      intro fuel j A τ hk hf hij hj hA hb f
      obtain ⟨fuel, rfl⟩ : ∃ f, fuel = f + 1 := ⟨fuel - 1, by omega⟩
      rw [f_X12_judge_84, (f 1036 0 (by unfold P37; omega)).1, h36, if_neg (nI_nlt (by omega) (by omega)), show (1 : Int32) = nI 1 from rfl, nsbit (by omega) (by omega), if_pos hbit, if_pos rfl, ib_n (a := ti) (by omega), decide_eq_true hti, grd_true, ncl (a := ti) (by omega), (f 57 ti (by unfold P37; omega)).1, h57]
      refine ok_bd_of (m_isSpelling (r := 23) (rn := 24) hN (by omega) hL hT (g := g) hij (by omega) (by omega) (hn.frP f P37_n) (ht.frP f P37_t) (fun l _ hl => ⟨(hg l (by omega)).1, by rw [(f 23 l (by unfold P37; omega)).1]; exact (hg l (by omega)).2⟩)) (fun r1 τ1 h1 => ?_)
      have hr1 : r1 = b2 (spB L T g i j) := h1.1
      have f1 : FrP P37 τ0 τ1 := f.trans h1.2
      rw [nadd]
      cases hs : spB L T g i j with
      | false =>
        rw [hr1, hs, if_pos ((b2_0 false).mpr rfl)]
        refine ih fuel (j + 1) A τ1 (by omega) (by omega) (by omega) (by omega) hA (fun l => ?_) f1
        rw [hb l]
        constructor
        · rintro (q | q)
          · exact Or.inl q
          · exact Or.inr ⟨q.1, by omega, q.2.2⟩
        · rintro (q | q)
          · exact Or.inl q
          · refine Or.inr ⟨q.1, ?_, q.2.2⟩
            by_cases el : l = j
            · subst el; rw [hs] at q; exact absurd q.2.2.2 (by decide)
            · omega
      | true =>
        rw [hr1, hs, if_neg (show ¬ b2 true = 0 by decide), nshl 1 (by omega), nor, Nat.one_shiftLeft]
        refine ih fuel (j + 1) _ τ1 (by omega) (by omega) (by omega) (by omega) (orL_lt hA (by omega)) (fun l => ?_) f1
        rw [or_bit, hb l]
        constructor
        · rintro ((q | q) | q)
          · exact Or.inl q
          · exact Or.inr ⟨q.1, by omega, q.2.2⟩
          · subst q; exact Or.inr ⟨hij, by omega, by omega, hs⟩
        · rintro (q | q)
          · exact Or.inl (Or.inl q)
          · by_cases el : l = j
            · exact Or.inr el
            · exact Or.inl (Or.inr ⟨q.1, by omega, q.2.2⟩)
  have outer : ∀ (k fuel i A : Nat) (τ : St), len - i = k → k < fuel → i ≤ len → A < 33554432 → (∀ j, A.testBit j = true ↔ ∃ i', i' < i ∧ D.testBit i' = true ∧ i' < j ∧ j ≤ len ∧ spB L T g i' j = true) → FrP P37 τ0 τ → ok (f_X12_judge_69 N k56 fuel (nI D) (nI ti) (nI A) (nI i) τ) Q := by
    intro k
    induction k with
    | zero =>
      intro fuel i A τ hk hf hi hA hb f
      obtain ⟨fuel, rfl⟩ : ∃ f, fuel = f + 1 := ⟨fuel - 1, by omega⟩
      rw [f_X12_judge_69, (f 1036 0 (by unfold P37; omega)).1, h36, if_pos (nI_le (by omega) (by omega))]
      have : i = len := by omega
      subst this
      exact kk A τ hA hb f
    | succ k ih =>
      intro fuel i A τ hk hf hi hA hb f
      obtain ⟨fuel, rfl⟩ : ∃ f, fuel = f + 1 := ⟨fuel - 1, by omega⟩
      rw [f_X12_judge_69, (f 1036 0 (by unfold P37; omega)).1, h36, if_neg (nI_ge (by omega) (by omega)), nI_1]
      by_cases hbit : D.testBit i = true
      · refine inner i (by omega) hbit _ A hA (fun A' τ' y1 y2 y3 => ih fuel (i + 1) A' τ' (by omega) (by omega) (by omega) y1 (fun j => ?_) y3) (len - i) N (i + 1) A τ (by omega) (by omega) (by omega) (by omega) hA (fun l => ?_) f
        · rw [y2 j, hb j]
          constructor
          · rintro (⟨i', q1, q2⟩ | q)
            · exact ⟨i', by omega, q2⟩
            · exact ⟨i, by omega, hbit, q⟩
          · rintro ⟨i', q1, q2, q3⟩
            by_cases ei : i' = i
            · subst ei; exact Or.inr q3
            · exact Or.inl ⟨i', by omega, q2, q3⟩
        · constructor
          · intro q; exact Or.inl q
          · rintro (q | q)
            · exact q
            · omega
      · obtain ⟨N', hN'⟩ : ∃ f, N = f + 1 := ⟨N - 1, by omega⟩
        have e84 : f_X12_judge_84 N k56 (f_X12_judge_69 N k56 fuel) N (nI D) (nI ti) (nI A) (nI i) (nI (i + 1)) τ = f_X12_judge_69 N k56 fuel (nI D) (nI ti) (nI A) (nI i + 1) τ := by
          conv => lhs; arg 4; rw [hN']
          rw [f_X12_judge_84]
          by_cases hq : τ.1 1036 0 < nI (i + 1)
          · rw [if_pos hq]
          · rw [if_neg hq, show (1 : Int32) = nI 1 from rfl, nsbit (by omega) (by omega), if_neg hbit, if_neg (show ¬ nI 0 = nI 1 by decide)]
        rw [e84, nI_1]
        refine ih fuel (i + 1) A τ (by omega) (by omega) (by omega) hA (fun j => ?_) f
        rw [hb j]
        constructor
        · rintro ⟨i', q1, q2⟩; exact ⟨i', by omega, q2⟩
        · rintro ⟨i', q1, q2, q3⟩
          refine ⟨i', ?_, q2, q3⟩
          by_cases ei : i' = i
          · subst ei; exact absurd q2 hbit
          · omega
  exact outer len N 0 0 τ0 rfl (by omega) (by omega) (by omega) (fun j => by
    rw [Nat.zero_testBit]
    exact ⟨fun q => absurd q (by decide), fun ⟨i, q, _⟩ => by omega⟩) (FrP.refl _ _)
