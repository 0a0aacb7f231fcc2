/-! read: the reference's ways back -/
theorem m_dl363 {N : Nat} {S : Nat → Nat → Nat → Bool} {nt n many k t i R D : Nat} (h40 : nt ≤ 40) (hn24 : n ≤ 24) (hk : k < 24) (ht : t < nt) (hi : i < n) (hR : R < 33554432) (hD : D < 33554432) {τ : St} (sp : SpS τ S nt n) (h69 : τ.1 1069 0 = nI n) (h51 : τ.1 51 k = nI R) (h52 : τ.1 51 (k + 1) = nI D) (h48 : τ.1 48 k = nI t) {k339 : Int32 → Int32 → St → Option (Int32 × St)} {k348 : Int32 → Int32 → Int32 → Int32 → St → Option (Int32 × St)} :
    ∀ (c fuel j A : Nat), n + 1 - j = c → c < fuel → i < j → j ≤ n + 1 → A < 33554432 →
    ∃ A', f_X12_read_363 N k339 k348 fuel (nI many) (nI k) (nI A) (nI i) (nI j) τ = k348 (nI many) (nI k) (nI A') (nI (i + 1)) τ ∧ A' < 33554432 ∧ (∀ q, A'.testBit q = true ↔ (A.testBit q = true ∨ (q = i ∧ R.testBit i = true ∧ ∃ p, j ≤ p ∧ p ≤ n ∧ D.testBit p = true ∧ S t i p = true))) := by
  intro c
  induction c with
  | zero =>
    intro fuel j A hc hf hj hjn hA
    obtain ⟨fuel, rfl⟩ : ∃ f, fuel = f + 1 := ⟨fuel - 1, by omega⟩
    refine ⟨A, ?_, hA, fun q => ⟨Or.inl, fun h => h.elim id (fun ⟨_, _, p, h1, h2, _⟩ => absurd h2 (by omega))⟩⟩
    rw [f_X12_read_363, h69, if_pos (nI_lt (by omega) (by omega)), nI_1]
  | succ c ih =>
    intro fuel j A hc hf hj hjn hA
    obtain ⟨fuel, rfl⟩ : ∃ f, fuel = f + 1 := ⟨fuel - 1, by omega⟩
    have hj2 : j ≤ n := by omega
    have bi : (nI R >>> (nI i &&& 31)) &&& 1 = nI (if R.testBit i then 1 else 0) := nsbit (by omega) (by omega)
    have bj : (nI D >>> (nI j &&& 31)) &&& 1 = nI (if D.testBit j then 1 else 0) := nsbit (by omega) (by omega)
    rw [f_X12_read_363, h69, if_neg (nI_nlt hj2 (by omega)), nI_1 i, nI_1 j, nI_1 k, ib_n (a := k) (by omega), decide_eq_true (show k < 25 by omega), ncl (a := k) (by omega), ib_n (a := k + 1) (by omega), decide_eq_true (show k + 1 < 25 by omega), ncl (a := k + 1) (by omega), ib_n (a := k) (by omega), decide_eq_true hk, h51, h52, h48, bi, bj, ix50 (by omega), ib_n (by omega), decide_eq_true (show 576 * t + 24 * i + j - 1 < 23040 by omega), ncl (by omega), sp t i j ht hi hj hj2]
    simp only [grd_true]
    by_cases hr : R.testBit i = true
    · rw [if_pos hr, if_pos (show nI 1 = (1 : Int32) from rfl)]
      have skip : (D.testBit j = true → S t i j = true → False) → ∃ A', f_X12_read_363 N k339 k348 fuel (nI many) (nI k) (nI A) (nI i) (nI (j + 1)) τ = k348 (nI many) (nI k) (nI A') (nI (i + 1)) τ ∧ A' < 33554432 ∧ (∀ q, A'.testBit q = true ↔ (A.testBit q = true ∨ (q = i ∧ R.testBit i = true ∧ ∃ p, j ≤ p ∧ p ≤ n ∧ D.testBit p = true ∧ S t i p = true))) := fun hno => by
        obtain ⟨A', e1, e2, e3⟩ := ih fuel (j + 1) A (by omega) (by omega) (by omega) (by omega) hA
        refine ⟨A', e1, e2, fun q => ?_⟩
        rw [e3]
        refine ⟨fun h => h.elim Or.inl (fun ⟨h1, h2, p, h3, h4⟩ => Or.inr ⟨h1, h2, p, by omega, h4⟩), fun h => h.elim Or.inl (fun ⟨h1, h2, p, h3, h4, h5, h6⟩ => ?_)⟩
        by_cases e : p = j
        · rw [e] at h5 h6; exact (hno h5 h6).elim
        · exact Or.inr ⟨h1, h2, p, by omega, h4, h5, h6⟩
      by_cases hd : D.testBit j = true
      · rw [if_pos hd, if_pos (show nI 1 = (1 : Int32) from rfl)]
        cases hs : S t i j with
        | false =>
          rw [if_pos (show b2 false = 0 from rfl)]
          exact skip (fun _ h => by rw [hs] at h; cases h)
        | true =>
          clear skip
          rw [if_neg (show ¬ b2 true = 0 by decide), show (1 : Int32) = nI 1 from rfl, nshl 1 (by omega), nor, Nat.one_shiftLeft]
          obtain ⟨A', e1, e2, e3⟩ := ih fuel (j + 1) (A ||| 2 ^ i) (by omega) (by omega) (by omega) (by omega) (orL_lt hA (by omega))
          refine ⟨A', e1, e2, fun q => ?_⟩
          rw [e3, or_bit]
          constructor
          · rintro ((h | h) | ⟨h1, h2, p, h3, h4⟩)
            · exact Or.inl h
            · exact Or.inr ⟨h, hr, j, Nat.le_refl _, hj2, hd, hs⟩
            · exact Or.inr ⟨h1, h2, p, by omega, h4⟩
          · rintro (h | ⟨h1, h2, h3⟩)
            · exact Or.inl (Or.inl h)
            · exact Or.inl (Or.inr h1)
      · rw [if_neg hd, if_neg (show ¬ nI 0 = (1 : Int32) by decide)]
        exact skip (fun h _ => hd h)
    · rw [if_neg hr, if_neg (show ¬ nI 0 = (1 : Int32) by decide)]
      exact ⟨A, rfl, hA, fun q => ⟨Or.inl, fun h => h.elim id (fun h => absurd h.2.1 hr)⟩⟩
theorem m_dl348 {N : Nat} (hN : 802 < N) {S : Nat → Nat → Nat → Bool} {nt n many k t R D : Nat} (h40 : nt ≤ 40) (hn24 : n ≤ 24) (hk : k < 24) (ht : t < nt) (hR : R < 33554432) (hD : D < 33554432) {τ : St} (sp : SpS τ S nt n) (h69 : τ.1 1069 0 = nI n) (h51 : τ.1 51 k = nI R) (h52 : τ.1 51 (k + 1) = nI D) (h48 : τ.1 48 k = nI t) {k339 : Int32 → Int32 → St → Option (Int32 × St)} :
    ∀ (c fuel i A : Nat), n - i = c → c < fuel → i ≤ n → A < 33554432 →
    ∃ A', f_X12_read_348 N k339 fuel (nI many) (nI k) (nI A) (nI i) τ = k339 (nI many) (nI k + -1) (si τ 51 k (nI A')) ∧ A' < 33554432 ∧ (∀ q, A'.testBit q = true ↔ (A.testBit q = true ∨ (i ≤ q ∧ q < n ∧ R.testBit q = true ∧ ∃ p, q < p ∧ p ≤ n ∧ D.testBit p = true ∧ S t q p = true))) := by
  intro c
  induction c with
  | zero =>
    intro fuel i A hc hf hi hA
    obtain ⟨fuel, rfl⟩ : ∃ f, fuel = f + 1 := ⟨fuel - 1, by omega⟩
    refine ⟨A, ?_, hA, fun q => ⟨Or.inl, fun h => h.elim id (fun h => absurd h.2.1 (by omega))⟩⟩
    rw [f_X12_read_348, h69, if_pos (nI_le (by omega) (by omega)), ib_n (a := k) (by omega), decide_eq_true (show k < 25 by omega), grd_true, ncl (a := k) (by omega)]
  | succ c ih =>
    intro fuel i A hc hf hi hA
    obtain ⟨fuel, rfl⟩ : ∃ f, fuel = f + 1 := ⟨fuel - 1, by omega⟩
    obtain ⟨A1, a1, a2, a3⟩ := m_dl363 (N := N) (many := many) (k := k) h40 hn24 hk ht (show i < n by omega) hR hD sp h69 h51 h52 h48 (k339 := k339) (k348 := f_X12_read_348 N k339 fuel) (n - i) N (i + 1) A (by omega) (by omega) (by omega) (by omega) hA
    rw [f_X12_read_348, h69, if_neg (nI_ge (by omega) (by omega)), nI_1 i, a1]
    obtain ⟨A', e1, e2, e3⟩ := ih fuel (i + 1) A1 (by omega) (by omega) (by omega) a2
    refine ⟨A', e1, e2, fun q => ?_⟩
    rw [e3, a3]
    constructor
    · rintro ((h | ⟨h1, h2, p, h3, h4⟩) | h)
      · exact Or.inl h
      · rw [← h1] at h2 h4
        exact Or.inr ⟨by omega, by omega, h2, p, by omega, h4⟩
      · exact Or.inr ⟨by omega, h.2⟩
    · rintro (h | ⟨h1, h2, h3, p, h4, h5⟩)
      · exact Or.inl (Or.inl h)
      · by_cases e : q = i
        · rw [e] at h3 h4 h5
          exact Or.inl (Or.inr ⟨e, h3, p, by omega, h5⟩)
        · exact Or.inr ⟨by omega, h2, h3, p, h4, h5⟩
def DrT (S : Nat → Nat → Nat → Bool) (n many : Nat) (R u D : Nat → Nat) (m : Nat) : Prop := D many = R many ∧ (∀ k, m ≤ k → k ≤ many → D k < 33554432) ∧ ∀ k, m ≤ k → k < many → ∀ i, (D k).testBit i = true ↔ (i < n ∧ (R k).testBit i = true ∧ ∃ j, i < j ∧ j ≤ n ∧ (D (k + 1)).testBit j = true ∧ S (u k) i j = true)
theorem m_dl339 {N : Nat} (hN : 802 < N) {S : Nat → Nat → Nat → Bool} {nt n many : Nat} {R u : Nat → Nat} (h40 : nt ≤ 40) (hn24 : n ≤ 24) (hm : many ≤ 24) (hu : ∀ k, k < many → u k < nt) (hR : ∀ k, k ≤ many → R k < 33554432) {τ0 : St} (sp : SpS τ0 S nt n) (h69 : τ0.1 1069 0 = nI n) (h48 : ∀ k, k < many → τ0.1 48 k = nI (u k)) :
    ∀ (m fuel : Nat) (τ : St) (D : Nat → Nat), m ≤ many → m < fuel → Fr [51] τ0 τ → (∀ k, k < m → τ.1 51 k = nI (R k)) → (∀ k, m ≤ k → k ≤ many → τ.1 51 k = nI (D k)) → DrT S n many R u D m →
    ∃ τ' D', f_X12_read_339 N fuel (nI many) (nI m + -1) τ = f_X12_read_469 N N (nI many) 0 0 τ' ∧ Fr [51] τ0 τ' ∧ (∀ k, k ≤ many → τ'.1 51 k = nI (D' k)) ∧ DrT S n many R u D' 0 := by
  intro m
  induction m with
  | zero =>
    intro fuel τ D hm2 hf g hr h51 dr
    obtain ⟨fuel, rfl⟩ : ∃ f, fuel = f + 1 := ⟨fuel - 1, by omega⟩
    refine ⟨τ, D, ?_, g, fun k hk => h51 k (by omega) hk, dr⟩
    rw [f_X12_read_339, if_pos (show nI 0 + -1 < (0 : Int32) by decide)]
  | succ m ih =>
    intro fuel τ D hm2 hf g hr h51 dr
    obtain ⟨fuel, rfl⟩ : ∃ f, fuel = f + 1 := ⟨fuel - 1, by omega⟩
    obtain ⟨l1, l2, l3⟩ := dr
    obtain ⟨A, e1, e2, e3⟩ := m_dl348 (N := N) hN (many := many) (k := m) (S := S) (nt := nt) (t := u m) (R := R m) (D := D (m + 1)) h40 hn24 (by omega) (hu m (by omega)) (hR m (by omega)) (l2 (m + 1) (by omega) (by omega)) (τ := τ) (fun t i j h1 h2 h3 h4 => by rw [g.i 50 rfl]; exact sp t i j h1 h2 h3 h4) (by rw [g.i 1069 rfl]; exact h69) (hr m (by omega)) (h51 (m + 1) (by omega) (by omega)) (by rw [g.i 48 rfl]; exact h48 m (by omega)) (k339 := f_X12_read_339 N fuel) n N 0 0 rfl (by omega) (by omega) (by omega)
    have e1' : f_X12_read_348 N (f_X12_read_339 N fuel) N (nI many) (nI m) 0 0 τ = f_X12_read_339 N fuel (nI many) (nI m + -1) (si τ 51 m (nI A)) := e1
    rw [nI_back, f_X12_read_339, if_neg (show ¬ nI m < (0 : Int32) from nI_nlt (b := 0) (by omega) (by omega)), e1']
    refine ih fuel (si τ 51 m (nI A)) (up D m A) (by omega) (by omega) (g.si _ _ _ rfl) (fun k hk => ?_) (fun k h1 h2 => ?_) ⟨by rw [up_ne _ _ (by omega)]; exact l1, fun k h1 h2 => ?_, fun k h1 h2 i => ?_⟩
    · rw [si_rd, if_pos rfl, if_neg (by omega)]; exact hr k (by omega)
    · rw [si_rd, if_pos rfl]
      by_cases e : k = m
      · rw [if_pos e, e, up_is]
      · rw [if_neg e, up_ne _ _ e]; exact h51 k (by omega) h2
    · by_cases e : k = m
      · rw [e, up_is]; exact e2
      · rw [up_ne _ _ e]; exact l2 k (by omega) h2
    · rw [up_ne (i := k + 1) _ _ (by omega)]
      by_cases e : k = m
      · rw [e, up_is, e3, Nat.zero_testBit]
        exact ⟨fun h => h.elim (fun h => absurd h (by decide)) (fun h => h.2), fun h => Or.inr ⟨Nat.zero_le _, h⟩⟩
      · rw [up_ne _ _ e]; exact l3 k (by omega) h2 i
