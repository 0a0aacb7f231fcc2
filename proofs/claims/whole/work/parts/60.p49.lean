/-! read: the TERMS, one place -/
abbrev P51 (k : Nat) : Nat → Nat → Prop := fun a q => a = 51 ∧ q = k + 1
theorem gw_eq {v d : Nat} (hd : d ≤ 24) : gw v = d ↔ v = d := by
  unfold gw
  by_cases e : v = 1000
  · rw [if_pos e]; omega
  · rw [if_neg e]
theorem gw_lt2 {v n j : Nat} (h : v = 1000 ∨ v + j ≤ n) (hn : n ≤ 24) : gw v ≤ 1000000000 := gw_lt (by omega)
theorem m_ct241 {N : Nat} {S : Nat → Nat → Nat → Bool} {nt n many k t i : Nat} {F : Nat → Nat} (h40 : nt ≤ 40) (hn24 : n ≤ 24) (hi : i < n) (ht : t < nt) (hm : many ≤ 24) (hk : k < many) (hF : ∀ j, j ≤ n → F j = 1000 ∨ F j + j ≤ n) {k171 : Int32 → Int32 → St → Option (Int32 × St)} {k187 : Int32 → Int32 → Int32 → St → Option (Int32 × St)} {k209 : Int32 → Int32 → Int32 → Int32 → St → Option (Int32 × St)} :
    ∀ (c fuel j A : Nat) (τ : St), n + 1 - j = c → c < fuel → i < j → j ≤ n + 1 → SpS τ S nt n → τ.1 1069 0 = nI n → (∀ q, q ≤ n → τ.1 47 q = nI (gw (F q))) → τ.1 51 (k + 1) = nI A → A < 33554432 →
    ∃ τ' A', f_X12_read_241 N k171 k187 k209 fuel (nI many) (nI k) (nI t) (nI i) (nI j) τ = k209 (nI many) (nI k) (nI t) (nI (i + 1)) τ' ∧ τ'.1 51 (k + 1) = nI A' ∧ A' < 33554432 ∧ (∀ q, A'.testBit q = true ↔ (A.testBit q = true ∨ (j ≤ q ∧ q ≤ n ∧ S t i q = true ∧ F q = many - k - 1))) ∧ FrP (P51 k) τ τ' := by
  intro c
  induction c with
  | zero =>
    intro fuel j A τ hc hf hj hjn sp h69 c47 c51 hA
    obtain ⟨fuel, rfl⟩ : ∃ f, fuel = f + 1 := ⟨fuel - 1, by omega⟩
    refine ⟨τ, A, ?_, c51, hA, fun q => ⟨Or.inl, fun h => h.elim id (fun h => absurd h.1 (by omega))⟩, FrP.refl _ _⟩
    rw [f_X12_read_241, h69, if_pos (nI_lt (by omega) (by omega)), nI_1]
  | succ c ih =>
    intro fuel j A τ hc hf hj hjn sp h69 c47 c51 hA
    obtain ⟨fuel, rfl⟩ : ∃ f, fuel = f + 1 := ⟨fuel - 1, by omega⟩
    have hj2 : j ≤ n := by omega
    have hg := gw_lt2 (hF j hj2) hn24
    have em : nI many - nI k - 1 = nI (many - k - 1) := by rw [show (1 : Int32) = nI 1 from rfl, nsub (by omega), nsub (by omega)]
    rw [f_X12_read_241, h69, if_neg (nI_nlt hj2 (by omega)), ix50 (by omega), ib_n (by omega), decide_eq_true (show 576 * t + 24 * i + j - 1 < 23040 by omega), grd_true, ncl (by omega), sp t i j ht hi hj hj2, em, nI_1 j, nI_1 k]
    have skip : (¬ (S t i j = true ∧ F j = many - k - 1)) → ∃ τ' A', f_X12_read_241 N k171 k187 k209 fuel (nI many) (nI k) (nI t) (nI i) (nI (j + 1)) τ = k209 (nI many) (nI k) (nI t) (nI (i + 1)) τ' ∧ τ'.1 51 (k + 1) = nI A' ∧ A' < 33554432 ∧ (∀ q, A'.testBit q = true ↔ (A.testBit q = true ∨ (j ≤ q ∧ q ≤ n ∧ S t i q = true ∧ F q = many - k - 1))) ∧ FrP (P51 k) τ τ' := fun hno => by
      obtain ⟨τ', A', e1, e2, e3, e4, e5⟩ := ih fuel (j + 1) A τ (by omega) (by omega) (by omega) (by omega) sp h69 c47 c51 hA
      refine ⟨τ', A', e1, e2, e3, fun q => ?_, e5⟩
      rw [e4]
      refine ⟨fun h => h.elim Or.inl (fun h => Or.inr ⟨by omega, h.2⟩), fun h => h.elim Or.inl (fun h => ?_)⟩
      by_cases e : q = j
      · rw [e] at h; exact absurd h.2.2 hno
      · exact Or.inr ⟨by omega, h.2⟩
    cases hs : S t i j with
    | false =>
      rw [if_pos (show b2 false = 0 from rfl)]
      exact skip (fun h => by rw [hs] at h; exact absurd h.1 (by decide))
    | true =>
      rw [if_neg (show ¬ b2 true = 0 by decide), ib_n (a := j) (by omega), decide_eq_true (show j < 25 by omega), grd_true, ncl (a := j) (by omega), c47 j hj2]
      by_cases hd : F j = many - k - 1
      · rw [if_pos (by rw [(gw_eq (by omega)).mpr hd]), ib_n (a := k + 1) (by omega), decide_eq_true (show k + 1 < 25 by omega), ncl (a := k + 1) (by omega), c51, show (1 : Int32) = nI 1 from rfl, nshl 1 (by omega), nor, Nat.one_shiftLeft]
        simp only [grd_true]
        clear skip
        have f1 : FrP (P51 k) τ (si τ 51 (k + 1) (nI (A ||| 2 ^ j))) := (FrP.refl _ _).si _ _ _ ⟨rfl, rfl⟩
        obtain ⟨τ', A', e1, e2, e3, e4, e5⟩ := ih fuel (j + 1) (A ||| 2 ^ j) (si τ 51 (k + 1) (nI (A ||| 2 ^ j))) (by omega) (by omega) (by omega) (by omega) (fun t i j h1 h2 h3 h4 => by rw [(f1 50 _ (fun h => absurd h.1 (by decide))).1]; exact sp t i j h1 h2 h3 h4) (by rw [(f1 1069 0 (fun h => absurd h.1 (by decide))).1]; exact h69) (fun q hq => by rw [(f1 47 q (fun h => absurd h.1 (by decide))).1]; exact c47 q hq) (by rw [si_rd, if_pos rfl, if_pos rfl]) (orL_lt hA (by omega))
        refine ⟨τ', A', e1, e2, e3, fun q => ?_, f1.trans e5⟩
        rw [e4, or_bit]
        constructor
        · rintro ((h | h) | h)
          · exact Or.inl h
          · exact Or.inr ⟨by omega, by omega, by rw [h]; exact hs, by rw [h]; exact hd⟩
          · exact Or.inr ⟨by omega, h.2⟩
        · rintro (h | h)
          · exact Or.inl (Or.inl h)
          · by_cases e : q = j
            · exact Or.inl (Or.inr e)
            · exact Or.inr ⟨by omega, h.2⟩
      · rw [if_neg (fun q => hd ((gw_eq (by omega)).mp ((neq (by omega) (by omega)).mp q)))]
        exact skip (fun h => hd h.2)
theorem m_ct209 {N : Nat} (hN : 802 < N) {S : Nat → Nat → Nat → Bool} {nt n many k t R : Nat} {F : Nat → Nat} (h40 : nt ≤ 40) (hn24 : n ≤ 24) (ht : t < nt) (hm : many ≤ 24) (hk : k < many) (hF : ∀ j, j ≤ n → F j = 1000 ∨ F j + j ≤ n) (hR : R < 33554432) {k171 : Int32 → Int32 → St → Option (Int32 × St)} {k187 : Int32 → Int32 → Int32 → St → Option (Int32 × St)} :
    ∀ (c fuel i A : Nat) (τ : St), n - i = c → c < fuel → i ≤ n → SpS τ S nt n → τ.1 1069 0 = nI n → (∀ q, q ≤ n → τ.1 47 q = nI (gw (F q))) → τ.1 51 k = nI R → τ.1 51 (k + 1) = nI A → A < 33554432 →
    ∃ τ' A', f_X12_read_209 N k171 k187 fuel (nI many) (nI k) (nI t) (nI i) τ = k187 (nI many) (nI k) (nI (t + 1)) (si τ' 48 k (nI t)) ∧ τ'.1 51 (k + 1) = nI A' ∧ A' < 33554432 ∧ (∀ q, A'.testBit q = true ↔ (A.testBit q = true ∨ (q ≤ n ∧ F q = many - k - 1 ∧ ∃ i', i ≤ i' ∧ i' < n ∧ R.testBit i' = true ∧ i' < q ∧ S t i' q = true))) ∧ FrP (P51 k) τ τ' := by
  intro c
  induction c with
  | zero =>
    intro fuel i A τ hc hf hi sp h69 c47 c51 c52 hA
    obtain ⟨fuel, rfl⟩ : ∃ f, fuel = f + 1 := ⟨fuel - 1, by omega⟩
    refine ⟨τ, A, ?_, c52, hA, fun q => ⟨Or.inl, fun h => h.elim id (fun ⟨_, _, i', h1, h2, _⟩ => absurd h2 (by omega))⟩, FrP.refl _ _⟩
    rw [f_X12_read_209, h69, if_pos (nI_le (by omega) (by omega)), ib_n (a := k) (by omega), decide_eq_true (show k < 24 by omega), grd_true, ncl (a := k) (by omega), nI_1]
  | succ c ih =>
    intro fuel i A τ hc hf hi sp h69 c47 c51 c52 hA
    obtain ⟨fuel, rfl⟩ : ∃ f, fuel = f + 1 := ⟨fuel - 1, by omega⟩
    have bb : (nI R >>> (nI i &&& 31)) &&& 1 = nI (if R.testBit i then 1 else 0) := nsbit (by omega) (by omega)
    rw [f_X12_read_209, h69, if_neg (nI_ge (by omega) (by omega)), ib_n (a := k) (by omega), decide_eq_true (show k < 25 by omega), grd_true, ncl (a := k) (by omega), c51, bb, nI_1 i]
    by_cases hr : R.testBit i = true
    · rw [if_pos hr, if_neg (show ¬ nI 1 = (0 : Int32) by decide)]
      obtain ⟨τ1, A1, a1, a2, a3, a4, a5⟩ := m_ct241 (N := N) (k := k) h40 hn24 (show i < n by omega) ht hm hk hF (k171 := k171) (k187 := k187) (k209 := f_X12_read_209 N k171 k187 fuel) (n - i) N (i + 1) A τ (by omega) (by omega) (by omega) (by omega) sp h69 c47 c52 hA
      rw [a1]
      obtain ⟨τ', A', e1, e2, e3, e4, e5⟩ := ih fuel (i + 1) A1 τ1 (by omega) (by omega) (by omega) (fun t i j h1 h2 h3 h4 => by rw [(a5 50 _ (fun h => absurd h.1 (by decide))).1]; exact sp t i j h1 h2 h3 h4) (by rw [(a5 1069 0 (fun h => absurd h.1 (by decide))).1]; exact h69) (fun q hq => by rw [(a5 47 q (fun h => absurd h.1 (by decide))).1]; exact c47 q hq) (by rw [(a5 51 k (fun h => absurd h.2 (by omega))).1]; exact c51) a2 a3
      refine ⟨τ', A', e1, e2, e3, fun q => ?_, a5.trans e5⟩
      rw [e4, a4]
      constructor
      · rintro ((h | ⟨h1, h2, h3, h4⟩) | ⟨h1, h2, i', h3, h4⟩)
        · exact Or.inl h
        · exact Or.inr ⟨h2, h4, i, by omega, by omega, hr, by omega, h3⟩
        · exact Or.inr ⟨h1, h2, i', by omega, h4⟩
      · rintro (h | ⟨h1, h2, i', h3, h4, h5, h6, h7⟩)
        · exact Or.inl (Or.inl h)
        · by_cases e : i' = i
          · rw [e] at h6 h7; exact Or.inl (Or.inr ⟨by omega, h1, h7, h2⟩)
          · exact Or.inr ⟨h1, h2, i', by omega, h4, h5, h6, h7⟩
    · rw [if_neg hr, if_pos (show nI 0 = (0 : Int32) from rfl)]
      obtain ⟨τ', A', e1, e2, e3, e4, e5⟩ := ih fuel (i + 1) A τ (by omega) (by omega) (by omega) sp h69 c47 c51 c52 hA
      refine ⟨τ', A', e1, e2, e3, fun q => ?_, e5⟩
      rw [e4]
      constructor
      · rintro (h | ⟨h1, h2, i', h3, h4⟩)
        · exact Or.inl h
        · exact Or.inr ⟨h1, h2, i', by omega, h4⟩
      · rintro (h | ⟨h1, h2, i', h3, h4, h5, h6, h7⟩)
        · exact Or.inl h
        · by_cases e : i' = i
          · rw [e] at h5; exact absurd h5 hr
          · exact Or.inr ⟨h1, h2, i', by omega, h4, h5, h6, h7⟩
theorem x_anyEnds {N : Nat} {S : Nat → Nat → Nat → Bool} {nt n t R : Nat} (h40 : nt ≤ 40) (hn24 : n ≤ 24) (ht : t < nt) (hR : R < 33554432) {σ : St} (en : EnT σ S n (fun t i => t < nt ∧ i < n)) (hn : σ.1 12404 0 = nI n) :
    ∀ (c fuel i A : Nat), n - i = c → c < fuel → i ≤ n → A < 33554432 → ∃ A', f_X5_endsFromAny_5 N fuel (nI t) (nI R) (nI A) (nI i) σ = some (nI A') ∧ A' < 33554432 ∧ (∀ q, A'.testBit q = true ↔ (A.testBit q = true ∨ (q ≤ n ∧ ∃ i', i ≤ i' ∧ i' < n ∧ R.testBit i' = true ∧ i' < q ∧ S t i' q = true))) := by
  intro c
  induction c with
  | zero =>
    intro fuel i A hc hf hi hA
    obtain ⟨fuel, rfl⟩ : ∃ f, fuel = f + 1 := ⟨fuel - 1, by omega⟩
    refine ⟨A, ?_, hA, fun q => ⟨Or.inl, fun h => h.elim id (fun ⟨_, i', h1, h2, _⟩ => absurd h2 (by omega))⟩⟩
    rw [f_X5_endsFromAny_5, hn, if_pos (nI_le (by omega) (by omega))]
  | succ c ih =>
    intro fuel i A hc hf hi hA
    obtain ⟨fuel, rfl⟩ : ∃ f, fuel = f + 1 := ⟨fuel - 1, by omega⟩
    obtain ⟨E, d1, d2, d3⟩ := en t i ⟨ht, by omega⟩
    have ea : nI t * 24 + nI i = nI (t * 24 + i) := by rw [show (24 : Int32) = nI 24 from rfl, nmul, nadd]
    have bb : ushr (nI R) (nI i) &&& 1 = nI (if R.testBit i then 1 else 0) := nbit (by omega) (by omega)
    rw [f_X5_endsFromAny_5, hn, if_neg (nI_ge (by omega) (by omega)), bb, nI_1 i]
    by_cases hr : R.testBit i = true
    · rw [if_pos hr, if_pos (show nI 1 = (1 : Int32) from rfl), ea, ib_n (by omega), decide_eq_true (show t * 24 + i < 960 by omega), grd_true, ncl (by omega), d1, nor]
      obtain ⟨A', e1, e2, e3⟩ := ih fuel (i + 1) (A ||| E) (by omega) (by omega) (by omega) (Nat.or_lt_two_pow (n := 25) hA d2)
      refine ⟨A', e1, e2, fun q => ?_⟩
      rw [e3, Nat.testBit_or, Bool.or_eq_true, d3]
      constructor
      · rintro ((h | ⟨h1, h2, h3⟩) | ⟨h1, i', h3, h4⟩)
        · exact Or.inl h
        · exact Or.inr ⟨h2, i, by omega, by omega, hr, h1, h3⟩
        · exact Or.inr ⟨h1, i', by omega, h4⟩
      · rintro (h | ⟨h1, i', h3, h4, h5, h6, h7⟩)
        · exact Or.inl (Or.inl h)
        · by_cases e : i' = i
          · rw [e] at h6 h7; exact Or.inl (Or.inr ⟨h6, h1, h7⟩)
          · exact Or.inr ⟨h1, i', by omega, h4, h5, h6, h7⟩
    · rw [if_neg hr, if_neg (show ¬ nI 0 = (1 : Int32) by decide)]
      obtain ⟨A', e1, e2, e3⟩ := ih fuel (i + 1) A (by omega) (by omega) (by omega) hA
      refine ⟨A', e1, e2, fun q => ?_⟩
      rw [e3]
      constructor
      · rintro (h | ⟨h1, i', h3, h4⟩)
        · exact Or.inl h
        · exact Or.inr ⟨h1, i', by omega, h4⟩
      · rintro (h | ⟨h1, i', h3, h4, h5, h6, h7⟩)
        · exact Or.inl h
        · by_cases e : i' = i
          · rw [e] at h5; exact absurd h5 hr
          · exact Or.inr ⟨h1, i', by omega, h4, h5, h6, h7⟩
