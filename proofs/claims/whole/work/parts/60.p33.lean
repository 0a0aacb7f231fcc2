def P37 (a j : Nat) : Prop := a = 37
theorem P37_n : ∀ a j, P37 a j → ([34, 35, 36, 10, 2] : List Nat).contains a = false := by
  intro a j h; rw [show a = 37 from h]; rfl
theorem P37_t : ∀ a j, P37 a j → ([30, 31, 32, 33] : List Nat).contains a = false := by
  intro a j h; rw [show a = 37 from h]; rfl
theorem stp_c {L : Lv} {T : Tv} (hL : LOk L) {R S s : Nat} (hs : s < L.n) (h : stp L T R S s ≠ 0) : 1 ≤ L.c s := by
  apply Classical.byContradiction
  intro hc
  apply h
  rw [stp_0]
  intro e he
  unfold stB
  rw [decide_eq_false]
  rintro ⟨_, a | a⟩
  · have hk := (of_decide_eq_true a.2.2).1
    have := ((hL.2.1 s hs).2.2.2.1 hk).1
    omega
  · have := (of_decide_eq_true a.2.2.2.2).1
    omega
theorem rdg_len {L : Lv} {T : Tv} (hL : LOk L) {f : Nat → Nat} : ∀ m, (∀ i, i < m → f i < L.n) → rdg L T f m ≠ 0 → m ≤ sm L f m := by
  intro m
  induction m with
  | zero => intro _ _; omega
  | succ m ih =>
    intro hf h
    have h' : stp L T (rdg L T f m) (sm L f m) (f m) ≠ 0 := h
    have h0 : rdg L T f m ≠ 0 := fun q => h' (by rw [q]; exact stp_of0 _ _ _ _)
    have a := ih (fun i hi => hf i (by omega)) h0
    have b := stp_c hL (hf m (by omega)) h'
    show m + 1 ≤ sm L f m + L.c (f m)
    omega
theorem bdB_len {L : Lv} {T : Tv} (hL : LOk L) (hT : TvOk T) {g : Nat → Nat} {a j : Nat} (hg : ∀ i, a ≤ i → i < j → g i < L.n) (h : bdB L T g a j = true) : j - a ≤ 11 := by
  obtain ⟨h1, h2 | h2 | h2⟩ := of_decide_eq_true h
  · omega
  · omega
  · unfold cvB isCov at h2
    have q := of_decide_eq_true h2
    have hne : rdg L T (fun i => g (a + i)) (j - a) ≠ 0 := fun e => by rw [e, Nat.zero_testBit] at q; cases q.2.2
    have c1 := rdg_len hL (j - a) (fun i hi => hg (a + i) (by omega) (by omega)) hne
    have c2 := rdg_sum hL hT hne
    omega
theorem m_beginCover {N : Nat} (hN : 802 < N) (τ : St) : ok (f_X12_beginCover N τ) (fun τ' => CvR τ' 0 1 0 ∧ FrP P37 τ τ') := by
  unfold f_X12_beginCover
  have key : ∀ (k fuel i : Nat) (τ1 : St), 18 - i = k → k < fuel → i ≤ 18 → (∀ j, j < i → τ1.1 37 j = 0) → FrP P37 τ τ1 → ok (f_X12_beginCover_2 N fuel (nI i) τ1) (fun τ' => CvR τ' 0 1 0 ∧ FrP P37 τ τ') := by
    intro k
    induction k with
    | zero =>
      intro fuel i τ1 hk hf hi hz f
      obtain ⟨fuel, rfl⟩ : ∃ f, fuel = f + 1 := ⟨fuel - 1, by omega⟩
      rw [f_X12_beginCover_2, if_pos (show (18 : Int32) ≤ nI i from nI_le (a := 18) (by omega) (by omega)), show ib 0 234 = true from rfl, grd_true, ok_some]
      refine ⟨fun p hp g hg => ?_, f.si _ _ _ rfl⟩
      rw [si_rd, if_pos rfl]
      unfold cvm
      by_cases h0 : 18 * 0 + 2 * p + g = 0
      · have hp0 : p = 0 := by omega
        have hg0 : g = 0 := by omega
        subst hp0; subst hg0
        rw [if_pos rfl, if_pos (by decide)]; rfl
      · rw [if_neg h0, hz _ (by omega), if_neg]
        · rfl
        · rintro ⟨⟨a, _, _⟩, b⟩
          rw [if_neg (by omega)] at b
          omega
    | succ k ih =>
      intro fuel i τ1 hk hf hi hz f
      obtain ⟨fuel, rfl⟩ : ∃ f, fuel = f + 1 := ⟨fuel - 1, by omega⟩
      rw [f_X12_beginCover_2, if_neg (show ¬ (18 : Int32) ≤ nI i from nI_ge (b := 18) (by omega) (by omega)), ib_n (by omega), decide_eq_true (show i < 234 by omega), grd_true, ncl (by omega), nI_1]
      refine ih fuel (i + 1) _ (by omega) (by omega) (by omega) (fun j hj => ?_) (f.si _ _ _ rfl)
      rw [si_rd, if_pos rfl]
      by_cases ej : j = i
      · rw [if_pos ej]
      · rw [if_neg ej]; exact hz j (by omega)
  exact key 18 N 0 τ rfl (by omega) (by omega) (fun j hj => by omega) (FrP.refl _ _)
theorem m_isCovered {τ : St} {L : Lv} {T : Tv} {t : Nat} (ht : TMt τ t T) (hL : LOk L) (hT : TvOk T) {m R S : Nat} (hm : m ≤ 12) (hR : Rok L T R S) (hv : CvR τ m R S) : f_X12_isCovered (nI m) (nI t) τ = some (b2 (isCov L T R S)) := by
  have t40 := ht.1
  have u2 := hT.2.1
  have he3 : L.ech ≤ 3 := hL.2.2.2.2.2
  unfold f_X12_isCovered
  have i1 : 18 * nI m + 2 * nI T.n = nI (18 * m + 2 * T.n) := by rw [show (18 : Int32) = nI 18 from rfl, show (2 : Int32) = nI 2 from rfl, nmul, nmul, nadd]
  rw [ib_n (a := t) (by omega), decide_eq_true t40, ncl (a := t) (by omega), ht.2.2.2.1, i1, nI_1, ib_n (by omega), decide_eq_true (show 18 * m + 2 * T.n < 234 by omega), ib_n (by omega), decide_eq_true (show 18 * m + 2 * T.n + 1 < 234 by omega), ncl (by omega), ncl (by omega)]
  simp only [grd_true]
  have v0 : τ.1 37 (18 * m + 2 * T.n) = nI (cvm R S T.n 0) := hv T.n (by omega) 0 (by omega)
  have v1 : τ.1 37 (18 * m + 2 * T.n + 1) = nI (cvm R S T.n 1) := hv T.n (by omega) 1 (by omega)
  have l0 := cvm_lt R S T.n 0
  have l1 := cvm_lt R S T.n 1
  have l2 : cvm R S T.n 0 ||| cvm R S T.n 1 < 16 := Nat.or_lt_two_pow (n := 4) l0 l1
  rw [v0, v1, nor]
  have hiff : (cvm R S T.n 0 ||| cvm R S T.n 1 = 0) ↔ ¬ (T.n ≤ S ∧ S - T.n ≤ L.ech ∧ R.testBit (S - T.n) = true) := by
    rw [Nat.or_eq_zero_iff]
    unfold cvm
    constructor
    · rintro ⟨a, b⟩ ⟨c1, c2, c3⟩
      have hp : 2 ^ (S - T.n) ≠ 0 := Nat.ne_of_gt (Nat.pow_pos (by omega))
      by_cases h16 : 16 ≤ R
      · rw [if_pos ⟨⟨c1, by omega, c3⟩, by rw [if_pos h16]⟩] at b; exact hp b
      · rw [if_pos ⟨⟨c1, by omega, c3⟩, by rw [if_neg h16]⟩] at a; exact hp a
    · intro h
      have : ¬ (T.n ≤ S ∧ S - T.n < 4 ∧ R.testBit (S - T.n) = true) := fun q => h ⟨q.1, (hR.2 _ q.2.1 q.2.2).1, q.2.2⟩
      exact ⟨if_neg (fun q => this q.1), if_neg (fun q => this q.1)⟩
  unfold isCov
  by_cases h : T.n ≤ S ∧ S - T.n ≤ L.ech ∧ R.testBit (S - T.n) = true
  · rw [if_neg (fun q => by
      have := (neq (a := cvm R S T.n 0 ||| cvm R S T.n 1) (b := 0) (by omega) (by omega)).mp q
      exact hiff.mp this h), decide_eq_true h]; rfl
  · rw [hiff.mpr h, if_pos (show nI 0 = (0 : Int32) from rfl), decide_eq_false h]; rfl
theorem m_isSp110 {N r rn : Nat} (hN : 802 < N) (hr : r ≠ 37) {L : Lv} {T : Tv} {t : Nat} (hL : LOk L) (hT : TvOk T) {g : Nat → Nat} {a n : Nat} (hn12 : n ≤ 12) (han : a + n ≤ rn) (hrn : rn < 1000) {τ0 : St} (hn : NM τ0 L) (ht : TMt τ0 t T) (hg : ∀ i, a ≤ i → i < a + n → g i < L.n ∧ τ0.1 r i = nI (g i)) : ∀ (k fuel m : Nat) (τ : St), n - m = k → k < fuel → m ≤ n → rdg L T (fun i => g (a + i)) m ≠ 0 → CvR τ m (rdg L T (fun i => g (a + i)) m) (sm L (fun i => g (a + i)) m) → FrP P37 τ0 τ →
    ok (f_X12_isSpelling_110 r rn N fuel (nI a) (nI t) (nI n) (nI m) τ) (fun x => x.1 = b2 (isCov L T (rdg L T (fun i => g (a + i)) n) (sm L (fun i => g (a + i)) n)) ∧ FrP P37 τ0 x.2) := by
  intro k
  induction k with
  | zero =>
    intro fuel m τ hk hf hm hne hv f
    obtain ⟨fuel, rfl⟩ : ∃ f, fuel = f + 1 := ⟨fuel - 1, by omega⟩
    have hmn : m = n := by omega
    subst hmn
    rw [f_X12_isSpelling_110, if_pos (nI_le (by omega) (by omega)), m_isCovered (ht.frP f P37_t) hL hT hn12 (rdg_ok L T _ m) hv, bo_some, b2_z, grd_true, ok_some]
    exact ⟨rfl, f⟩
  | succ k ih =>
    intro fuel m τ hk hf hm hne hv f
    obtain ⟨fuel, rfl⟩ : ∃ f, fuel = f + 1 := ⟨fuel - 1, by omega⟩
    obtain ⟨g1, g2⟩ := hg (a + m) (by omega) (by omega)
    have hsum := rdg_sum hL hT hne
    rw [f_X12_isSpelling_110, if_neg (nI_ge (by omega) (by omega)), nadd, ib_n (by omega), decide_eq_true (show a + m < rn by omega), grd_true, ncl (by omega), (f r (a + m) hr).1, g2]
    refine ok_bd_of (m_coverOn hN (hn.frP f P37_n) (ht.frP f P37_t) hL hT (by omega) g1 (rdg_ok L T _ m) (fun h16 e he hb => rdg_fl L T _ h16 he hb) (by omega) hv) (fun r1 τ1 h1 => ?_)
    obtain ⟨h1, h2, h3⟩ := h1
    have h1 : r1 = b2 (decide (stp L T (rdg L T (fun i => g (a + i)) m) (sm L (fun i => g (a + i)) m) (g (a + m)) ≠ 0)) := h1
    have f1 : FrP P37 τ0 τ1 := f.trans (h3.wide (fun a j h => h.1))
    by_cases h0 : stp L T (rdg L T (fun i => g (a + i)) m) (sm L (fun i => g (a + i)) m) (g (a + m)) = 0
    · rw [h1, decide_eq_false (fun q => q h0), if_pos ((b2_0 false).mpr rfl), ok_some]
      refine ⟨?_, f1⟩
      have z : rdg L T (fun i => g (a + i)) (m + 1) = 0 := h0
      have z2 := rdg_0 z (n - (m + 1))
      rw [show m + 1 + (n - (m + 1)) = n by omega] at z2
      unfold isCov
      rw [z2, decide_eq_false]
      · rfl
      · rintro ⟨_, _, q⟩; rw [Nat.zero_testBit] at q; cases q
    · rw [h1, decide_eq_true h0, if_neg (show ¬ b2 true = 0 by decide), nI_1]
      exact ih fuel (m + 1) τ1 (by omega) (by omega) (by omega) h0 h2 f1
theorem m_isSpelling {N r rn : Nat} (hN : 802 < N) (hr : r ≠ 37) {L : Lv} {T : Tv} {t : Nat} (hL : LOk L) (hT : TvOk T) {g : Nat → Nat} {a b : Nat} (hab : a < b) (hb : b ≤ rn) (hrn : rn < 1000) {τ : St} (hn : NM τ L) (ht : TMt τ t T) (hg : ∀ i, a ≤ i → i < b → g i < L.n ∧ τ.1 r i = nI (g i)) :
    ok (f_X12_isSpelling r rn N (nI a) (nI b) (nI t) τ) (fun x => x.1 = b2 (spB L T g a b) ∧ FrP P37 τ x.2) := by
  have t40 := ht.1
  unfold f_X12_isSpelling
  -- a body of n SIGNS
  have body : ∀ n, 1 ≤ n → n ≤ 12 → a + n ≤ b → ok (f_X12_isSpelling_51 r rn N (nI a) (nI t) (nI n) τ) (fun x => x.1 = b2 (bdB L T g a (a + n)) ∧ FrP P37 τ x.2) := by
    intro n hn1 hn12 hnb
    obtain ⟨ga1, ga2⟩ := hg a (by omega) (by omega)
    have cov : ¬ (n = 1 ∧ idB L T (g a) = true) → ¬ (n = 2 ∧ idB L T (g a) = true ∧ tlB L T (g (a + 1)) = true) → ok (f_X12_isSpelling_103 r rn N (nI a) (nI t) (nI n) τ) (fun x => x.1 = b2 (bdB L T g a (a + n)) ∧ FrP P37 τ x.2) := by
      intro no1 no2
      unfold f_X12_isSpelling_103
      refine ok_bo_of (m_beginCover hN τ) (fun τ1 h1 => ?_)
      have := m_isSp110 (r := r) (rn := rn) hN hr hL hT (g := g) (a := a) (n := n) hn12 (by omega) hrn hn ht (fun i h1 h2 => hg i h1 (by omega)) n N 0 τ1 rfl (by omega) (by omega) (by show (1 : Nat) ≠ 0; omega) h1.1 h1.2
      refine this.mono (fun x hx => ⟨?_, hx.2⟩)
      rw [hx.1]
      congr 1
      unfold bdB cvB
      rw [Bool.eq_iff_iff, decide_eq_true_iff, Nat.add_sub_cancel_left]
      constructor
      · intro q; exact ⟨by omega, Or.inr (Or.inr q)⟩
      · rintro ⟨_, q | q | q⟩
        · exact absurd ⟨by omega, q.2⟩ no1
        · exact absurd ⟨by omega, q.2.1, q.2.2⟩ no2
        · exact q
    have yes : bdB L T g a (a + n) = true → ok (some ((1 : Int32), τ)) (fun x => x.1 = b2 (bdB L T g a (a + n)) ∧ FrP P37 τ x.2) := by
      intro q
      rw [ok_some, q]
      exact ⟨rfl, FrP.refl _ _⟩
    have part2 : ¬ (n = 1 ∧ idB L T (g a) = true) → ok (f_X12_isSpelling_69 r rn N (nI a) (nI t) (nI n) τ) (fun x => x.1 = b2 (bdB L T g a (a + n)) ∧ FrP P37 τ x.2) := by
      intro no1
      unfold f_X12_isSpelling_69
      by_cases e2 : n = 2
      · subst e2
        obtain ⟨gb1, gb2⟩ := hg (a + 1) (by omega) (by omega)
        rw [if_pos (show nI 2 = (2 : Int32) from rfl), ib_n (by omega), decide_eq_true (show a < rn by omega), grd_true, ncl (by omega), ga2, m_isIdea hn ht hL ga1, bo_some]
        cases hid : idB L T (g a) with
        | false =>
          rw [if_pos ((b2_0 false).mpr rfl)]
          exact cov no1 (fun q => by rw [hid] at q; exact absurd q.2.1 (by decide))
        | true =>
          rw [if_neg (show ¬ b2 true = 0 by decide), nI_1, ib_n (by omega), decide_eq_true (show a + 1 < rn by omega), grd_true, ncl (by omega), gb2, m_isTail hN hn ht hL hT gb1, bo_some]
          cases htl : tlB L T (g (a + 1)) with
          | false =>
            rw [if_pos ((b2_0 false).mpr rfl)]
            exact cov no1 (fun q => by rw [htl] at q; exact absurd q.2.2 (by decide))
          | true =>
            rw [if_neg (show ¬ b2 true = 0 by decide)]
            exact yes (decide_eq_true ⟨by omega, Or.inr (Or.inl ⟨rfl, hid, htl⟩)⟩)
      · rw [if_neg (show ¬ nI n = (2 : Int32) from fun q => e2 ((neq (b := 2) (by omega) (by omega)).mp q))]
        exact cov no1 (fun q => e2 q.1)
    unfold f_X12_isSpelling_51
    by_cases e1 : n = 1
    · subst e1
      rw [if_pos (show nI 1 = (1 : Int32) from rfl), ib_n (by omega), decide_eq_true (show a < rn by omega), grd_true, ncl (by omega), ga2, m_isIdea hn ht hL ga1, bo_some]
      cases hid : idB L T (g a) with
      | false =>
        rw [if_pos ((b2_0 false).mpr rfl)]
        exact part2 (fun q => by rw [hid] at q; exact absurd q.2 (by decide))
      | true =>
        rw [if_neg (show ¬ b2 true = 0 by decide)]
        exact yes (decide_eq_true ⟨by omega, Or.inl ⟨rfl, hid⟩⟩)
    · rw [if_neg (show ¬ nI n = (1 : Int32) from fun q => e1 ((neq (b := 1) (by omega) (by omega)).mp q))]
      exact part2 (fun q => e1 q.1)
  rw [nsub (by omega)]
  have none : spB L T g a b = false → ok (some ((0 : Int32), τ)) (fun x => x.1 = b2 (spB L T g a b) ∧ FrP P37 τ x.2) := by
    intro q
    rw [ok_some, q]
    exact ⟨rfl, FrP.refl _ _⟩
  by_cases h12 : b - a ≤ 12
  · rw [if_pos (show nI (b - a) ≤ (12 : Int32) from nI_le (b := 12) h12 (by omega)), ib_n (a := t) (by omega), decide_eq_true t40, grd_true, ncl (a := t) (by omega), ht.2.2.2.2]
    by_cases hk : T.kd = 0
    · rw [if_pos (lg_cmp0.mpr hk)]
      have := body (b - a) (by omega) h12 (by omega)
      rw [show a + (b - a) = b by omega] at this
      refine this.mono (fun x hx => ⟨?_, hx.2⟩)
      rw [hx.1]; unfold spB; rw [if_pos hk]
    · rw [if_neg (fun q => hk (lg_cmp0.mp q))]
      have e1 : nI (b - a) + (-1) = nI (b - a - 1) := by
        rw [← Int32.sub_eq_add_neg]; exact nsub (b := 1) (by omega)
      rw [e1]
      by_cases h1 : b - a - 1 < 1
      · rw [if_pos (show nI (b - a - 1) < (1 : Int32) from nI_lt (b := 1) h1 (by omega))]
        refine none ?_
        unfold spB
        rw [if_neg hk, decide_eq_false (fun q => by omega)]
      · have e2 : nI b - 1 = nI (b - 1) := nsub (b := 1) (by omega)
        obtain ⟨gb1, gb2⟩ := hg (b - 1) (by omega) (by omega)
        rw [if_neg (show ¬ nI (b - a - 1) < (1 : Int32) from nI_nlt (b := 1) (by omega) (by omega)), e2, ib_n (a := b - 1) (by omega), decide_eq_true (show b - 1 < rn by omega), grd_true, ncl (a := b - 1) (by omega), gb2, m_isKind hn ht hL gb1, bo_some]
        cases hkd : kdB L T (g (b - 1)) with
        | false =>
          rw [if_pos ((b2_0 false).mpr rfl)]
          refine none ?_
          unfold spB
          rw [if_neg hk, decide_eq_false (fun q => by rw [hkd] at q; exact absurd q.2.1 (by decide))]
        | true =>
          rw [if_neg (show ¬ b2 true = 0 by decide)]
          have := body (b - a - 1) (by omega) (by omega) (by omega)
          rw [show a + (b - a - 1) = b - 1 by omega] at this
          refine this.mono (fun x hx => ⟨?_, hx.2⟩)
          rw [hx.1]
          congr 1
          unfold spB
          rw [if_neg hk, Bool.eq_iff_iff, decide_eq_true_iff]
          exact ⟨fun q => ⟨by omega, hkd, q⟩, fun q => q.2.2⟩
  · rw [if_neg (show ¬ nI (b - a) ≤ (12 : Int32) from nI_ge (a := 12) (by omega) (by omega))]
    refine none ?_
    cases hq : spB L T g a b with
    | false => rfl
    | true =>
      exfalso
      unfold spB at hq
      by_cases hk : T.kd = 0
      · rw [if_pos hk] at hq
        have := bdB_len hL hT (fun i h1 h2 => (hg i h1 h2).1) hq
        omega
      · rw [if_neg hk] at hq
        have q := of_decide_eq_true hq
        have := bdB_len hL hT (fun i h1 h2 => (hg i h1 (by omega)).1) q.2.2
        omega
