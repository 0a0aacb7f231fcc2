/-! readings -/
def mkm (b : Nat → Bool) : Nat → Nat
  | 0 => 0
  | k + 1 => mkm b k + (if b k = true then 2 ^ k else 0)
theorem mkm_lt (b : Nat → Bool) : ∀ k, mkm b k < 2 ^ k := by
  intro k
  induction k with
  | zero => exact Nat.zero_lt_one
  | succ k ih =>
    unfold mkm
    rw [Nat.pow_succ]
    split <;> omega
theorem mkm_bit (b : Nat → Bool) : ∀ k j, (mkm b k).testBit j = (decide (j < k) && b j) := by
  intro k
  induction k with
  | zero => intro j; unfold mkm; simp
  | succ k ih =>
    intro j
    unfold mkm
    have hl := mkm_lt b k
    cases hb : b k with
    | false =>
      rw [if_neg (by decide), Nat.add_zero, ih]
      by_cases h2 : j = k
      · subst h2; rw [hb, Bool.and_false, Bool.and_false]
      · by_cases h1 : j < k
        · rw [decide_eq_true h1, decide_eq_true (show j < k + 1 by omega)]
        · rw [decide_eq_false h1, decide_eq_false (show ¬ j < k + 1 by omega)]
    | true =>
      rw [if_pos rfl]
      have e : mkm b k + 2 ^ k = 2 ^ k ||| mkm b k := by
        rw [← Nat.one_shiftLeft, ← Nat.shiftLeft_add_eq_or_of_lt hl, Nat.add_comm]
      rw [e, Nat.testBit_or, Nat.testBit_two_pow, ih]
      by_cases h2 : j = k
      · subst h2; rw [hb, decide_eq_true rfl, decide_eq_true (show j < j + 1 by omega)]; rfl
      · rw [decide_eq_false (fun q => h2 q.symm), Bool.false_or]
        by_cases h1 : j < k
        · rw [decide_eq_true h1, decide_eq_true (show j < k + 1 by omega)]
        · rw [decide_eq_false h1, decide_eq_false (show ¬ j < k + 1 by omega)]
theorem bits_eq {A B : Nat} (hA : A < 16) (hB : B < 16) (h : ∀ j, j < 4 → (A.testBit j = true ↔ B.testBit j = true)) : A = B := by
  apply Nat.eq_of_testBit_eq
  intro j
  by_cases hj : j < 4
  · exact Bool.eq_iff_iff.mpr (h j hj)
  · have p : 2 ^ 4 ≤ 2 ^ j := Nat.pow_le_pow_right (by omega) (by omega)
    rw [Nat.testBit_lt_two_pow (by omega), Nat.testBit_lt_two_pow (by omega)]
/-- what one more SIGN makes of a reading: bit e -/
def stB (L : Lv) (T : Tv) (R S s e : Nat) : Bool := decide (e ≤ L.ech ∧ ((R.testBit e = true ∧ e ≤ S ∧ atB L T s (S - e) = true) ∨ (0 < e ∧ R.testBit (e - 1) = true ∧ 16 ≤ R ∧ e - 1 ≤ S ∧ ecB L T s (S - (e - 1)) = true)))
def stp (L : Lv) (T : Tv) (R S s : Nat) : Nat := if mkm (stB L T R S s) 4 ≠ 0 ∧ 1 < L.c s then mkm (stB L T R S s) 4 + 16 else mkm (stB L T R S s) 4
/-- a reading holds places of the ROW -/
def Rok (L : Lv) (T : Tv) (R S : Nat) : Prop := R < 32 ∧ ∀ e, e < 4 → R.testBit e = true → e ≤ L.ech ∧ e ≤ S ∧ S - e ≤ T.n
theorem x_echoes {σ : St} {o : Nat} {L : Lv} {T : Tv} (h : SPX σ o L T) (hL : LOk L) (hT : TvOk T) {s p : Nat} (hs : s < L.n) (hp : p ≤ T.n) : f_X7_echoes (nI s) (nI p) σ = some (b2 (ecB L T s p)) := by
  obtain ⟨ho, h1, hx, h2, _, _, h5, h6⟩ := h
  have h40 := hL.1
  have hc3 := LOk_c hL hs
  obtain ⟨t1, t2, t3⟩ := hT
  obtain ⟨_, _, _, _, a5, a6, _⟩ := hx.2.1 s hs
  have cd := LOk_d hL hs
  unfold f_X7_echoes
  rw [h1, sgb_n ho, ib_n (by omega), decide_eq_true (show s < 40 by omega), ncl (a := o) (by omega), ncl (a := s) (by omega), a5, a6, h5]
  simp only [grd_true]
  unfold ecB
  by_cases e : L.c s = 1
  · rw [if_pos (show nI (L.c s) = (1 : Int32) by rw [e]; rfl)]
    by_cases e2 : 0 < p
    · have hp1 : nI p - 1 = nI (p - 1) := nsub (b := 1) e2
      rw [if_neg (nI_nle e2 (by omega)), hp1, snd_at t2 (by omega) t3, e]
      have e1 : sp (L.d s) 1 = L.d s 0 := by show 0 + L.d s 0 * 16 ^ 0 = _; omega
      have hd0 := cd 0 (by omega)
      have ht0 := t3 (p - 1) (by omega)
      rw [e1]
      by_cases e3 : L.d s 0 = T.d (p - 1)
      · rw [if_pos (by rw [e3]), decide_eq_true ⟨rfl, e2, e3⟩]; rfl
      · rw [if_neg (fun q => e3 ((neq (by omega) (by omega)).mp q).symm), decide_eq_false (fun q => e3 q.2.2)]; rfl
    · rw [if_pos (show nI p ≤ (0 : Int32) from nI_le (b := 0) (by omega) (by omega)), decide_eq_false (fun q => e2 q.2.1)]; rfl
  · rw [if_neg (show ¬ nI (L.c s) = (1 : Int32) from fun q => e ((neq (b := 1) (by omega) (by omega)).mp q)), decide_eq_false (fun q => e q.1)]; rfl
/-- bits of the reading that e echoes of the one ahead, or fewer, give -/
def pBit (L : Lv) (T : Tv) (R S s e j : Nat) : Prop := j ≤ L.ech ∧ ((j < e ∧ R.testBit j = true ∧ j ≤ S ∧ atB L T s (S - j) = true) ∨ (0 < j ∧ j - 1 < e ∧ R.testBit (j - 1) = true ∧ 16 ≤ R ∧ j - 1 ≤ S ∧ ecB L T s (S - (j - 1)) = true))
theorem or_bit {A k j : Nat} : (A ||| 2 ^ k).testBit j = true ↔ (A.testBit j = true ∨ j = k) := by
  rw [Nat.testBit_or, Nat.testBit_two_pow, Bool.or_eq_true, decide_eq_true_iff]
  constructor
  · rintro (h | h)
    · exact Or.inl h
    · exact Or.inr h.symm
  · rintro (h | h)
    · exact Or.inl h
    · exact Or.inr h.symm
theorem or_lt {A k : Nat} (hA : A < 16) (hk : k < 4) : A ||| 2 ^ k < 16 := by
  have : 2 ^ k < 2 ^ 4 := Nat.pow_lt_pow_right (by omega) hk
  exact Nat.or_lt_two_pow (n := 4) hA this
theorem x_step_6 {N : Nat} {σ : St} {o : Nat} {L : Lv} {T : Tv} (h : SPX σ o L T) (hL : LOk L) (hT : TvOk T) {R S s : Nat} (hR : Rok L T R S) (hS : S < 100) (hs : s < L.n) : ∀ (k fuel e A : Nat), L.ech + 1 - e = k → k < fuel → e ≤ L.ech + 1 → A < 16 → (∀ j, j < 4 → (A.testBit j = true ↔ pBit L T R S s e j)) → f_X7_step_6 N fuel (nI R) (nI S) (nI s) (nI A) (nI e) σ = some (nI (stp L T R S s)) := by
  have he3 : L.ech ≤ 3 := hL.2.2.2.2.2
  have h40 := hL.1
  obtain ⟨hR1, hR2⟩ := hR
  have hc3 := LOk_c hL hs
  obtain ⟨ho, h1, hx, h2, h3, h4, h5, h6⟩ := h
  have h : SPX σ o L T := ⟨ho, h1, hx, h2, h3, h4, h5, h6⟩
  obtain ⟨_, _, _, _, a5, a6, _⟩ := hx.2.1 s hs
  intro k
  induction k with
  | zero =>
    intro fuel e A hk hf he hA hb
    obtain ⟨fuel, rfl⟩ : ∃ f, fuel = f + 1 := ⟨fuel - 1, by omega⟩
    have hee : e = L.ech + 1 := by omega
    have hAm : A = mkm (stB L T R S s) 4 := by
      refine bits_eq hA (mkm_lt _ 4) (fun j hj => ?_)
      rw [hb j hj, mkm_bit, decide_eq_true hj, Bool.true_and]
      unfold pBit stB
      rw [decide_eq_true_iff, hee]
      constructor
      · rintro ⟨q1, q | q⟩
        · exact ⟨q1, Or.inl ⟨q.2.1, q.2.2.1, q.2.2.2⟩⟩
        · exact ⟨q1, Or.inr ⟨q.1, q.2.2⟩⟩
      · rintro ⟨q1, q | q⟩
        · exact ⟨q1, Or.inl ⟨by omega, q.1, q.2.1, q.2.2⟩⟩
        · exact ⟨q1, Or.inr ⟨q.1, by omega, q.2⟩⟩
    rw [f_X7_step_6, h2, if_pos (nI_lt (by omega) (by omega)), h1, sgb_n ho, ib_n (a := s) (by omega), decide_eq_true (show s < 40 by omega), ncl (a := o) (by omega), ncl (a := s) (by omega), a5]
    simp only [grd_true]
    unfold stp
    rw [← hAm]
    by_cases hA0 : A = 0
    · rw [hA0, if_pos (show nI 0 = (0 : Int32) from rfl), if_neg (fun q => q.1 rfl)]
    · rw [if_neg (nI_ne0 (by omega) (by omega))]
      by_cases hc1 : 1 < L.c s
      · rw [if_neg (show ¬ nI (L.c s) ≤ (1 : Int32) from nI_ge (a := 1) hc1 (by omega)), if_pos ⟨hA0, hc1⟩, show (16 : Int32) = nI 16 from rfl, nor]
        congr 2
        rw [Nat.or_comm, show (16 : Nat) = 1 <<< 4 from rfl, ← Nat.shiftLeft_add_eq_or_of_lt (show A < 2 ^ 4 from hA), Nat.add_comm]
      · rw [if_pos (show nI (L.c s) ≤ (1 : Int32) from nI_le (b := 1) (by omega) (by omega)), if_neg (fun q => hc1 q.2)]
  | succ k ih =>
    intro fuel e A hk hf he hA hb
    obtain ⟨fuel, rfl⟩ : ∃ f, fuel = f + 1 := ⟨fuel - 1, by omega⟩
    have hele : e ≤ L.ech := by omega
    rw [f_X7_step_6, h2, if_neg (nI_nlt (by omega) (by omega)), show (1 : Int32) = nI 1 from rfl, nbit (by omega) (by omega)]
    by_cases hbit : R.testBit e = true
    · obtain ⟨q1, q2, q3⟩ := hR2 e (by omega) hbit
      rw [if_pos hbit, if_neg (show ¬ nI 1 = (0 : Int32) by decide), nsub q2, x_covers h hL hT hs (by omega), bo_some]
      have stage : ∀ A1, A1 < 16 → (∀ j, j < 4 → (A1.testBit j = true ↔ (A.testBit j = true ∨ (j = e ∧ atB L T s (S - e) = true)))) → f_X7_step_48 N (f_X7_step_6 N fuel) (nI R) (nI S) (nI s) (nI A1) (nI e) σ = some (nI (stp L T R S s)) := by
        intro A1 hA1 hb1
        unfold f_X7_step_48
        have rest : ∀ A2, A2 < 16 → (∀ j, j < 4 → (A2.testBit j = true ↔ (A1.testBit j = true ∨ (j = e + 1 ∧ e < L.ech ∧ 16 ≤ R ∧ ecB L T s (S - e) = true)))) → f_X7_step_6 N fuel (nI R) (nI S) (nI s) (nI A2) (nI (e + 1)) σ = some (nI (stp L T R S s)) := by
          intro A2 hA2 hb2
          refine ih fuel (e + 1) A2 (by omega) (by omega) (by omega) hA2 (fun j hj => ?_)
          rw [hb2 j hj, hb1 j hj, hb j hj]
          unfold pBit
          constructor
          · rintro ((⟨p1, p | p⟩ | ⟨p1, p2⟩) | ⟨p1, p2, p3, p4⟩)
            · exact ⟨p1, Or.inl ⟨by omega, p.2⟩⟩
            · exact ⟨p1, Or.inr ⟨p.1, by omega, p.2.2⟩⟩
            · subst p1; exact ⟨hele, Or.inl ⟨by omega, hbit, q2, p2⟩⟩
            · subst p1; exact ⟨by omega, Or.inr ⟨by omega, by omega, by rw [Nat.add_sub_cancel]; exact hbit, p3, by omega, by rw [Nat.add_sub_cancel]; exact p4⟩⟩
          · rintro ⟨p1, p | p⟩
            · by_cases ej : j = e
              · subst ej; exact Or.inl (Or.inr ⟨rfl, p.2.2.2⟩)
              · exact Or.inl (Or.inl ⟨p1, Or.inl ⟨by omega, p.2⟩⟩)
            · by_cases ej : j = e + 1
              · subst ej
                rw [Nat.add_sub_cancel] at p
                exact Or.inr ⟨rfl, by omega, p.2.2.2.1, p.2.2.2.2.2⟩
              · exact Or.inl (Or.inl ⟨p1, Or.inr ⟨p.1, by omega, p.2.2⟩⟩)
        rw [nI_1]
        by_cases h16 : 16 ≤ R
        · rw [if_neg (show ¬ nI R < (16 : Int32) from nI_nlt (b := 16) h16 (by omega)), h2]
          by_cases hee : e < L.ech
          · rw [if_neg (nI_ge hee (by omega)), nsub q2, x_echoes h hL hT hs q3, bo_some]
            cases hec : ecB L T s (S - e) with
            | false =>
              rw [if_pos ((b2_0 false).mpr rfl)]
              exact rest A1 hA1 (fun j hj => ⟨fun q => Or.inl q, fun q => q.elim id (fun q => absurd (hec.symm.trans q.2.2.2) (by decide))⟩)
            | true =>
              rw [if_neg (show ¬ b2 true = 0 by decide), show (2 : Int32) = nI 2 from rfl, nshl 2 (by omega), nor, show 2 <<< e = 2 ^ (e + 1) by rw [Nat.shiftLeft_eq, Nat.pow_succ, Nat.mul_comm]]
              refine rest _ (or_lt hA1 (by omega)) (fun j hj => ?_)
              rw [or_bit]
              exact ⟨fun q => q.elim Or.inl (fun q => Or.inr ⟨q, hee, h16, hec⟩), fun q => q.elim Or.inl (fun q => Or.inr q.1)⟩
          · rw [if_pos (nI_le (by omega) (by omega))]
            exact rest A1 hA1 (fun j hj => ⟨fun q => Or.inl q, fun q => q.elim id (fun q => absurd q.2.1 hee)⟩)
        · rw [if_pos (show nI R < (16 : Int32) from nI_lt (b := 16) (by omega) (by omega))]
          exact rest A1 hA1 (fun j hj => ⟨fun q => Or.inl q, fun q => q.elim id (fun q => absurd q.2.2.1 h16)⟩)
      cases hat : atB L T s (S - e) with
      | false =>
        rw [if_pos ((b2_0 false).mpr rfl)]
        exact stage A hA (fun j hj => ⟨Or.inl, fun q => q.elim id (fun q => absurd (hat.symm.trans q.2) (by decide))⟩)
      | true =>
        rw [if_neg (show ¬ b2 true = 0 by decide), nshl 1 (by omega), nor, Nat.one_shiftLeft]
        refine stage _ (or_lt hA (by omega)) (fun j hj => ?_)
        rw [or_bit]
        exact ⟨fun q => q.elim Or.inl (fun q => Or.inr ⟨q, hat⟩), fun q => q.elim Or.inl (fun q => Or.inr q.1)⟩
    · rw [if_neg hbit, if_pos (show nI 0 = (0 : Int32) from rfl), nadd]
      refine ih fuel (e + 1) A (by omega) (by omega) (by omega) hA (fun j hj => ?_)
      rw [hb j hj]
      unfold pBit
      constructor
      · rintro ⟨p1, p | p⟩
        · exact ⟨p1, Or.inl ⟨by omega, p.2⟩⟩
        · exact ⟨p1, Or.inr ⟨p.1, by omega, p.2.2⟩⟩
      · rintro ⟨p1, p | p⟩
        · refine ⟨p1, Or.inl ⟨?_, p.2⟩⟩
          by_cases ej : j = e
          · subst ej; exact absurd p.2.1 hbit
          · omega
        · refine ⟨p1, Or.inr ⟨p.1, ?_, p.2.2⟩⟩
          by_cases ej : j - 1 = e
          · rw [ej] at p; exact absurd p.2.2.1 hbit
          · omega
theorem x_step {N : Nat} (hN : 802 < N) {σ : St} {o : Nat} {L : Lv} {T : Tv} (h : SPX σ o L T) (hL : LOk L) (hT : TvOk T) {R S s : Nat} (hR : Rok L T R S) (hS : S < 100) (hs : s < L.n) : f_X7_step N (nI R) (nI S) (nI s) σ = some (nI (stp L T R S s)) := by
  unfold f_X7_step
  have he3 : L.ech ≤ 3 := hL.2.2.2.2.2
  refine x_step_6 h hL hT hR hS hs (L.ech + 1) N 0 0 (by omega) (by omega) (by omega) (by omega) (fun j hj => ?_)
  unfold pBit
  rw [Nat.zero_testBit]
  constructor
  · intro q; cases q
  · rintro ⟨_, q | q⟩
    · omega
    · omega
