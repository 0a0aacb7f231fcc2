theorem flag_bit {A e : Nat} (hA : A < 16) (he : e < 4) : (A + 16).testBit e = A.testBit e := by
  have h : A + 16 = 2 ^ 4 ||| A := by
    rw [← Nat.one_shiftLeft, ← Nat.shiftLeft_add_eq_or_of_lt (show A < 2 ^ 4 from hA), Nat.add_comm]; rfl
  rw [h, Nat.testBit_or, Nat.testBit_two_pow, decide_eq_false (by omega), Bool.false_or]
theorem stp_bit (L : Lv) (T : Tv) (R S s : Nat) {e : Nat} (he : e < 4) : (stp L T R S s).testBit e = stB L T R S s e := by
  unfold stp
  have hl := mkm_lt (stB L T R S s) 4
  split
  · rw [flag_bit hl he, mkm_bit, decide_eq_true he, Bool.true_and]
  · rw [mkm_bit, decide_eq_true he, Bool.true_and]
theorem stp_lt (L : Lv) (T : Tv) (R S s : Nat) : stp L T R S s < 32 := by
  unfold stp
  have hl := mkm_lt (stB L T R S s) 4
  split <;> omega
theorem mkm_0 {b : Nat → Bool} : ∀ k, mkm b k = 0 ↔ ∀ j, j < k → b j = false := by
  intro k
  constructor
  · intro h j hj
    have := mkm_bit b k j
    rw [h, Nat.zero_testBit, decide_eq_true hj, Bool.true_and] at this
    exact this.symm
  · intro h
    induction k with
    | zero => rfl
    | succ k ih =>
      unfold mkm
      rw [ih (fun j hj => h j (by omega)), h k (by omega)]
      rfl
theorem stp_0 (L : Lv) (T : Tv) (R S s : Nat) : stp L T R S s = 0 ↔ ∀ e, e < 4 → stB L T R S s e = false := by
  rw [← mkm_0]
  unfold stp
  split
  · rename_i h
    constructor
    · intro q; omega
    · intro q; exact absurd q h.1
  · exact Iff.rfl
theorem stp_16 (L : Lv) (T : Tv) (R S s : Nat) : 16 ≤ stp L T R S s ↔ stp L T R S s ≠ 0 ∧ 1 < L.c s := by
  have hl := mkm_lt (stB L T R S s) 4
  unfold stp
  split
  · rename_i h
    exact ⟨fun _ => ⟨by omega, h.2⟩, fun _ => by omega⟩
  · rename_i h
    constructor
    · intro q; omega
    · intro q; exact absurd q h
theorem stB_ok {L : Lv} {T : Tv} {R S s e : Nat} (hR : Rok L T R S) (he : e < 4) (h : stB L T R S s e = true) : e ≤ L.ech ∧ e ≤ S + L.c s ∧ S + L.c s - e ≤ T.n := by
  obtain ⟨q1, q | q⟩ := of_decide_eq_true h
  · have := (of_decide_eq_true q.2.2).2.1
    omega
  · have a := hR.2 (e - 1) (by omega) q.2.1
    have b := (of_decide_eq_true q.2.2.2.2).1
    omega
theorem Rok_1 {L : Lv} {T : Tv} : Rok L T 1 0 := by
  refine ⟨by omega, fun e he h => ?_⟩
  have : e = 0 := by
    have h1 : ∀ e, e < 4 → Nat.testBit 1 e = true → e = 0 := by decide
    exact h1 e he h
  subst this
  exact ⟨by omega, by omega, by omega⟩
theorem Rok_stp {L : Lv} {T : Tv} {R S s : Nat} (hR : Rok L T R S) : Rok L T (stp L T R S s) (S + L.c s) := by
  refine ⟨stp_lt _ _ _ _ _, fun e he h => ?_⟩
  rw [stp_bit _ _ _ _ _ he] at h
  have := stB_ok hR he h
  exact this
def sm (L : Lv) (f : Nat → Nat) : Nat → Nat
  | 0 => 0
  | m + 1 => sm L f m + L.c (f m)
def rdg (L : Lv) (T : Tv) (f : Nat → Nat) : Nat → Nat
  | 0 => 1
  | m + 1 => stp L T (rdg L T f m) (sm L f m) (f m)
theorem rdg_ok (L : Lv) (T : Tv) (f : Nat → Nat) : ∀ m, Rok L T (rdg L T f m) (sm L f m) := by
  intro m
  induction m with
  | zero => exact Rok_1
  | succ m ih => exact Rok_stp ih
theorem rdg_bit (L : Lv) (T : Tv) (f : Nat → Nat) {m : Nat} (h : rdg L T f m ≠ 0) : ∃ e, e < 4 ∧ (rdg L T f m).testBit e = true := by
  cases m with
  | zero => exact ⟨0, by omega, show Nat.testBit 1 0 = true by decide⟩
  | succ m =>
    have h' : stp L T (rdg L T f m) (sm L f m) (f m) ≠ 0 := h
    apply Classical.byContradiction
    intro hc
    apply h'
    rw [stp_0]
    intro e he
    cases hb : stB L T (rdg L T f m) (sm L f m) (f m) e with
    | false => rfl
    | true => exact absurd ⟨e, he, by show (stp L T (rdg L T f m) (sm L f m) (f m)).testBit e = true; rw [stp_bit _ _ _ _ _ he]; exact hb⟩ hc
theorem rdg_sum {L : Lv} {T : Tv} (hL : LOk L) (hT : TvOk T) {f : Nat → Nat} {m : Nat} (h : rdg L T f m ≠ 0) : sm L f m ≤ 11 := by
  obtain ⟨e, he, hb⟩ := rdg_bit L T f h
  have := (rdg_ok L T f m).2 e he hb
  have h1 : L.ech ≤ 3 := hL.2.2.2.2.2
  have h2 := hT.2.1
  omega
theorem stp_of0 (L : Lv) (T : Tv) (S s : Nat) : stp L T 0 S s = 0 := by
  rw [stp_0]
  intro e he
  unfold stB
  rw [decide_eq_false]
  rintro ⟨_, q | q⟩
  · rw [Nat.zero_testBit] at q; cases q.1
  · rw [Nat.zero_testBit] at q; cases q.2.1
theorem rdg_0 {L : Lv} {T : Tv} {f : Nat → Nat} {m : Nat} (h : rdg L T f m = 0) : ∀ k, rdg L T f (m + k) = 0 := by
  intro k
  induction k with
  | zero => exact h
  | succ k ih =>
    show stp L T (rdg L T f (m + k)) (sm L f (m + k)) (f (m + k)) = 0
    rw [ih]; exact stp_of0 _ _ _ _
def isCov (L : Lv) (T : Tv) (R S : Nat) : Bool := decide (T.n ≤ S ∧ S - T.n ≤ L.ech ∧ R.testBit (S - T.n) = true)
theorem x_isCover {σ : St} {o : Nat} {L : Lv} {T : Tv} (h : SPX σ o L T) (hL : LOk L) (hT : TvOk T) {R S : Nat} (hR : R < 32) (hS : S < 100) : f_X7_isCover (nI R) (nI S) σ = b2 (isCov L T R S) := by
  obtain ⟨_, _, _, h2, _, _, _, h6⟩ := h
  have h1 : L.ech ≤ 3 := hL.2.2.2.2.2
  have t2 := hT.2.1
  unfold f_X7_isCover isCov
  rw [h2, h6]
  by_cases e1 : T.n ≤ S
  · rw [nsub e1, if_neg (nI_pos (by omega))]
    by_cases e2 : S - T.n ≤ L.ech
    · rw [if_neg (nI_nlt e2 (by omega)), show (1 : Int32) = nI 1 from rfl, nbit (by omega) (by omega)]
      cases hb : R.testBit (S - T.n) with
      | true => rw [if_pos (by decide), decide_eq_true ⟨e1, e2, rfl⟩]; rfl
      | false => rw [if_neg (by decide), decide_eq_false (fun q => by cases q.2.2)]; rfl
    · rw [if_pos (nI_lt (by omega) (by omega)), decide_eq_false (fun q => e2 q.2.1)]; rfl
  · rw [if_pos (nsub_neg (by omega) (by omega)), decide_eq_false (fun q => e1 q.1)]; rfl
/-- a body of the TERM: the SIGNS from a up to j -/
def cvB (L : Lv) (T : Tv) (g : Nat → Nat) (a j : Nat) : Bool := isCov L T (rdg L T (fun i => g (a + i)) (j - a)) (sm L (fun i => g (a + i)) (j - a))
def bdB (L : Lv) (T : Tv) (g : Nat → Nat) (a j : Nat) : Bool := decide (a < j ∧ ((j = a + 1 ∧ idB L T (g a) = true) ∨ (j = a + 2 ∧ idB L T (g a) = true ∧ tlB L T (g (a + 1)) = true) ∨ cvB L T g a j = true))
def spB (L : Lv) (T : Tv) (g : Nat → Nat) (a j : Nat) : Bool := if T.kd = 0 then bdB L T g a j else decide (a + 1 < j ∧ kdB L T (g (j - 1)) = true ∧ bdB L T g a (j - 1) = true)
theorem orL_lt {A k : Nat} (hA : A < 33554432) (hk : k < 25) : A ||| 2 ^ k < 33554432 := by
  have : 2 ^ k < 2 ^ 25 := Nat.pow_lt_pow_right (by omega) hk
  exact Nat.or_lt_two_pow (n := 25) hA this
/-- a row of SIGNS that is given -/
def RowX (σ : St) (r : Nat) (ns len : Nat) (g : Nat → Nat) : Prop := ∀ i, i < len → g i < ns ∧ σ.1 r i = nI (g i)
theorem x_coverEnds {N r rn : Nat} (hN : 802 < N) {σ : St} {o : Nat} {L : Lv} {T : Tv} (h : SPX σ o L T) (hL : LOk L) (hT : TvOk T) {g : Nat → Nat} {len a : Nat} (hlen : len ≤ 24) (hrn : len ≤ rn) (hrn2 : rn < 1000) (hg : RowX σ r L.n len g) (ha : a ≤ len) :
    ∃ E, f_X7_coverEnds r rn N (nI len) (nI a) σ = some (nI E) ∧ E < 33554432 ∧ ∀ j, E.testBit j = true ↔ (a < j ∧ j ≤ len ∧ cvB L T g a j = true) := by
  unfold f_X7_coverEnds
  have h40 := hL.1
  obtain ⟨ho, h1, hx, h2, h3, h4, h5, h6⟩ := h
  have h : SPX σ o L T := ⟨ho, h1, hx, h2, h3, h4, h5, h6⟩
  have key : ∀ (k fuel m E : Nat), len - (a + m) = k → k < fuel → a + m ≤ len → E < 33554432 → (∀ j, E.testBit j = true ↔ (a < j ∧ j ≤ a + m ∧ cvB L T g a j = true)) → ∃ E', f_X7_coverEnds_12 r rn N fuel (nI len) (nI E) (nI (rdg L T (fun i => g (a + i)) m)) (nI (sm L (fun i => g (a + i)) m)) (nI (a + m)) σ = some (nI E') ∧ E' < 33554432 ∧ ∀ j, E'.testBit j = true ↔ (a < j ∧ j ≤ len ∧ cvB L T g a j = true) := by
    intro k
    induction k with
    | zero =>
      intro fuel m E hk hf hm hE hb
      obtain ⟨fuel, rfl⟩ : ∃ f, fuel = f + 1 := ⟨fuel - 1, by omega⟩
      rw [f_X7_coverEnds_12, if_pos (nI_le (by omega) (by omega))]
      refine ⟨E, rfl, hE, fun j => ?_⟩
      rw [hb j, show a + m = len by omega]
    | succ k ih =>
      intro fuel m E hk hf hm hE hb
      obtain ⟨fuel, rfl⟩ : ∃ f, fuel = f + 1 := ⟨fuel - 1, by omega⟩
      rw [f_X7_coverEnds_12, if_neg (nI_ge (by omega) (by omega))]
      have hRok := rdg_ok L T (fun i => g (a + i)) m
      by_cases h0 : rdg L T (fun i => g (a + i)) m = 0
      · rw [h0, if_pos (show nI 0 = (0 : Int32) from rfl)]
        refine ⟨E, rfl, hE, fun j => ?_⟩
        rw [hb j]
        constructor
        · rintro ⟨q1, q2, q3⟩; exact ⟨q1, by omega, q3⟩
        · rintro ⟨q1, q2, q3⟩
          refine ⟨q1, ?_, q3⟩
          apply Classical.byContradiction
          intro hj
          have e0 := rdg_0 h0 (j - a - m)
          unfold cvB isCov at q3
          have q4 := of_decide_eq_true q3
          rw [show j - a = m + (j - a - m) by omega, e0, Nat.zero_testBit] at q4
          cases q4.2.2
      · have hRlt := hRok.1
        have hsum := rdg_sum hL hT h0
        obtain ⟨hgs, hgr⟩ := hg (a + m) (by omega)
        have hc3 := LOk_c hL hgs
        obtain ⟨_, _, _, _, a5, _, _⟩ := hx.2.1 (g (a + m)) hgs
        rw [if_neg (nI_ne0 (by omega) (by omega)), ib_n (a := a + m) (by omega), decide_eq_true (show a + m < rn by omega), grd_true, ncl (a := a + m) (by omega), hgr, x_step hN h hL hT hRok (by omega) hgs, bo_some, h1, sgb_n ho, ib_n (a := g (a + m)) (by omega), decide_eq_true (show g (a + m) < 40 by omega), ncl (a := o) (by omega), ncl (a := g (a + m)) (by omega), a5, nadd]
        simp only [grd_true]
        have eR : stp L T (rdg L T (fun i => g (a + i)) m) (sm L (fun i => g (a + i)) m) (g (a + m)) = rdg L T (fun i => g (a + i)) (m + 1) := rfl
        have eS : sm L (fun i => g (a + i)) m + L.c (g (a + m)) = sm L (fun i => g (a + i)) (m + 1) := rfl
        rw [eR, eS, x_isCover h hL hT (rdg_ok L T _ (m + 1)).1 (by rw [← eS]; omega), nI_1, Nat.add_assoc]
        have ecv : isCov L T (rdg L T (fun i => g (a + i)) (m + 1)) (sm L (fun i => g (a + i)) (m + 1)) = cvB L T g a (a + (m + 1)) := by
          unfold cvB
          rw [show a + (m + 1) - a = m + 1 by omega]
        rw [ecv]
        cases hcv : cvB L T g a (a + (m + 1)) with
        | false =>
          rw [if_pos ((b2_0 false).mpr rfl)]
          refine ih fuel (m + 1) E (by omega) (by omega) (by omega) hE (fun j => ?_)
          rw [hb j]
          constructor
          · rintro ⟨q1, q2, q3⟩; exact ⟨q1, by omega, q3⟩
          · rintro ⟨q1, q2, q3⟩
            refine ⟨q1, ?_, q3⟩
            by_cases ej : j = a + (m + 1)
            · rw [ej, hcv] at q3; cases q3
            · omega
        | true =>
          rw [if_neg (show ¬ b2 true = 0 by decide), show (1 : Int32) = nI 1 from rfl, nshl 1 (by omega), nor, Nat.one_shiftLeft]
          refine ih fuel (m + 1) _ (by omega) (by omega) (by omega) (orL_lt hE (by omega)) (fun j => ?_)
          rw [or_bit, hb j]
          constructor
          · rintro (⟨q1, q2, q3⟩ | q)
            · exact ⟨q1, by omega, q3⟩
            · subst q; exact ⟨by omega, by omega, hcv⟩
          · rintro ⟨q1, q2, q3⟩
            by_cases ej : j = a + (m + 1)
            · exact Or.inr ej
            · exact Or.inl ⟨q1, by omega, q3⟩
  exact key (len - a) N 0 0 (by omega) (by omega) (by omega) (by omega) (fun j => by
    rw [Nat.zero_testBit]
    exact ⟨fun q => absurd q (by decide), fun q => by omega⟩)
