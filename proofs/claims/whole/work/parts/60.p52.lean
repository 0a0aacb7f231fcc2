/-! read: the class's ways back -/
theorem and_ne {A B : Nat} (hA : A < 33554432) : (nI A &&& nI B = 0) ↔ ¬ ∃ j, A.testBit j = true ∧ B.testBit j = true := by
  have lt : A &&& B < 33554432 := Nat.lt_of_le_of_lt Nat.and_le_left hA
  rw [nand, show (0 : Int32) = nI 0 from rfl, neq (by omega) (by omega)]
  constructor
  · rintro h ⟨j, h1, h2⟩
    have : (A &&& B).testBit j = true := by rw [Nat.testBit_and, h1, h2]; rfl
    rw [h, Nat.zero_testBit] at this
    cases this
  · intro h
    by_cases e : A &&& B = 0
    · exact e
    · obtain ⟨j, hj⟩ := bit_of_ne e
      rw [Nat.testBit_and, Bool.and_eq_true] at hj
      exact absurd ⟨j, hj⟩ h
abbrev Q64 (k : Nat) : Nat → Nat → Prop := fun a q => a = 64 ∧ q = k
theorem x_dl35 {N : Nat} {S : Nat → Nat → Nat → Bool} {nt n k t D : Nat} (h40 : nt ≤ 40) (hn24 : n ≤ 24) (hk : k < 24) (ht : t < nt) (hD : D < 33554432) {k22 : Int32 → St → Option St} :
    ∀ (c fuel i A : Nat) (σ : St), n - i = c → c < fuel → i ≤ n → EnT σ S n (fun t i => t < nt ∧ i < n) → σ.1 12404 0 = nI n → σ.1 65 k = nI t → σ.1 64 (k + 1) = nI D → σ.1 64 k = nI A → A < 33554432 →
    ∃ σ' A', f_X5_chooseLengths_35 N k22 fuel (nI k) (nI i) σ = k22 (nI k + -1) σ' ∧ σ'.1 64 k = nI A' ∧ A' < 33554432 ∧ (∀ q, A'.testBit q = true ↔ (A.testBit q = true ∨ (i ≤ q ∧ q < n ∧ ∃ j, q < j ∧ j ≤ n ∧ S t q j = true ∧ D.testBit j = true))) ∧ FrP (Q64 k) σ σ' := by
  intro c
  induction c with
  | zero =>
    intro fuel i A σ hc hf hi en hn h65 h64 hA0 hA
    obtain ⟨fuel, rfl⟩ : ∃ f, fuel = f + 1 := ⟨fuel - 1, by omega⟩
    refine ⟨σ, A, ?_, hA0, hA, fun q => ⟨Or.inl, fun h => h.elim id (fun h => absurd h.2.1 (by omega))⟩, FrP.refl _ _⟩
    rw [f_X5_chooseLengths_35, hn, if_pos (nI_le (by omega) (by omega))]
  | succ c ih =>
    intro fuel i A σ hc hf hi en hn h65 h64 hA0 hA
    obtain ⟨fuel, rfl⟩ : ∃ f, fuel = f + 1 := ⟨fuel - 1, by omega⟩
    obtain ⟨E, d1, d2, d3⟩ := en t i ⟨ht, by omega⟩
    have ea : nI t * 24 + nI i = nI (t * 24 + i) := by rw [show (24 : Int32) = nI 24 from rfl, nmul, nadd]
    rw [f_X5_chooseLengths_35, hn, if_neg (nI_ge (by omega) (by omega)), ib_n (a := k) (by omega), decide_eq_true hk, ncl (a := k) (by omega), h65, ea, ib_n (a := t * 24 + i) (by omega), decide_eq_true (show t * 24 + i < 960 by omega), ncl (a := t * 24 + i) (by omega), nI_1 k, ib_n (a := k + 1) (by omega), decide_eq_true (show k + 1 < 25 by omega), ncl (a := k + 1) (by omega), d1, h64, nI_1 i, ib_n (a := k) (by omega), decide_eq_true (show k < 25 by omega), hA0]
    simp only [grd_true]
    have hx := and_ne (B := D) d2
    by_cases h0 : nI E &&& nI D = 0
    · rw [if_pos h0]
      obtain ⟨σ', A', e1, e2, e3, e4, e5⟩ := ih fuel (i + 1) A σ (by omega) (by omega) (by omega) en hn h65 h64 hA0 hA
      refine ⟨σ', A', e1, e2, e3, fun q => ?_, e5⟩
      rw [e4]
      refine ⟨fun h => h.elim Or.inl (fun h => Or.inr ⟨by omega, h.2⟩), fun h => h.elim Or.inl (fun h => ?_)⟩
      by_cases e : q = i
      · obtain ⟨_, _, j, j1, j2, j3, j4⟩ := h
        rw [e] at j1 j3
        exact absurd ⟨j, (d3 j).mpr ⟨j1, j2, j3⟩, j4⟩ (hx.mp h0)
      · exact Or.inr ⟨by omega, h.2⟩
    · have hj : ∃ j, E.testBit j = true ∧ D.testBit j = true := Classical.byContradiction (fun q => h0 (hx.mpr q))
      obtain ⟨j, j1, j2⟩ := hj
      obtain ⟨j3, j4, j5⟩ := (d3 j).mp j1
      rw [if_neg h0, show (1 : Int32) = nI 1 from rfl, nshl 1 (by omega), nor, Nat.one_shiftLeft]
      have f1 : FrP (Q64 k) σ (si σ 64 k (nI (A ||| 2 ^ i))) := (FrP.refl _ _).si _ _ _ ⟨rfl, rfl⟩
      obtain ⟨σ', A', e1, e2, e3, e4, e5⟩ := ih fuel (i + 1) (A ||| 2 ^ i) (si σ 64 k (nI (A ||| 2 ^ i))) (by omega) (by omega) (by omega) (fun t i h => by rw [(f1 61 _ (fun h => absurd h.1 (by decide))).1]; exact en t i h) (by rw [(f1 12404 0 (fun h => absurd h.1 (by decide))).1]; exact hn) (by rw [(f1 65 k (fun h => absurd h.1 (by decide))).1]; exact h65) (by rw [(f1 64 (k + 1) (fun h => absurd h.2 (by omega))).1]; exact h64) (by rw [si_rd, if_pos rfl, if_pos rfl]) (orL_lt hA (by omega))
      refine ⟨σ', A', e1, e2, e3, fun q => ?_, f1.trans e5⟩
      rw [e4, or_bit]
      constructor
      · rintro ((h | h) | h)
        · exact Or.inl h
        · exact Or.inr ⟨by omega, by omega, j, by omega, j4, by rw [h]; exact j5, j2⟩
        · exact Or.inr ⟨by omega, h.2⟩
      · rintro (h | h)
        · exact Or.inl (Or.inl h)
        · by_cases e : q = i
          · exact Or.inl (Or.inr e)
          · exact Or.inr ⟨by omega, h.2⟩
/-- the places from which the TERMS chosen go to the end -/
def DlT (S : Nat → Nat → Nat → Bool) (n many : Nat) (u D : Nat → Nat) (m : Nat) : Prop := D many = 2 ^ n ∧ (∀ k, m ≤ k → k ≤ many → D k < 33554432) ∧ ∀ k, m ≤ k → k < many → ∀ i, (D k).testBit i = true ↔ (i < n ∧ ∃ j, i < j ∧ j ≤ n ∧ S (u k) i j = true ∧ (D (k + 1)).testBit j = true)
theorem x_dl22 {N : Nat} (hN : 802 < N) {S : Nat → Nat → Nat → Bool} {nt n many : Nat} {u : Nat → Nat} (h40 : nt ≤ 40) (hn24 : n ≤ 24) (hm : many ≤ 24) (hu : ∀ k, k < many → u k < nt) {σ0 : St} (en : EnT σ0 S n (fun t i => t < nt ∧ i < n)) (hn : σ0.1 12404 0 = nI n) (h65 : ∀ k, k < many → σ0.1 65 k = nI (u k)) :
    ∀ (m fuel : Nat) (σ : St) (D : Nat → Nat), m ≤ many → m < fuel → Fr [64] σ0 σ → (∀ k, m ≤ k → k ≤ many → σ.1 64 k = nI (D k)) → DlT S n many u D m →
    ∃ σ' D', f_X5_chooseLengths_22 N fuel (nI m + -1) σ = f_X5_chooseLengths_99 N N 0 0 σ' ∧ Fr [64] σ0 σ' ∧ (∀ k, k ≤ many → σ'.1 64 k = nI (D' k)) ∧ DlT S n many u D' 0 := by
  intro m
  induction m with
  | zero =>
    intro fuel σ D hm2 hf f h64 dl
    obtain ⟨fuel, rfl⟩ : ∃ f, fuel = f + 1 := ⟨fuel - 1, by omega⟩
    refine ⟨σ, D, ?_, f, fun k hk => h64 k (by omega) hk, dl⟩
    rw [f_X5_chooseLengths_22, if_pos (show nI 0 + -1 < (0 : Int32) by decide)]
  | succ m ih =>
    intro fuel σ D hm2 hf f h64 dl
    obtain ⟨fuel, rfl⟩ : ∃ f, fuel = f + 1 := ⟨fuel - 1, by omega⟩
    obtain ⟨l1, l2, l3⟩ := dl
    have f1 : Fr [64] σ (si σ 64 m 0) := (Fr.refl _ _).si _ _ _ rfl
    have F1 := f.trans f1
    obtain ⟨σ1, A, e1, e2, e3, e4, e5⟩ := x_dl35 (N := N) (S := S) (nt := nt) (n := n) (k := m) (t := u m) (D := D (m + 1)) h40 hn24 (by omega) (hu m (by omega)) (l2 (m + 1) (by omega) (by omega)) (k22 := f_X5_chooseLengths_22 N fuel) n N 0 0 (si σ 64 m 0) rfl (by omega) (by omega) (fun t i h => by rw [F1.i 61 rfl]; exact en t i h) (by rw [F1.i 12404 rfl]; exact hn) (by rw [F1.i 65 rfl]; exact h65 m (by omega)) (by rw [si_rd, if_pos rfl, if_neg (by omega)]; exact h64 (m + 1) (by omega) (by omega)) (by rw [si_rd, if_pos rfl, if_pos rfl]; rfl) (by omega)
    have e1' : f_X5_chooseLengths_35 N (f_X5_chooseLengths_22 N fuel) N (nI m) 0 (si σ 64 m 0) = f_X5_chooseLengths_22 N fuel (nI m + -1) σ1 := e1
    rw [nI_back, f_X5_chooseLengths_22, if_neg (show ¬ nI m < (0 : Int32) from nI_nlt (b := 0) (by omega) (by omega)), ib_n (a := m) (by omega), decide_eq_true (show m < 25 by omega), grd_true, ncl (a := m) (by omega), e1']
    refine ih fuel σ1 (up D m A) (by omega) (by omega) (F1.trans (e5.toFr (fun a j h => by rw [h.1]; rfl))) (fun k h1 h2 => ?_) ⟨by rw [up_ne _ _ (by omega)]; exact l1, fun k h1 h2 => ?_, fun k h1 h2 i => ?_⟩
    · by_cases e : k = m
      · rw [e, up_is]; exact e2
      · rw [up_ne _ _ e, (e5 64 k (fun h => e h.2)).1, si_rd, if_pos rfl, if_neg e]; exact h64 k (by omega) h2
    · by_cases e : k = m
      · rw [e, up_is]; exact e3
      · rw [up_ne _ _ e]; exact l2 k (by omega) h2
    · rw [up_ne (i := k + 1) _ _ (by omega)]
      by_cases e : k = m
      · rw [e, up_is, e4, Nat.zero_testBit]
        exact ⟨fun h => h.elim (fun h => absurd h (by decide)) (fun h => h.2), fun h => Or.inr ⟨Nat.zero_le _, h⟩⟩
      · rw [up_ne _ _ e]; exact l3 k (by omega) h2 i
