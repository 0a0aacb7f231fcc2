/-! best, the reference: kinds, ideas -/
def MS (τ : St) (L : Lv) (t : Nat) (T : Tv) : Prop := NM τ L ∧ TMt τ t T ∧ LM τ L
theorem MS.fr {τ τ' : St} {L : Lv} {t : Nat} {T : Tv} {V : List Nat} (h : MS τ L t T) (f : Fr V τ τ') (hv : ([34, 35, 36, 10, 2, 30, 31, 32, 33, 3, 4, 5, 6, 7, 8, 9] : List Nat).all (fun a => !V.contains a) = true) : MS τ' L t T := by
  have key : ∀ l : List Nat, (∀ a, a ∈ l → a ∈ ([34, 35, 36, 10, 2, 30, 31, 32, 33, 3, 4, 5, 6, 7, 8, 9] : List Nat)) → ∀ a (_ : Nat), V.contains a = true → l.contains a = false := by
    intro l hl a _ ha
    cases e : l.contains a with
    | false => rfl
    | true =>
      have h1 := List.all_eq_true.mp hv a (hl a (List.contains_iff_mem.mp e))
      rw [ha] at h1; cases h1
  have fp : FrP (fun a _ => V.contains a = true) τ τ' := f.toP (fun a j h => h)
  refine ⟨h.1.frP fp (key _ (by decide)), h.2.1.frP fp (key _ (by decide)), LM_fr h.2.2 f ?_⟩
  rw [List.all_eq_true] at hv ⊢
  intro a ha
  refine hv a ?_
  have : ∀ a, a ∈ ([3, 4, 5, 6, 7, 8, 9, 10, 2] : List Nat) → a ∈ ([34, 35, 36, 10, 2, 30, 31, 32, 33, 3, 4, 5, 6, 7, 8, 9] : List Nat) := by decide
  exact this a ha
theorem kle1 {L : Lv} {a b : Nat} : kle L [a] [b] ↔ (L.w a * L.h a < L.w b * L.h b ∨ (L.w a * L.h a = L.w b * L.h b ∧ a ≤ b)) := by
  have e1 : cde [a] = a := by show a * 64 ^ 0 + 0 = a; omega
  have e2 : cde [b] = b := by show b * 64 ^ 0 + 0 = b; omega
  have e3 : cst L [a] = L.w a * L.h a * 16 + 1 := rfl
  have e4 : cst L [b] = L.w b * L.h b * 16 + 1 := rfl
  unfold kle
  rw [e1, e2, e3, e4]
  omega
def mnS (L : Lv) (P : Nat → Bool) (s : Nat) (x : Int32) : Prop := (x = -1 ∧ ∀ j, j < s → P j = false) ∨ (∃ k, k < s ∧ P k = true ∧ x = nI k ∧ ∀ j, j < s → P j = true → kle L [k] [j])
theorem mnS_no {L : Lv} {P : Nat → Bool} {s : Nat} {x : Int32} (h : mnS L P s x) (hs : P s = false) : mnS L P (s + 1) x := by
  rcases h with ⟨h1, h2⟩ | ⟨k, h1, h2, h3, h4⟩
  · refine Or.inl ⟨h1, fun j hj => ?_⟩
    by_cases e : j = s
    · rw [e]; exact hs
    · exact h2 j (by omega)
  · refine Or.inr ⟨k, by omega, h2, h3, fun j hj hp => ?_⟩
    by_cases e : j = s
    · rw [e, hs] at hp; cases hp
    · exact h4 j (by omega) hp
theorem mnS_yes {L : Lv} {P : Nat → Bool} {s : Nat} {x : Int32} (h : mnS L P s x) (hs : P s = true) (h40 : s < 40) : (x = -1 ∧ mnS L P (s + 1) (nI s)) ∨ (∃ k, k < s ∧ x = nI k ∧ ((L.w k * L.h k ≤ L.w s * L.h s ∧ mnS L P (s + 1) x) ∨ (L.w s * L.h s < L.w k * L.h k ∧ mnS L P (s + 1) (nI s)))) := by
  rcases h with ⟨h1, h2⟩ | ⟨k, h1, h2, h3, h4⟩
  · refine Or.inl ⟨h1, Or.inr ⟨s, by omega, hs, rfl, fun j hj hp => ?_⟩⟩
    by_cases e : j = s
    · rw [e]; exact kle_refl _ _
    · rw [h2 j (by omega)] at hp; cases hp
  · refine Or.inr ⟨k, h1, h3, ?_⟩
    by_cases c : L.w k * L.h k ≤ L.w s * L.h s
    · refine Or.inl ⟨c, Or.inr ⟨k, by omega, h2, h3, fun j hj hp => ?_⟩⟩
      by_cases e : j = s
      · rw [e]; exact kle1.mpr (by omega)
      · exact h4 j (by omega) hp
    · refine Or.inr ⟨by omega, Or.inr ⟨s, by omega, hs, rfl, fun j hj hp => ?_⟩⟩
      by_cases e : j = s
      · rw [e]; exact kle_refl _ _
      · exact kle_trans (kle1.mpr (by omega)) (h4 j (by omega) hp)
theorem m_bo8 {N : Nat} {L : Lv} (hL : LOk L) {T : Tv} {t : Nat} {τ : St} (ms : MS τ L t T) (hk : T.kd ≠ 0) : ∀ (k fuel s : Nat) (x : Int32), L.n - s = k → k < fuel → s ≤ L.n → mnS L (kdB L T) s x → ∃ x', f_X12_bestOf_8 N fuel (nI t) x (nI s) τ = f_X12_bestOf_64 N (nI t) x' τ ∧ mnS L (kdB L T) L.n x' := by
  have h40 := hL.1
  obtain ⟨nm, tm, lm⟩ := ms
  have t40 := tm.1
  have e3 : τ.1 3 0 = nI L.n := lm.1
  intro k
  induction k with
  | zero =>
    intro fuel s x hk hf hs h
    obtain ⟨fuel, rfl⟩ : ∃ f, fuel = f + 1 := ⟨fuel - 1, by omega⟩
    have e : s = L.n := by omega
    subst e
    refine ⟨x, ?_, h⟩
    rw [f_X12_bestOf_8, show ib 0 2 = true from rfl, grd_true, e3, if_pos (nI_le (by omega) (by omega))]
  | succ k ih =>
    intro fuel s x hk' hf hs h
    obtain ⟨fuel, rfl⟩ : ∃ f, fuel = f + 1 := ⟨fuel - 1, by omega⟩
    have hs' : s < L.n := by omega
    have nx := ih fuel (s + 1)
    rw [f_X12_bestOf_8, show ib 0 2 = true from rfl, grd_true, e3, if_neg (nI_ge (by omega) (by omega)), ib_n (a := t) (by omega), decide_eq_true t40, grd_true, ncl (by omega), tm.2.2.2.2, if_neg (fun q => hk (lg_cmp0.mp q)), m_isKind nm tm hL hs', bo_some, nI_1]
    cases hb : kdB L T s with
    | false =>
      rw [if_pos (show b2 false = 0 from rfl)]
      exact nx x (by omega) (by omega) (by omega) (mnS_no h hb)
    | true =>
      rw [if_neg (show ¬ b2 true = 0 by decide)]
      rcases mnS_yes h hb (by omega) with ⟨h1, h2⟩ | ⟨k0, h1, h2, h3⟩
      · rw [if_pos h1]
        exact nx _ (by omega) (by omega) (by omega) h2
      · have b1 := (paint_lt hL hs').2
        have b3 := (paint_lt hL (show k0 < L.n by omega)).2
        rw [h2, if_neg (nneg k0 (by omega)), m_paint hL lm hs', bo_some, m_paint hL lm (show k0 < L.n by omega), bo_some]
        rcases h3 with ⟨h3, h4⟩ | ⟨h3, h4⟩
        · rw [if_pos (nI_le h3 (by omega)), ← h2]
          exact nx _ (by omega) (by omega) (by omega) h4
        · rw [if_neg (nI_ge h3 (by omega))]
          exact nx _ (by omega) (by omega) (by omega) h4
theorem m_bo299 {N : Nat} {L : Lv} (hL : LOk L) {T : Tv} {t : Nat} {τ : St} (ms : MS τ L t T) (x2 : Int32) : ∀ (k fuel s : Nat) (x : Int32), L.n - s = k → k < fuel → s ≤ L.n → mnS L (idB L T) s x → ∃ x', f_X12_bestOf_299 N fuel (nI t) x2 x (nI s) τ = (if x' = -1 then grd (ib 0 9) (if τ.1 40 0 < 1000000000 then f_X12_bestOf_367 N (nI t) x2 x' τ else some (-1, τ)) else f_X12_bestOf_367 N (nI t) x2 x' τ) ∧ mnS L (idB L T) L.n x' := by
  have h40 := hL.1
  obtain ⟨nm, tm, lm⟩ := ms
  have t40 := tm.1
  have e3 : τ.1 3 0 = nI L.n := lm.1
  intro k
  induction k with
  | zero =>
    intro fuel s x hk hf hs h
    obtain ⟨fuel, rfl⟩ : ∃ f, fuel = f + 1 := ⟨fuel - 1, by omega⟩
    have e : s = L.n := by omega
    subst e
    refine ⟨x, ?_, h⟩
    rw [f_X12_bestOf_299, show ib 0 2 = true from rfl, grd_true, e3, if_pos (nI_le (by omega) (by omega))]
  | succ k ih =>
    intro fuel s x hk' hf hs h
    obtain ⟨fuel, rfl⟩ : ∃ f, fuel = f + 1 := ⟨fuel - 1, by omega⟩
    have hs' : s < L.n := by omega
    have nx := ih fuel (s + 1)
    rw [f_X12_bestOf_299, show ib 0 2 = true from rfl, grd_true, e3, if_neg (nI_ge (by omega) (by omega)), m_isIdea nm tm hL hs', bo_some, nI_1]
    cases hb : idB L T s with
    | false =>
      rw [if_pos (show b2 false = 0 from rfl)]
      exact nx x (by omega) (by omega) (by omega) (mnS_no h hb)
    | true =>
      rw [if_neg (show ¬ b2 true = 0 by decide)]
      rcases mnS_yes h hb (by omega) with ⟨h1, h2⟩ | ⟨k0, h1, h2, h3⟩
      · rw [if_pos h1]
        exact nx _ (by omega) (by omega) (by omega) h2
      · have b1 := (paint_lt hL hs').2
        have b3 := (paint_lt hL (show k0 < L.n by omega)).2
        rw [h2, if_neg (nneg k0 (by omega)), m_paint hL lm hs', bo_some, m_paint hL lm (show k0 < L.n by omega), bo_some]
        rcases h3 with ⟨h3, h4⟩ | ⟨h3, h4⟩
        · rw [if_pos (nI_le h3 (by omega)), ← h2]
          exact nx _ (by omega) (by omega) (by omega) h4
        · rw [if_neg (nI_ge h3 (by omega))]
          exact nx _ (by omega) (by omega) (by omega) h4
