theorem x_endsOfKind {N r rn : Nat} (hN : 802 < N) {σ : St} {o : Nat} {L : Lv} {T : Tv} (h : SPX σ o L T) (hL : LOk L) {g : Nat → Nat} {len D : Nat} (hlen : len ≤ 24) (hrn : len ≤ rn) (hrn2 : rn < 1000) (hg : RowX σ r L.n len g) (hD : D < 33554432) :
    ∃ E, f_X7_endsOfKind r rn N (nI len) (nI D) σ = some (nI E) ∧ E < 33554432 ∧ ∀ j, E.testBit j = true ↔ (2 ≤ j ∧ j ≤ len ∧ D.testBit (j - 1) = true ∧ kdB L T (g (j - 1)) = true) := by
  unfold f_X7_endsOfKind
  have h40 := hL.1
  have key : ∀ (k fuel i E : Nat), len - i = k → k < fuel → 1 ≤ i → E < 33554432 → (∀ j, E.testBit j = true ↔ (2 ≤ j ∧ j ≤ i ∧ j ≤ len ∧ D.testBit (j - 1) = true ∧ kdB L T (g (j - 1)) = true)) → i ≤ 24 → ∃ E', f_X7_endsOfKind_6 r rn N fuel (nI len) (nI D) (nI E) (nI i) σ = some (nI E') ∧ E' < 33554432 ∧ ∀ j, E'.testBit j = true ↔ (2 ≤ j ∧ j ≤ len ∧ D.testBit (j - 1) = true ∧ kdB L T (g (j - 1)) = true) := by
    intro k
    induction k with
    | zero =>
      intro fuel i E hk hf hi hE hb hi24
      obtain ⟨fuel, rfl⟩ : ∃ f, fuel = f + 1 := ⟨fuel - 1, by omega⟩
      rw [f_X7_endsOfKind_6, if_pos (nI_le (by omega) (by omega))]
      refine ⟨E, rfl, hE, fun j => ?_⟩
      rw [hb j]
      exact ⟨fun q => ⟨q.1, q.2.2.1, q.2.2.2⟩, fun q => ⟨q.1, by omega, q.2.1, q.2.2⟩⟩
    | succ k ih =>
      intro fuel i E hk hf hi hE hb hi24
      obtain ⟨fuel, rfl⟩ : ∃ f, fuel = f + 1 := ⟨fuel - 1, by omega⟩
      rw [f_X7_endsOfKind_6, if_neg (nI_ge (by omega) (by omega)), show (1 : Int32) = nI 1 from rfl, nbit (by omega) (by omega), nadd]
      obtain ⟨hgs, hgr⟩ := hg i (by omega)
      have skip : ¬ (D.testBit i = true ∧ kdB L T (g i) = true) → ∃ E', f_X7_endsOfKind_6 r rn N fuel (nI len) (nI D) (nI E) (nI (i + 1)) σ = some (nI E') ∧ E' < 33554432 ∧ ∀ j, E'.testBit j = true ↔ (2 ≤ j ∧ j ≤ len ∧ D.testBit (j - 1) = true ∧ kdB L T (g (j - 1)) = true) := by
        intro hno
        refine ih fuel (i + 1) E (by omega) (by omega) (by omega) hE (fun j => ?_) (by omega)
        rw [hb j]
        constructor
        · rintro ⟨q1, q2, q3⟩; exact ⟨q1, by omega, q3⟩
        · rintro ⟨q1, q2, q3⟩
          refine ⟨q1, ?_, q3⟩
          by_cases ej : j = i + 1
          · subst ej
            rw [Nat.add_sub_cancel] at q3
            exact absurd q3.2 hno
          · omega
      by_cases hbit : D.testBit i = true
      · rw [if_pos hbit, if_pos rfl, ib_n (a := i) (by omega), decide_eq_true (show i < rn by omega), grd_true, ncl (a := i) (by omega), hgr, x_isOfKind h hL hgs, bo_some]
        cases hk2 : kdB L T (g i) with
        | false =>
          rw [if_pos ((b2_0 false).mpr rfl)]
          exact skip (fun q => by rw [hk2] at q; exact absurd q.2 (by decide))
        | true =>
          rw [if_neg (show ¬ b2 true = 0 by decide), nshl 1 (by omega), nor, Nat.one_shiftLeft]
          refine ih fuel (i + 1) _ (by omega) (by omega) (by omega) (orL_lt hE (by omega)) (fun j => ?_) (by omega)
          rw [or_bit, hb j]
          constructor
          · rintro (⟨q1, q2, q3⟩ | q)
            · exact ⟨q1, by omega, q3⟩
            · subst q; rw [Nat.add_sub_cancel]; exact ⟨by omega, by omega, by omega, hbit, hk2⟩
          · rintro ⟨q1, q2, q3⟩
            by_cases ej : j = i + 1
            · exact Or.inr ej
            · exact Or.inl ⟨q1, by omega, q3⟩
      · rw [if_neg hbit, if_neg (show ¬ nI 0 = nI 1 by decide)]
        exact skip (fun q => hbit q.1)
  exact key (len - 1) N 1 0 rfl (by omega) (by omega) (by omega) (fun j => by
    rw [Nat.zero_testBit]
    exact ⟨fun q => absurd q (by decide), fun q => by omega⟩) (by omega)
theorem x_endsFrom {N r rn : Nat} (hN : 802 < N) {σ : St} {o : Nat} {L : Lv} {T : Tv} (h : SPX σ o L T) (hL : LOk L) (hT : TvOk T) {g : Nat → Nat} {len a : Nat} (hlen : len ≤ 24) (hrn : len ≤ rn) (hrn2 : rn < 1000) (hg : RowX σ r L.n len g) (ha : a < len) :
    ∃ E, f_X7_endsFrom r rn N (nI len) (nI a) σ = some (nI E) ∧ E < 33554432 ∧ ∀ j, E.testBit j = true ↔ (a < j ∧ j ≤ len ∧ spB L T g a j = true) := by
  unfold f_X7_endsFrom
  obtain ⟨C, e1, hC, hb⟩ := x_coverEnds hN h hL hT hlen hrn hrn2 hg (Nat.le_of_lt ha)
  obtain ⟨hgs, hgr⟩ := hg a ha
  rw [e1, bo_some, if_neg (nI_ge ha (by omega)), ib_n (a := a) (by omega), decide_eq_true (show a < rn by omega), grd_true, ncl (a := a) (by omega), hgr, x_isIdea h hL hgs, bo_some]
  have last : ∀ D, D < 33554432 → (∀ j, D.testBit j = true ↔ (j ≤ len ∧ bdB L T g a j = true)) → ∃ E, f_X7_endsFrom_63 r rn N (nI len) (nI D) σ = some (nI E) ∧ E < 33554432 ∧ ∀ j, E.testBit j = true ↔ (a < j ∧ j ≤ len ∧ spB L T g a j = true) := by
    intro D hD hDb
    unfold f_X7_endsFrom_63
    rw [x_hasKind h]
    by_cases hk : T.kd = 0
    · rw [decide_eq_false (fun q => q hk), if_pos ((b2_0 false).mpr rfl)]
      refine ⟨D, rfl, hD, fun j => ?_⟩
      rw [hDb j]
      unfold spB
      rw [if_pos hk]
      constructor
      · intro q; exact ⟨(of_decide_eq_true q.2).1, q⟩
      · intro q; exact q.2
    · rw [decide_eq_true hk, if_neg (show ¬ b2 true = 0 by decide)]
      obtain ⟨E, e2, hE, hEb⟩ := x_endsOfKind hN h hL hlen hrn hrn2 hg hD
      rw [e2, bo_some]
      refine ⟨E, rfl, hE, fun j => ?_⟩
      rw [hEb j, hDb (j - 1)]
      unfold spB
      rw [if_neg hk, decide_eq_true_iff]
      constructor
      · rintro ⟨q1, q2, q3, q4⟩
        have := (of_decide_eq_true q3.2).1
        exact ⟨by omega, q2, by omega, q4, q3.2⟩
      · rintro ⟨q1, q2, q3, q4, q5⟩
        exact ⟨by omega, q2, ⟨by omega, q5⟩, q4⟩
  have hbd : ∀ j, bdB L T g a j = true ↔ (a < j ∧ ((j = a + 1 ∧ idB L T (g a) = true) ∨ (j = a + 2 ∧ idB L T (g a) = true ∧ tlB L T (g (a + 1)) = true) ∨ cvB L T g a j = true)) := fun j => decide_eq_true_iff
  cases hid : idB L T (g a) with
  | false =>
    rw [if_pos ((b2_0 false).mpr rfl)]
    refine last C hC (fun j => ?_)
    rw [hb j, hbd j, hid]
    constructor
    · rintro ⟨q1, q2, q3⟩; exact ⟨q2, q1, Or.inr (Or.inr q3)⟩
    · rintro ⟨q1, q2, q | q | q⟩
      · exact absurd q.2 (by decide)
      · exact absurd q.2.1 (by decide)
      · exact ⟨q2, q1, q⟩
  | true =>
    rw [if_neg (show ¬ b2 true = 0 by decide), nI_1, show (1 : Int32) = nI 1 from rfl, nshl 1 (by omega), nor, Nat.one_shiftLeft]
    by_cases h2 : len ≤ a + 1
    · rw [if_pos (nI_le h2 (by omega))]
      refine last _ (orL_lt hC (by omega)) (fun j => ?_)
      rw [or_bit, hb j, hbd j, hid]
      constructor
      · rintro (⟨q1, q2, q3⟩ | q)
        · exact ⟨q2, q1, Or.inr (Or.inr q3)⟩
        · exact ⟨by omega, by omega, Or.inl ⟨q, rfl⟩⟩
      · rintro ⟨q1, q2, q | q | q⟩
        · exact Or.inr q.1
        · omega
        · exact Or.inl ⟨q2, q1, q⟩
    · obtain ⟨hgs2, hgr2⟩ := hg (a + 1) (by omega)
      rw [if_neg (nI_ge (by omega) (by omega)), ib_n (a := a + 1) (by omega), decide_eq_true (show a + 1 < rn by omega), grd_true, ncl (a := a + 1) (by omega), hgr2, x_isTail h hL hT hgs2, bo_some]
      cases htl : tlB L T (g (a + 1)) with
      | false =>
        rw [if_pos ((b2_0 false).mpr rfl)]
        refine last _ (orL_lt hC (by omega)) (fun j => ?_)
        rw [or_bit, hb j, hbd j, hid, htl]
        constructor
        · rintro (⟨q1, q2, q3⟩ | q)
          · exact ⟨q2, q1, Or.inr (Or.inr q3)⟩
          · exact ⟨by omega, by omega, Or.inl ⟨q, rfl⟩⟩
        · rintro ⟨q1, q2, q | q | q⟩
          · exact Or.inr q.1
          · exact absurd q.2.2 (by decide)
          · exact Or.inl ⟨q2, q1, q⟩
      | true =>
        rw [if_neg (show ¬ b2 true = 0 by decide), show (2 : Int32) = nI 2 from rfl, nadd, nshl 1 (by omega), nor, Nat.one_shiftLeft]
        refine last _ (orL_lt (orL_lt hC (by omega)) (by omega)) (fun j => ?_)
        rw [or_bit, or_bit, hb j, hbd j, hid, htl]
        constructor
        · rintro ((⟨q1, q2, q3⟩ | q) | q)
          · exact ⟨q2, q1, Or.inr (Or.inr q3)⟩
          · exact ⟨by omega, by omega, Or.inl ⟨q, rfl⟩⟩
          · exact ⟨by omega, by omega, Or.inr (Or.inl ⟨q, rfl, rfl⟩)⟩
        · rintro ⟨q1, q2, q | q | q⟩
          · exact Or.inl (Or.inr q.1)
          · exact Or.inr q.1
          · exact Or.inl (Or.inl ⟨q2, q1, q⟩)
abbrev VS : List Nat := [8601, 8602, 8603, 8604, 8605, 8606]
theorem LX_fr {o : Nat} (ho : o = 1 ∨ o = 2) {σ σ' : St} {L : Lv} {V : List Nat} (h : LX o σ L) (f : Fr V σ σ') (hv : ([1200, 3, 4, 5, 6, 7, 8, 9, 10, 1400, 11, 12, 13, 14, 15, 16, 17, 18] : List Nat).all (fun a => !V.contains a) = true) : LX o σ' L := by
  rcases ho with rfl | rfl
  · exact LX1_fr h f (by
      rw [List.all_eq_true] at hv ⊢
      intro a ha; exact hv a (by simp at ha ⊢; omega))
  · exact LX2_fr h f (by
      rw [List.all_eq_true] at hv ⊢
      intro a ha; exact hv a (by simp at ha ⊢; omega))
theorem x_look {o : Nat} (ho : o = 1 ∨ o = 2) {σ : St} {L : Lv} {nt t : Nat} {T : Nat → Tv} (hx : LX o σ L) (hT : TX σ nt T) (h40 : nt ≤ 40) (ht : t < nt) : ok (f_X7_look o (nI t) σ) (fun σ' => SPX σ' o L (T t) ∧ Fr VS σ σ') := by
  unfold f_X7_look
  obtain ⟨a1, a2, a3, a4⟩ := hT.2 t ht
  rw [show ib 3 4 = true from rfl, ib_n (by omega), decide_eq_true (show t < 40 by omega), ncl (by omega), a1, a2, a3, a4]
  simp only [grd_true]
  rw [ok_some]
  have f1 : ∀ x, Fr VS σ (si (si (sl (sl (si (si σ 8601 0 (nI o)) 8602 0 x) 8603 0 (T t).nm) 8604 0 (T t).kd) 8605 0 (nI (sp (T t).d (T t).n))) 8606 0 (nI (T t).n)) := fun x => ((((((Fr.refl _ _).si _ _ _ rfl).si _ _ _ rfl).sl _ _ _ rfl).sl _ _ _ rfl).si _ _ _ rfl).si _ _ _ rfl
  refine ⟨⟨ho, ?_, LX_fr ho hx (f1 _) rfl, ?_, ?_, ?_, ?_, ?_⟩, f1 _⟩
  · simp only [si_rd, si_2, sl_rd, sl_1, reduceIte, Nat.reduceEqDiff]
  · simp only [si_rd, si_2, sl_rd, sl_1, reduceIte, Nat.reduceEqDiff]
    rw [if_neg (by rcases ho with rfl | rfl <;> decide)]
    exact hx.2.2.2.2.2
  · simp only [si_rd, si_2, sl_rd, sl_1, reduceIte, Nat.reduceEqDiff]
  · simp only [si_rd, si_2, sl_rd, sl_1, reduceIte, Nat.reduceEqDiff]
  · simp only [si_rd, si_2, sl_rd, sl_1, reduceIte, Nat.reduceEqDiff]
  · simp only [si_rd, si_2, sl_rd, sl_1, reduceIte, Nat.reduceEqDiff]
