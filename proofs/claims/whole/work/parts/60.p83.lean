/-! fill, the class: a trial is kept -/
def SlX (σ : St) (t : Nat) (L : Lv) (P : List (List Nat)) : Prop := σ.1 10213 0 = nI (t * 13) ∧ ∀ b, b < 13 → SlotP σ (t * 13 + b) L (fun l => l ∈ P ∧ Bk L l b)
def PSl (t a j : Nat) : Prop := (a = 51 ∨ a = 52) ∧ t * 13 ≤ j ∧ j < t * 13 + 13
theorem SlotP_keep {σ : St} {q b : Nat} {L : Lv} {P : List (List Nat)} {l : List Nat} (h : SlotP σ q L (fun x => x ∈ P ∧ Bk L x b)) (hl : Bk L l b → ∃ l0, (l0 ∈ P ∧ Bk L l0 b) ∧ kle L l0 l) : SlotP σ q L (fun x => x ∈ P ++ [l] ∧ Bk L x b) := by
  rcases h with ⟨h1, h2⟩ | ⟨l0, h1, h2, h4, h5, h7⟩
  · refine Or.inl ⟨h1, fun x hx => ?_⟩
    rcases List.mem_append.mp hx.1 with q | q
    · exact h2 x ⟨q, hx.2⟩
    · have e := List.mem_singleton.mp q
      rw [e] at hx
      obtain ⟨l0, k, _⟩ := hl hx.2
      exact h2 l0 k
  · refine Or.inr ⟨l0, ⟨List.mem_append.mpr (Or.inl h1.1), h1.2⟩, h2, h4, h5, fun x hx => ?_⟩
    rcases List.mem_append.mp hx.1 with q | q
    · exact h7 x ⟨q, hx.2⟩
    · have e := List.mem_singleton.mp q
      rw [e] at hx ⊢
      obtain ⟨l1, k1, k2⟩ := hl hx.2
      exact kle_trans (h7 l1 k1) k2
theorem x_keep {L : Lv} (hL : LOk L) {σ : St} {t : Nat} (ht : t < 40) {l : List Nat} (g : GL L l) (tr : TrX L σ l) {P : List (List Nat)} (sl0 : SlX σ t L P) : ok (f_X2_keepTrial (nI l.length) σ) (fun σ' => SlX σ' t L (P ++ [l]) ∧ FrP (PSl t) σ σ') := by
  have h10 := g.1
  obtain ⟨h1, h2, h3⟩ := tr.2 l.length (Nat.le_refl _)
  rw [List.take_length] at h1 h2
  have c1 := GL_cst hL g
  have c2 := GL_cde hL g
  obtain ⟨k1, k2⟩ := sl0
  unfold f_X2_keepTrial
  rw [ib_n (a := l.length) (by omega), decide_eq_true (show l.length < 13 by omega), ncl (a := l.length) (by omega), h1, h2, k1]
  simp only [grd_true]
  rcases h3 with ⟨a1, a2⟩ | ⟨v, a1, a2, a3⟩
  · rw [a1, if_neg (show ¬ nI 1000 < (13 : Int32) by decide), ok_some]
    exact ⟨⟨k1, fun b hb => SlotP_keep (k2 b hb) (fun h => absurd h.1 (a2 b))⟩, FrP.refl _ _⟩
  · have vn := hasG_le a2
    have bk : Bk L l v := ⟨a2, a3⟩
    have hv : v < 13 := by omega
    rw [a1, if_pos (show nI v < (13 : Int32) from nI_lt (b := 13) hv (by omega)), nadd, ib_n (a := t * 13 + v) (by omega), decide_eq_true (show t * 13 + v < 520 by omega), ncl (a := t * 13 + v) (by omega)]
    simp only [grd_true]
    have stay : (∃ l0, (l0 ∈ P ∧ Bk L l0 v) ∧ kle L l0 l) → SlX σ t L (P ++ [l]) := fun h => ⟨k1, fun b hb => SlotP_keep (k2 b hb) (fun q => by
      have e := Bk_uni q bk
      subst e; exact h)⟩
    have wr : (∀ x, x ∈ P ∧ Bk L x v → kle L l x) → ok (f_X2_keepTrial_67 (nI l.length) (nI (t * 13 + v)) (nI (cst L l)) σ) (fun σ' => SlX σ' t L (P ++ [l]) ∧ FrP (PSl t) σ σ') := by
      intro h
      unfold f_X2_keepTrial_67
      rw [ib_n (a := l.length) (by omega), decide_eq_true (show l.length < 13 by omega), ncl (a := l.length) (by omega), ib_n (a := t * 13 + v) (by omega), decide_eq_true (show t * 13 + v < 520 by omega), ncl (a := t * 13 + v) (by omega), h2]
      simp only [grd_true]
      rw [ok_some]
      have w1 : ∀ j, (sl (si σ 51 (t * 13 + v) (nI (cst L l))) 52 (t * 13 + v) (lN (cde l))).1 51 j = if j = t * 13 + v then nI (cst L l) else σ.1 51 j := fun j => by rw [sl_1, si_rd, if_pos rfl]
      have w2 : ∀ j, (sl (si σ 51 (t * 13 + v) (nI (cst L l))) 52 (t * 13 + v) (lN (cde l))).2 52 j = if j = t * 13 + v then lN (cde l) else σ.2 52 j := fun j => by rw [sl_rd, if_pos rfl, si_2]
      refine ⟨⟨by rw [sl_1, si_rd, if_neg (by decide)]; exact k1, fun b hb => ?_⟩, ((FrP.refl _ _).si _ _ _ ⟨Or.inl rfl, by omega, by omega⟩).sl _ _ _ ⟨Or.inr rfl, by omega, by omega⟩⟩
      by_cases e : b = v
      · subst e
        refine Or.inr ⟨l, ⟨List.mem_append.mpr (Or.inr (List.mem_singleton.mpr rfl)), bk⟩, g, by rw [w1, if_pos rfl], by rw [w2, if_pos rfl], fun x hx => ?_⟩
        rcases List.mem_append.mp hx.1 with q | q
        · exact h x ⟨q, hx.2⟩
        · rw [List.mem_singleton.mp q]; exact kle_refl _ _
      · exact SlotP_keep ((k2 b hb).eq (by rw [w1, if_neg (by omega)]) (by rw [w2, if_neg (by omega)])) (fun h => absurd (Bk_uni h bk) e)
    rcases k2 v hv with ⟨b1, b2'⟩ | ⟨l0, b1, b2', b3, b4, b5⟩
    · rw [b1, if_pos (show nI (cst L l) < (2147483647 : Int32) from nI_lt (b := 2147483647) (by omega) (by omega))]
      exact wr (fun x hx => absurd hx (b2' x))
    · have d1 := GL_cst hL b2'
      have d2 := GL_cde hL b2'
      rw [b3, b4]
      by_cases q1 : cst L l < cst L l0
      · rw [if_pos (nI_lt q1 (by omega))]
        exact wr (fun x hx => kle_trans (Or.inl q1) (b5 x hx))
      · rw [if_neg (nI_nlt (by omega) (by omega))]
        by_cases q2 : cst L l = cst L l0
        · rw [if_pos (show nI (cst L l) = nI (cst L l0) by rw [q2])]
          by_cases q3 : cde l0 ≤ cde l
          · rw [if_pos ((lcmp_ge (by omega) (by omega)).mpr q3), ok_some]
            exact ⟨stay ⟨l0, b1, Or.inr ⟨q2.symm, q3⟩⟩, FrP.refl _ _⟩
          · rw [if_neg (fun h => q3 ((lcmp_ge (by omega) (by omega)).mp h))]
            exact wr (fun x hx => kle_trans (Or.inr ⟨q2, by omega⟩) (b5 x hx))
        · rw [if_neg (fun h => q2 ((neq (by omega) (by omega)).mp h)), ok_some]
          exact ⟨stay ⟨l0, b1, Or.inl (by omega)⟩, FrP.refl _ _⟩
def PTX (t n a j : Nat) : Prop := PT n a j ∨ PSl t a j
abbrev VX : List Nat := [55, 53, 54, 56, 51, 52]
theorem PTX_V {t n a j : Nat} (h : PTX t n a j) : VX.contains a = true := by
  rcases h with (⟨h, _⟩ | ⟨h | h | h, _⟩) | ⟨h | h, _⟩ <;> (rw [h]; rfl)
theorem SlX.fr {σ σ' : St} {t : Nat} {L : Lv} {P : List (List Nat)} (h : SlX σ t L P) (e : ∀ a j, a = 51 ∨ a = 52 ∨ a = 10213 → σ'.1 a j = σ.1 a j ∧ σ'.2 a j = σ.2 a j) : SlX σ' t L P :=
  ⟨by rw [(e 10213 0 (by decide)).1]; exact h.1, fun b hb => (h.2 b hb).eq (e 51 _ (by decide)).1 (e 52 _ (by decide)).2⟩
theorem PT_sl {n a j : Nat} (h : a = 51 ∨ a = 52 ∨ a = 10213) : ¬ PT n a j := fun q => by
  rcases q with ⟨q, _⟩ | ⟨q | q | q, _⟩ <;> rcases h with h | h | h <;> (rw [h] at q; cases q)
theorem PSl_tr {t n a j : Nat} (q : PSl t a j) (h : a = 55 ∨ a = 53 ∨ a = 54 ∨ a = 56) : PT n a j := by
  rcases q with ⟨q | q, _⟩ <;> rcases h with h | h | h | h <;> (rw [h] at q; cases q)
theorem TrX.frX {L : Lv} {σ σ' : St} {t : Nat} {l : List Nat} (h : TrX L σ l) (f : FrP (PTX t l.length) σ σ') : TrX L σ' l := by
  have key : ∀ a j, a = 55 ∨ a = 53 ∨ a = 54 ∨ a = 56 → ¬ PT l.length a j → σ'.1 a j = σ.1 a j ∧ σ'.2 a j = σ.2 a j := fun a j h1 h2 => f a j (fun q => q.elim h2 (fun q => h2 (PSl_tr q h1)))
  have n55 : ∀ j, j < l.length → ¬ PT l.length 55 j := fun j hj q => by
    rcases q with ⟨_, q⟩ | ⟨q | q | q, _⟩
    · omega
    · cases q
    · cases q
    · cases q
  have n3 : ∀ a j, a ≠ 55 → j ≤ l.length → ¬ PT l.length a j := fun a j ha hj q => by
    rcases q with ⟨q, _⟩ | ⟨_, q⟩
    · exact ha q
    · omega
  refine ⟨fun j hj => by rw [(key 55 j (by decide) (n55 j hj)).1]; exact h.1 j hj, fun j hj => ?_⟩
  obtain ⟨h1, h2, h3⟩ := h.2 j hj
  refine ⟨by rw [(key 53 j (by decide) (n3 53 j (by decide) hj)).1]; exact h1, by rw [(key 54 j (by decide) (n3 54 j (by decide) hj)).2]; exact h2, ?_⟩
  unfold FwX at h3 ⊢
  rw [(key 56 j (by decide) (n3 56 j (by decide) hj)).1]; exact h3
theorem x_tryBody {N : Nat} (hN : 802 < N) {L : Lv} (hL : LOk L) {T : Tv} {t : Nat} (ht : t < 40) {l : List Nat} (hl8 : l.length ≤ 8) (hle : ∀ s, s ∈ l → s < L.n) {σ0 : St} (sx0 : SPX σ0 1 L T) (tr0 : TrX L σ0 l) {P : List (List Nat)} (sl0 : SlX σ0 t L P) : ok (f_X2_tryBody N (nI l.length) σ0) (fun σ' => SlX σ' t L (P ++ kds L T l) ∧ SPX σ' 1 L T ∧ FrP (PTX t l.length) σ0 σ') := by
  have h40 := hL.1
  unfold f_X2_tryBody
  rw [x_hasKind sx0]
  by_cases hk0 : T.kd = 0
  · rw [if_pos (by rw [decide_eq_false (show ¬ T.kd ≠ 0 from fun h => h hk0)]; rfl)]
    refine ok_bo_of (x_keep hL ht ⟨by omega, hle⟩ tr0 sl0) (fun σ' ⟨y1, y2⟩ => ?_)
    rw [ok_some]
    have f : FrP (PTX t l.length) σ0 σ' := y2.wide (fun a j h => Or.inr h)
    unfold kds
    rw [if_pos hk0]
    exact ⟨y1, SPX_fr sx0 (f.toFr (V := VX) (fun a j h => PTX_V h)) rfl, f⟩
  · rw [if_neg (by rw [decide_eq_true (show T.kd ≠ 0 from hk0)]; decide)]
    have key : ∀ (k fuel s : Nat) (σ : St), L.n - s = k → k < fuel → s ≤ L.n → SPX σ 1 L T → SlX σ t L (P ++ kdn L T l s) → FrP (PTX t l.length) σ0 σ → ok (f_X2_tryBody_18 N fuel (nI l.length) (nI s) σ) (fun σ' => SlX σ' t L (P ++ kds L T l) ∧ SPX σ' 1 L T ∧ FrP (PTX t l.length) σ0 σ') := by
      intro k
      induction k with
      | zero =>
        intro fuel s σ hk hf hs sx sl f
        obtain ⟨fuel, rfl⟩ : ∃ f, fuel = f + 1 := ⟨fuel - 1, by omega⟩
        have e : s = L.n := by omega
        subst e
        have e0 : σ.1 1200 0 = nI L.n := sx.2.2.1.1
        rw [f_X2_tryBody_18, e0, if_pos (nI_le (by omega) (by omega)), ok_some]
        have ek : kdn L T l L.n = kds L T l := by unfold kdn kds; rw [if_neg hk0, if_neg hk0]
        rw [ek] at sl
        exact ⟨sl, sx, f⟩
      | succ k ih =>
        intro fuel s σ hk hf hs sx sl f
        obtain ⟨fuel, rfl⟩ : ∃ f, fuel = f + 1 := ⟨fuel - 1, by omega⟩
        have hs' : s < L.n := by omega
        have e0 : σ.1 1200 0 = nI L.n := sx.2.2.1.1
        rw [f_X2_tryBody_18, e0, if_neg (nI_ge (by omega) (by omega)), if_neg (show ¬ (12 : Int32) ≤ nI l.length from nI_ge (b := 12) (by omega) (by omega)), x_isOfKind sx hL hs', bo_some, nI_1, nI_1]
        cases hb : kdB L T s with
        | false =>
          rw [if_pos (show b2 false = 0 from rfl)]
          refine ih fuel (s + 1) σ (by omega) (by omega) (by omega) sx ?_ f
          have : kdn L T l (s + 1) = kdn L T l s := by
            unfold kdn
            rw [if_neg hk0, if_neg hk0, List.range_succ, List.filter_append, List.filter_cons_of_neg (by rw [hb]; decide), List.filter_nil, List.append_nil]
          rw [this]; exact sl
        | true =>
          rw [if_neg (show ¬ b2 true = 0 by decide)]
          refine ok_bo_of (x_putTrial hN hL sx.2.2.1 hl8 hle (tr0.frX f) hs') (fun σ1 ⟨y1, y2⟩ => ?_)
          have el : (l ++ [s]).length = l.length + 1 := by rw [List.length_append, List.length_singleton]
          have kp := x_keep hL ht (l := l ++ [s]) ⟨by omega, GL_app hle (fun x hx => by rw [List.mem_singleton.mp hx]; exact hs')⟩ y1 (sl.fr (fun a j h => y2 a j (PT_sl h)))
          rw [el] at kp
          refine ok_bo_of kp (fun σ2 ⟨z1, z2⟩ => ?_)
          have f2 : FrP (PTX t l.length) σ σ2 := (y2.wide (fun a j h => Or.inl h)).trans (z2.wide (fun a j h => Or.inr h))
          refine ih fuel (s + 1) σ2 (by omega) (by omega) (by omega) (SPX_fr sx (f2.toFr (V := VX) (fun a j h => PTX_V h)) rfl) ?_ (f.trans f2)
          have : kdn L T l (s + 1) = kdn L T l s ++ [l ++ [s]] := by
            unfold kdn
            rw [if_neg hk0, if_neg hk0, List.range_succ, List.filter_append, List.filter_cons_of_pos hb, List.filter_nil, List.map_append]; rfl
          rw [this, ← List.append_assoc]; exact z1
    exact key L.n N 0 σ0 (by omega) (by omega) (by omega) sx0 (by
      have : kdn L T l 0 = [] := by unfold kdn; rw [if_neg hk0]; rfl
      rw [this, List.append_nil]; exact sl0) (FrP.refl _ _)
