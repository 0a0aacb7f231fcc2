/-! best, the class: the table of places -/
def TP (L : Lv) (T : Tv) (p s q : Nat) (l : List Nat) : Prop := (l = [] ∧ q = 0) ∨ ∃ l' s' m, l = l' ++ [s'] ∧ til L T m l' 0 ∧ s' < L.n ∧ atB L T s' m = true ∧ q = m + L.c s' ∧ (m < p ∨ (m = p ∧ s' < s))
theorem nil_snoc {a : List Nat} {s : Nat} : ¬ ([] : List Nat) = a ++ [s] := fun h => by
  have := congrArg List.length h
  rw [List.length_append, List.length_singleton] at this
  simp at this
theorem snoc_inj {a b : List Nat} {s t : Nat} (h : a ++ [s] = b ++ [t]) : a = b ∧ s = t := by
  have h1 := List.append_inj' h rfl
  exact ⟨h1.1, by simpa using h1.2⟩
theorem TP_all {L : Lv} {T : Tv} (hL : LOk L) {p s q : Nat} (h : q ≤ p) (l : List Nat) : TP L T p s q l ↔ til L T q l 0 := by
  constructor
  · rintro (⟨h1, h2⟩ | ⟨l', s', m, h1, h2, h3, h4, h5, h6⟩)
    · subst h1; subst h2; rfl
    · subst h1; exact til_snoc.mpr ⟨m, h2, h3, h4, h5⟩
  · intro h1
    rcases List.eq_nil_or_concat l with e | ⟨l', s', e⟩
    · subst e
      have e2 : 0 = q := h1
      exact Or.inl ⟨rfl, e2.symm⟩
    · rw [List.concat_eq_append] at e
      rw [e] at h1 ⊢
      obtain ⟨m, a1, a2, a3, a4⟩ := til_snoc.mp h1
      have := atB_c hL a2 a3
      exact Or.inr ⟨l', s', m, rfl, a1, a2, a3, a4, Or.inl (by omega)⟩
theorem TP_next {L : Lv} {T : Tv} {p q : Nat} (l : List Nat) : TP L T p L.n q l ↔ TP L T (p + 1) 0 q l := by
  unfold TP
  constructor
  · rintro (h | ⟨l', s', m, h1, h2, h3, h4, h5, h6⟩)
    · exact Or.inl h
    · exact Or.inr ⟨l', s', m, h1, h2, h3, h4, h5, by omega⟩
  · rintro (h | ⟨l', s', m, h1, h2, h3, h4, h5, h6⟩)
    · exact Or.inl h
    · exact Or.inr ⟨l', s', m, h1, h2, h3, h4, h5, by omega⟩
theorem TP_no {L : Lv} {T : Tv} {p s q : Nat} (h : ¬ (atB L T s p = true ∧ q = p + L.c s)) (l : List Nat) : TP L T p s q l ↔ TP L T p (s + 1) q l := by
  unfold TP
  constructor
  · rintro (h | ⟨l', s', m, h1, h2, h3, h4, h5, h6⟩)
    · exact Or.inl h
    · exact Or.inr ⟨l', s', m, h1, h2, h3, h4, h5, by omega⟩
  · rintro (h | ⟨l', s', m, h1, h2, h3, h4, h5, h6⟩)
    · exact Or.inl h
    · refine Or.inr ⟨l', s', m, h1, h2, h3, h4, h5, ?_⟩
      rcases h6 with h6 | ⟨h6, h7⟩
      · exact Or.inl h6
      · refine Or.inr ⟨h6, ?_⟩
        by_cases e : s' = s
        · subst e; subst h6; exact absurd ⟨h4, h5⟩ h
        · omega
theorem TP_yes {L : Lv} {T : Tv} {p s : Nat} (hs : s < L.n) (h : atB L T s p = true) (l : List Nat) : (TP L T p s (p + L.c s) l ∨ ∃ l', til L T p l' 0 ∧ l = l' ++ [s]) ↔ TP L T p (s + 1) (p + L.c s) l := by
  constructor
  · rintro ((h1 | ⟨l', s', m, h1, h2, h3, h4, h5, h6⟩) | ⟨l', h1, h2⟩)
    · exact Or.inl h1
    · exact Or.inr ⟨l', s', m, h1, h2, h3, h4, h5, by omega⟩
    · exact Or.inr ⟨l', s, p, h2, h1, hs, h, rfl, Or.inr ⟨rfl, by omega⟩⟩
  · rintro (h1 | ⟨l', s', m, h1, h2, h3, h4, h5, h6⟩)
    · exact Or.inl (Or.inl h1)
    · by_cases e : m = p ∧ s' = s
      · obtain ⟨e1, e2⟩ := e
        subst e1; subst e2
        exact Or.inr ⟨l', h2, h1⟩
      · exact Or.inl (Or.inr ⟨l', s', m, h1, h2, h3, h4, h5, by omega⟩)
def Tab (L : Lv) (T : Tv) (σ : St) (p s : Nat) : Prop := ∀ q, q < 13 → Mn L σ q (TP L T p s q)
theorem SPX_fr {σ σ' : St} {L : Lv} {T : Tv} {V : List Nat} (h : SPX σ 1 L T) (f : Fr V σ σ') (hv : ([8601, 8602, 8603, 8604, 8605, 8606, 1200, 3, 4, 5, 6, 7, 8, 9, 10, 1400, 11, 12, 13, 14, 15, 16, 17, 18] : List Nat).all (fun a => !V.contains a) = true) : SPX σ' 1 L T := by
  obtain ⟨a1, a2, a3, a4, a5, a6, a7, a8⟩ := h
  have e := f.at hv
  have g : ([1200, 3, 4, 5, 6, 7, 8, 9, 10, 1400, 11, 12, 13, 14, 15, 16, 17, 18] : List Nat).all (fun a => !V.contains a) = true := by
    rw [List.all_eq_true] at hv ⊢
    intro x hx
    exact hv x (List.mem_append_right [8601, 8602, 8603, 8604, 8605, 8606] hx)
  refine ⟨a1, ?_, LX_fr a1 a3 f g, ?_, ?_, ?_, ?_, ?_⟩
  · rw [(e 8601 (by decide)).1]; exact a2
  · rw [(e 8602 (by decide)).1]; exact a4
  · rw [(e 8603 (by decide)).2]; exact a5
  · rw [(e 8604 (by decide)).2]; exact a6
  · rw [(e 8605 (by decide)).1]; exact a7
  · rw [(e 8606 (by decide)).1]; exact a8
theorem x_coverFrom_2 {N : Nat} {L : Lv} (hL : LOk L) {T : Tv} (hT : TvOk T) {p : Nat} (hp : p < T.n) {σ0 : St} : ∀ (k fuel s : Nat) (σ : St), L.n - s = k → k < fuel → s ≤ L.n → SPX σ 1 L T → Tab L T σ p s → Fr [53, 54] σ0 σ → ok (f_X2_coverFrom_2 N fuel (nI p) (nI s) σ) (fun σ' => SPX σ' 1 L T ∧ Tab L T σ' (p + 1) 0 ∧ Fr [53, 54] σ0 σ') := by
  have h40 := hL.1
  have h8 := hT.2.1
  intro k
  induction k with
  | zero =>
    intro fuel s σ hk hf hs sx tb f
    obtain ⟨fuel, rfl⟩ : ∃ f, fuel = f + 1 := ⟨fuel - 1, by omega⟩
    have e : s = L.n := by omega
    subst e
    have e0 : σ.1 1200 0 = nI L.n := sx.2.2.1.1
    rw [f_X2_coverFrom_2, e0, if_pos (nI_le (by omega) (by omega)), ok_some]
    exact ⟨sx, fun q hq => (tb q hq).iff TP_next, f⟩
  | succ k ih =>
    intro fuel s σ hk hf hs sx tb f
    obtain ⟨fuel, rfl⟩ : ∃ f, fuel = f + 1 := ⟨fuel - 1, by omega⟩
    have hs' : s < L.n := by omega
    have e0 : σ.1 1200 0 = nI L.n := sx.2.2.1.1
    have e7 : σ.1 7 s = nI (L.c s) := (sx.2.2.1.2.1 s hs').2.2.2.2.1
    rw [f_X2_coverFrom_2, e0, if_neg (nI_ge (by omega) (by omega)), x_covers sx hL hT hs' (by omega), bo_some, nI_1]
    cases hb : atB L T s p with
    | false =>
      rw [if_pos (show b2 false = 0 from rfl)]
      exact ih fuel (s + 1) σ (by omega) (by omega) (by omega) sx (fun q hq => (tb q hq).iff (TP_no (fun h => by rw [hb] at h; exact absurd h.1 (by decide)))) f
    | true =>
      have hc := atB_c hL hs' hb
      rw [if_neg (show ¬ b2 true = 0 by decide), ib_n (by omega), decide_eq_true (show s < 40 by omega), grd_true, ncl (by omega), e7, nadd]
      refine ok_bo_of (x_impBy hL sx.2.2.1 hs' (show p < 13 by omega) (show p + L.c s < 13 by omega) ((tb p (by omega)).iff (TP_all hL (Nat.le_refl _))) (tb (p + L.c s) (by omega)) (fun l hl => by have := (til_len hL hl).1; omega)) (fun σ' ⟨m1, m2, f1⟩ => ?_)
      refine ih fuel (s + 1) σ' (by omega) (by omega) (by omega) (SPX_fr sx f1 rfl) (fun q hq => ?_) (f.trans f1)
      by_cases e : q = p + L.c s
      · subst e
        exact m1.iff (TP_yes hs' hb)
      · exact ((tb q hq).eq (m2 q e).1 (m2 q e).2).iff (TP_no (fun h => e h.2))
theorem x_fb55 {N : Nat} (hN : 802 < N) {L : Lv} (hL : LOk L) {T : Tv} (hT : TvOk T) {t : Int32} {σ0 : St} : ∀ (k fuel p : Nat) (σ : St), T.n - p = k → k < fuel → p ≤ T.n → SPX σ 1 L T → Tab L T σ p 0 → Fr [53, 54] σ0 σ → ∃ σ', f_X2_findBest_55 N fuel t (nI T.n) (nI p) σ = f_X2_findBest_73 N N t (nI T.n) 0 σ' ∧ SPX σ' 1 L T ∧ Tab L T σ' T.n 0 ∧ Fr [53, 54] σ0 σ' := by
  have h8 := hT.2.1
  have h40 := hL.1
  intro k
  induction k with
  | zero =>
    intro fuel p σ hk hf hp sx tb f
    obtain ⟨fuel, rfl⟩ : ∃ f, fuel = f + 1 := ⟨fuel - 1, by omega⟩
    have e : p = T.n := by omega
    subst e
    refine ⟨σ, ?_, sx, tb, f⟩
    rw [f_X2_findBest_55, if_pos (nI_le (by omega) (by omega))]
  | succ k ih =>
    intro fuel p σ hk hf hp sx tb f
    obtain ⟨fuel, rfl⟩ : ∃ f, fuel = f + 1 := ⟨fuel - 1, by omega⟩
    obtain ⟨σ1, e1, sx1, tb1, f1⟩ := x_coverFrom_2 (N := N) hL hT (show p < T.n by omega) L.n N 0 σ (by omega) (by omega) (by omega) sx tb (Fr.refl _ _)
    obtain ⟨σ2, e2, r⟩ := ih fuel (p + 1) σ1 (by omega) (by omega) (by omega) sx1 tb1 (f.trans f1)
    refine ⟨σ2, ?_, r⟩
    rw [f_X2_findBest_55, if_neg (nI_ge (by omega) (by omega))]
    unfold f_X2_coverFrom
    rw [show (0 : Int32) = nI 0 from rfl, e1, bo_some, nI_1, e2]
    rfl
