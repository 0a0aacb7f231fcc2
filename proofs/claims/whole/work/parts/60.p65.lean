/-! best, the class: ideas, the kind, what is kept -/
def bdy (L : Lv) (T : Tv) (l : List Nat) : Prop := til L T T.n l 0 ∨ ∃ s, s < L.n ∧ idB L T s = true ∧ l = [s]
def IsB (L : Lv) (T : Tv) (l : List Nat) : Prop := (T.kd = 0 ∧ bdy L T l) ∨ (T.kd ≠ 0 ∧ ∃ b k, bdy L T b ∧ k < L.n ∧ kdB L T k = true ∧ l = b ++ [k])
theorem bdy_len {L : Lv} {T : Tv} (hL : LOk L) (hT : TvOk T) {l : List Nat} (h : bdy L T l) : l.length ≤ 8 ∧ ∀ s, s ∈ l → s < L.n := by
  have h8 := hT.2.1
  rcases h with h | ⟨s, h1, h2, h3⟩
  · have := til_len hL h
    exact ⟨by omega, this.2⟩
  · subst h3
    exact ⟨by rw [List.length_singleton]; omega, fun x hx => by rw [List.mem_singleton.mp hx]; exact h1⟩
theorem IsB_GL {L : Lv} {T : Tv} (hL : LOk L) (hT : TvOk T) {l : List Nat} (h : IsB L T l) : l.length ≤ 9 ∧ GL L l := by
  rcases h with ⟨_, h⟩ | ⟨_, b, k, h1, h2, h3, h4⟩
  · have := bdy_len hL hT h
    exact ⟨by omega, by omega, this.2⟩
  · have := bdy_len hL hT h1
    subst h4
    have e : (b ++ [k]).length = b.length + 1 := by rw [List.length_append, List.length_singleton]
    exact ⟨by omega, by omega, GL_app this.2 (fun x hx => by rw [List.mem_singleton.mp hx]; exact h2)⟩
def BestX (σ : St) (t : Nat) (L : Lv) (T : Tv) : Prop := (σ.1 49 t = 2147483647 ∧ ∀ l, ¬ IsB L T l) ∨ (∃ l, IsB L T l ∧ σ.1 49 t = nI (cst L l) ∧ σ.2 50 t = lN (cde l) ∧ ∀ l', IsB L T l' → kle L l l')
theorem x_fb165 {N : Nat} {L : Lv} {T : Tv} {t q : Nat} (ht : t < 40) (hq : q < 13) {σ : St} (h : Mn L σ q (IsB L T)) : ok (f_X2_findBest_165 N (nI t) (nI q) σ) (fun σ' => BestX σ' t L T ∧ (∀ j, j ≠ t → σ'.1 49 j = σ.1 49 j ∧ σ'.2 50 j = σ.2 50 j) ∧ Fr [49, 50] σ σ') := by
  unfold f_X2_findBest_165
  rw [ib_n (by omega), ib_n (by omega), decide_eq_true ht, decide_eq_true hq, ncl (by omega), ncl (by omega)]
  simp only [grd_true]
  rw [ok_some]
  have r1 : ∀ j, (sl (si σ 49 t (σ.1 53 q)) 50 t (σ.2 54 q)).1 49 j = if j = t then σ.1 53 q else σ.1 49 j := fun j => by rw [sl_1, si_rd, if_pos rfl]
  have r2 : ∀ j, (sl (si σ 49 t (σ.1 53 q)) 50 t (σ.2 54 q)).2 50 j = if j = t then σ.2 54 q else σ.2 50 j := fun j => by rw [sl_rd, if_pos rfl, si_2]
  refine ⟨?_, fun j hj => ⟨by rw [r1, if_neg hj], by rw [r2, if_neg hj]⟩, ((Fr.refl _ _).si _ _ _ rfl).sl _ _ _ rfl⟩
  unfold BestX
  rw [r1, r2, if_pos rfl, if_pos rfl]
  rcases h with h | ⟨l, a1, a2, a3, a4, a5⟩
  · exact Or.inl h
  · exact Or.inr ⟨l, a1, a3, a4, a5⟩
abbrev PostB (L : Lv) (T : Tv) (t : Nat) (σ0 : St) (σ' : St) : Prop := BestX σ' t L T ∧ (∀ j, j ≠ t → σ'.1 49 j = σ0.1 49 j ∧ σ'.2 50 j = σ0.2 50 j) ∧ Fr [53, 54, 49, 50] σ0 σ'
theorem x_fb125 {N : Nat} {L : Lv} (hL : LOk L) {T : Tv} (hT : TvOk T) (hk0 : T.kd ≠ 0) {t : Nat} (ht : t < 40) {σ0 : St} : ∀ (k fuel s : Nat) (σ : St), L.n - s = k → k < fuel → s ≤ L.n → SPX σ 1 L T → Mn L σ T.n (bdy L T) → Mn L σ (T.n + 1) (fun l => ∃ b k, bdy L T b ∧ k < s ∧ k < L.n ∧ kdB L T k = true ∧ l = b ++ [k]) → Fr [53, 54] σ0 σ → ok (f_X2_findBest_125 N fuel (nI t) (nI T.n) (nI s) σ) (PostB L T t σ0) := by
  have h40 := hL.1
  have h8 := hT.2.1
  intro k
  induction k with
  | zero =>
    intro fuel s σ hk hf hs sx m1 m2 f
    obtain ⟨fuel, rfl⟩ : ∃ f, fuel = f + 1 := ⟨fuel - 1, by omega⟩
    have e : s = L.n := by omega
    subst e
    have e0 : σ.1 1200 0 = nI L.n := sx.2.2.1.1
    rw [f_X2_findBest_125, e0, if_pos (nI_le (by omega) (by omega)), nI_1]
    refine (x_fb165 (L := L) (T := T) ht (show T.n + 1 < 13 by omega) (m2.iff (fun l => ?_))).mono (fun σ' ⟨y1, y2, y3⟩ => ⟨y1, fun j hj => ?_, (f.wide rfl).trans (y3.wide rfl)⟩)
    · constructor
      · rintro ⟨b, k, h1, h2, h3, h4, h5⟩; exact Or.inr ⟨hk0, b, k, h1, h3, h4, h5⟩
      · rintro (⟨h, _⟩ | ⟨_, b, k, h1, h2, h3, h4⟩)
        · exact absurd h hk0
        · exact ⟨b, k, h1, h2, h2, h3, h4⟩
    · rw [(y2 j hj).1, (y2 j hj).2, f.i 49 rfl, f.l 50 rfl]; exact ⟨rfl, rfl⟩
  | succ k ih =>
    intro fuel s σ hk hf hs sx m1 m2 f
    obtain ⟨fuel, rfl⟩ : ∃ f, fuel = f + 1 := ⟨fuel - 1, by omega⟩
    have hs' : s < L.n := by omega
    have e0 : σ.1 1200 0 = nI L.n := sx.2.2.1.1
    rw [f_X2_findBest_125, e0, if_neg (nI_ge (by omega) (by omega)), x_isOfKind sx hL hs', bo_some, nI_1, nI_1]
    cases hb : kdB L T s with
    | false =>
      rw [if_pos (show b2 false = 0 from rfl)]
      refine ih fuel (s + 1) σ (by omega) (by omega) (by omega) sx m1 (m2.iff (fun l => ?_)) f
      constructor
      · rintro ⟨b, k, h1, h2, h3⟩; exact ⟨b, k, h1, by omega, h3⟩
      · rintro ⟨b, k, h1, h2, h3, h4, h5⟩
        refine ⟨b, k, h1, ?_, h3, h4, h5⟩
        by_cases e : k = s
        · subst e; rw [hb] at h4; cases h4
        · omega
    | true =>
      rw [if_neg (show ¬ b2 true = 0 by decide)]
      refine ok_bo_of (x_impBy hL sx.2.2.1 hs' (show T.n < 13 by omega) (show T.n + 1 < 13 by omega) m1 m2 (fun l hl => by have := (bdy_len hL hT hl).1; omega)) (fun σ' ⟨y1, y2, f1⟩ => ?_)
      refine ih fuel (s + 1) σ' (by omega) (by omega) (by omega) (SPX_fr sx f1 rfl) (m1.eq (y2 T.n (by omega)).1 (y2 T.n (by omega)).2) (y1.iff (fun l => ?_)) (f.trans f1)
      constructor
      · rintro (⟨b, k, h1, h2, h3⟩ | ⟨l', h1, h2⟩)
        · exact ⟨b, k, h1, by omega, h3⟩
        · exact ⟨l', s, h1, by omega, hs', hb, h2⟩
      · rintro ⟨b, k, h1, h2, h3, h4, h5⟩
        by_cases e : k = s
        · subst e; exact Or.inr ⟨b, h1, h5⟩
        · exact Or.inl ⟨b, k, h1, by omega, h3, h4, h5⟩
theorem x_fb73 {N : Nat} (hN : 802 < N) {L : Lv} (hL : LOk L) {T : Tv} (hT : TvOk T) {t : Nat} (ht : t < 40) {σ0 : St} : ∀ (k fuel s : Nat) (σ : St), L.n - s = k → k < fuel → s ≤ L.n → SPX σ 1 L T → Mn L σ T.n (fun l => til L T T.n l 0 ∨ ∃ x, x < s ∧ x < L.n ∧ idB L T x = true ∧ l = [x]) → Mn L σ (T.n + 1) (fun _ => False) → Fr [53, 54] σ0 σ → ok (f_X2_findBest_73 N fuel (nI t) (nI T.n) (nI s) σ) (PostB L T t σ0) := by
  have h40 := hL.1
  have h8 := hT.2.1
  intro k
  induction k with
  | zero =>
    intro fuel s σ hk hf hs sx m1 m2 f
    obtain ⟨fuel, rfl⟩ : ∃ f, fuel = f + 1 := ⟨fuel - 1, by omega⟩
    have e : s = L.n := by omega
    subst e
    have e0 : σ.1 1200 0 = nI L.n := sx.2.2.1.1
    have mb : Mn L σ T.n (bdy L T) := m1.iff (fun l => by
      constructor
      · rintro (h | ⟨x, h1, h2, h3⟩)
        · exact Or.inl h
        · exact Or.inr ⟨x, h1, h3⟩
      · rintro (h | ⟨x, h1, h3⟩)
        · exact Or.inl h
        · exact Or.inr ⟨x, h1, h1, h3⟩)
    rw [f_X2_findBest_73, e0, if_pos (nI_le (by omega) (by omega)), x_hasKind sx]
    by_cases hk0 : T.kd = 0
    · rw [if_pos (by rw [decide_eq_false (show ¬ T.kd ≠ 0 from fun h => h hk0)]; rfl)]
      refine (x_fb165 (L := L) (T := T) ht (show T.n < 13 by omega) (mb.iff (fun l => ?_))).mono (fun σ' ⟨y1, y2, y3⟩ => ⟨y1, fun j hj => ?_, (f.wide rfl).trans (y3.wide rfl)⟩)
      · constructor
        · intro h; exact Or.inl ⟨hk0, h⟩
        · rintro (⟨_, h⟩ | ⟨h, _⟩)
          · exact h
          · exact absurd hk0 h
      · rw [(y2 j hj).1, (y2 j hj).2, f.i 49 rfl, f.l 50 rfl]; exact ⟨rfl, rfl⟩
    · rw [if_neg (by rw [decide_eq_true (show T.kd ≠ 0 from hk0)]; decide)]
      exact x_fb125 hL hT hk0 ht L.n N 0 σ (by omega) (by omega) (by omega) sx mb (m2.iff (fun l => ⟨False.elim, fun ⟨b, k, _, h, _⟩ => absurd h (by omega)⟩)) f
  | succ k ih =>
    intro fuel s σ hk hf hs sx m1 m2 f
    obtain ⟨fuel, rfl⟩ : ∃ f, fuel = f + 1 := ⟨fuel - 1, by omega⟩
    have hs' : s < L.n := by omega
    have e0 : σ.1 1200 0 = nI L.n := sx.2.2.1.1
    rw [f_X2_findBest_73, e0, if_neg (nI_ge (by omega) (by omega)), x_isIdea sx hL hs', bo_some, nI_1]
    cases hb : idB L T s with
    | false =>
      rw [if_pos (show b2 false = 0 from rfl)]
      refine ih fuel (s + 1) σ (by omega) (by omega) (by omega) sx (m1.iff (fun l => ?_)) m2 f
      constructor
      · rintro (h | ⟨x, h1, h2⟩)
        · exact Or.inl h
        · exact Or.inr ⟨x, by omega, h2⟩
      · rintro (h | ⟨x, h1, h2, h3, h4⟩)
        · exact Or.inl h
        · refine Or.inr ⟨x, ?_, h2, h3, h4⟩
          by_cases e : x = s
          · subst e; rw [hb] at h3; cases h3
          · omega
    | true =>
      rw [if_neg (show ¬ b2 true = 0 by decide), x_cost hL sx.2.2.1 hs', bo_some, nI_l (by omega)]
      have q1 : L.w s * L.h s * 16 + 1 = cst L [s] := rfl
      have q2 : s = cde [s] := by show s = s * 64 ^ 0 + 0; omega
      have im := x_imp hL (show T.n < 13 by omega) m1 (l0 := [s]) (Q := fun l => l = [s]) ⟨by rw [List.length_singleton]; omega, fun x hx => by rw [List.mem_singleton.mp hx]; exact hs'⟩ rfl (fun l' h => by rw [h]; exact kle_refl _ _)
      rw [← q2] at im
      rw [q1]
      refine ok_bo_of im (fun σ' ⟨y1, y2, f1⟩ => ?_)
      refine ih fuel (s + 1) σ' (by omega) (by omega) (by omega) (SPX_fr sx f1 rfl) (y1.iff (fun l => ?_)) (m2.eq (y2 (T.n + 1) (by omega)).1 (y2 (T.n + 1) (by omega)).2) (f.trans f1)
      constructor
      · rintro ((h | ⟨x, h1, h2⟩) | h)
        · exact Or.inl h
        · exact Or.inr ⟨x, by omega, h2⟩
        · exact Or.inr ⟨s, by omega, hs', hb, h⟩
      · rintro (h | ⟨x, h1, h2, h3, h4⟩)
        · exact Or.inl (Or.inl h)
        · by_cases e : x = s
          · subst e; exact Or.inr h4
          · exact Or.inl (Or.inr ⟨x, by omega, h2, h3, h4⟩)
