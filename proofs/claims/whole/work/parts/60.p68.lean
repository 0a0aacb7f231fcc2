/-! best, the reference: the table of places -/
def Ent (L : Lv) (T : Tv) (τ : St) (B : Nat → List Nat) (p : Nat) : Prop := (τ.1 40 p = nI 1000000000 ∧ ∀ l, ¬ til L T T.n l p) ∨ (til L T T.n (B p) p ∧ τ.1 40 p = nI (pnt L (B p)) ∧ τ.1 41 p = nI (B p).length ∧ (p < T.n → ∃ x, τ.1 42 p = nI x ∧ x < L.n ∧ B p = x :: B (p + L.c x)) ∧ ∀ l', til L T T.n l' p → kle L (B p) l')
def PQ (L : Lv) (T : Tv) (p s : Nat) (l : List Nat) : Prop := ∃ x l', l = x :: l' ∧ x < s ∧ x < L.n ∧ atB L T x p = true ∧ til L T T.n l' (p + L.c x)
def RP (L : Lv) (T : Tv) (τ : St) (B : Nat → List Nat) (p s : Nat) : Prop := (τ.1 40 p = nI 1000000000 ∧ ∀ l, ¬ PQ L T p s l) ∨ (∃ l x, l = x :: B (p + L.c x) ∧ PQ L T p s l ∧ τ.1 40 p = nI (pnt L l) ∧ τ.1 41 p = nI l.length ∧ τ.1 42 p = nI x ∧ ∀ l', PQ L T p s l' → kle L l l')
theorem PQ_all {L : Lv} {T : Tv} {p : Nat} (hp : p < T.n) (l : List Nat) : PQ L T p L.n l ↔ til L T T.n l p := by
  constructor
  · rintro ⟨x, l', h1, h2, h3, h4, h5⟩; rw [h1]; exact ⟨h3, h4, h5⟩
  · intro h
    cases l with
    | nil => have e : p = T.n := h; omega
    | cons x l' => exact ⟨x, l', rfl, h.1, h.1, h.2.1, h.2.2⟩
theorem PQ_no {L : Lv} {T : Tv} {p s : Nat} (h : ¬ (atB L T s p = true ∧ ∃ l', til L T T.n l' (p + L.c s))) (l : List Nat) : PQ L T p (s + 1) l → PQ L T p s l := by
  rintro ⟨x, l', h1, h2, h3, h4, h5⟩
  refine ⟨x, l', h1, ?_, h3, h4, h5⟩
  by_cases e : x = s
  · subst e; exact absurd ⟨h4, l', h5⟩ h
  · omega
theorem PQ_up {L : Lv} {T : Tv} {p s : Nat} {l : List Nat} : PQ L T p s l → PQ L T p (s + 1) l := fun ⟨x, l', h1, h2, h3⟩ => ⟨x, l', h1, by omega, h3⟩
theorem RP_no {L : Lv} {T : Tv} {τ : St} {B : Nat → List Nat} {p s : Nat} (r : RP L T τ B p s) (h : ¬ (atB L T s p = true ∧ ∃ l', til L T T.n l' (p + L.c s))) : RP L T τ B p (s + 1) := by
  rcases r with ⟨h1, h2⟩ | ⟨l, x, h1, h2, h3, h4, h5, h6⟩
  · exact Or.inl ⟨h1, fun l q => h2 l (PQ_no h l q)⟩
  · exact Or.inr ⟨l, x, h1, PQ_up h2, h3, h4, h5, fun l' q => h6 l' (PQ_no h l' q)⟩
theorem pnt_le {L : Lv} (hL : LOk L) {l : List Nat} (h : ∀ s, s ∈ l → s < L.n) : pnt L l ≤ 3600 * l.length := by
  induction l with
  | nil => exact Nat.le_refl _
  | cons s l ih =>
    have h1 := ih (fun x hx => h x (List.mem_cons_of_mem _ hx))
    have h2 := paint_lt hL (h s List.mem_cons_self)
    rw [pnt, List.length_cons]
    omega
theorem PQ_b {L : Lv} {T : Tv} (hL : LOk L) {p s : Nat} (h8 : T.n ≤ 8) {l : List Nat} (h : PQ L T p s l) : l.length ≤ 8 ∧ (∀ x, x ∈ l → x < L.n) ∧ pnt L l ≤ 28800 := by
  obtain ⟨x, l', h1, h2, h3, h4, h5⟩ := h
  have a := til_len hL (show til L T T.n (x :: l') p from ⟨h3, h4, h5⟩)
  rw [← h1] at a
  have b := pnt_le hL a.2
  exact ⟨by omega, a.2, by omega⟩
theorem m_bo126 {N : Nat} (hN : 802 < N) {L : Lv} (hL : LOk L) {T : Tv} (hT : TvOk T) {t p : Nat} (hp : p < T.n) {B : Nat → List Nat} {x2 : Int32} {k89 : Int32 → Int32 → Int32 → St → Option (Int32 × St)} {τ0 : St} : ∀ (k fuel s : Nat) (τ : St), L.n - s = k → k < fuel → s ≤ L.n → MS τ L t T → (∀ q, p < q → q ≤ T.n → Ent L T τ B q) → RP L T τ B p s → Fr [40, 41, 42] τ0 τ →
    ∃ τ', f_X12_bestOf_126 N k89 fuel (nI t) x2 (nI p) (nI s) τ = k89 (nI t) x2 (nI p + -1) τ' ∧ MS τ' L t T ∧ (∀ q, p < q → q ≤ T.n → Ent L T τ' B q) ∧ RP L T τ' B p L.n ∧ Fr [40, 41, 42] τ0 τ' := by
  have h40 := hL.1
  have h8 := hT.2.1
  intro k
  induction k with
  | zero =>
    intro fuel s τ hk hf hs ms en rp f
    obtain ⟨fuel, rfl⟩ : ∃ f, fuel = f + 1 := ⟨fuel - 1, by omega⟩
    have e : s = L.n := by omega
    subst e
    refine ⟨τ, ?_, ms, en, rp, f⟩
    rw [f_X12_bestOf_126, show ib 0 2 = true from rfl, grd_true, ms.2.2.1, if_pos (nI_le (by omega) (by omega))]
  | succ k ih =>
    intro fuel s τ hk hf hs ms en rp f
    obtain ⟨fuel, rfl⟩ : ∃ f, fuel = f + 1 := ⟨fuel - 1, by omega⟩
    have hs' : s < L.n := by omega
    have o1 : L.n - (s + 1) = k ∧ k < fuel ∧ s + 1 ≤ L.n := by omega
    obtain ⟨nm, tm, lm⟩ := ms
    have t40 := tm.1
    have e35 : τ.1 35 s = nI (L.c s) := (nm.1 s hs').2.1
    rw [f_X12_bestOf_126, show ib 0 2 = true from rfl, grd_true, lm.1, if_neg (nI_ge (by omega) (by omega)), ib_n (a := t) (by omega), decide_eq_true t40, grd_true, ncl (a := t) (by omega), tm.2.2.2.1, if_neg (nI_ge (by omega) (by omega)), m_isAt hN nm tm hL hT hs' (by omega), bo_some, nI_1]
    have skip : RP L T τ B p (s + 1) → ∃ τ', f_X12_bestOf_126 N k89 fuel (nI t) x2 (nI p) (nI (s + 1)) τ = k89 (nI t) x2 (nI p + -1) τ' ∧ MS τ' L t T ∧ (∀ q, p < q → q ≤ T.n → Ent L T τ' B q) ∧ RP L T τ' B p L.n ∧ Fr [40, 41, 42] τ0 τ' := fun r => ih fuel (s + 1) τ (by omega) (by omega) (by omega) ⟨nm, tm, lm⟩ en r f
    cases hb : atB L T s p with
    | false =>
      rw [if_pos (show b2 false = 0 from rfl)]
      exact skip (RP_no rp (fun q => by rw [hb] at q; exact absurd q.1 (by decide)))
    | true =>
      have hc := atB_c hL hs' hb
      have bs := (paint_lt hL hs').2
      rw [if_neg (show ¬ b2 true = 0 by decide), ib_n (a := s) (by omega), decide_eq_true (show s < 40 by omega), ncl (a := s) (by omega), e35, nadd, ib_n (a := p + L.c s) (by omega), decide_eq_true (show p + L.c s < 9 by omega), ncl (a := p + L.c s) (by omega), ib_n (a := p) (by omega), decide_eq_true (show p < 9 by omega), ncl (a := p) (by omega)]
      simp only [grd_true]
      rcases en (p + L.c s) (by omega) (by omega) with ⟨e1, e2⟩ | ⟨e1, e2, e3, e4, e5⟩
      · rw [e1, if_neg (show ¬ nI 1000000000 < (1000000000 : Int32) by decide)]
        exact skip (RP_no rp (fun q => by obtain ⟨_, l', q⟩ := q; exact e2 l' q))
      · clear e4
        have bl := til_len hL e1
        have bp := pnt_le hL bl.2
        have new : PQ L T p (s + 1) (s :: B (p + L.c s)) := ⟨s, _, rfl, by omega, hs', hb, e1⟩
        have nb := PQ_b hL h8 new
        have mine : ∀ l', til L T T.n l' (p + L.c s) → kle L (s :: B (p + L.c s)) (s :: l') := fun l' h' => kle_cons (by omega) (by have := (til_len hL h').1; omega) (e5 l' h') s
        have ep : pnt L (s :: B (p + L.c s)) = L.w s * L.h s + pnt L (B (p + L.c s)) := rfl
        have el : (s :: B (p + L.c s)).length = 1 + (B (p + L.c s)).length := by rw [List.length_cons]; omega
        rw [e2, e3, if_pos (show nI (pnt L (B (p + L.c s))) < (1000000000 : Int32) from nI_lt (b := 1000000000) (by omega) (by omega)), m_paint hL lm hs', bo_some, nadd, show (1 : Int32) + nI (B (p + L.c s)).length = nI (1 + (B (p + L.c s)).length) by rw [show (1 : Int32) = nI 1 from rfl, nadd], ← ep, ← el]
        have take : (∀ l', PQ L T p s l' → kle L (s :: B (p + L.c s)) l') → ∃ τ', f_X12_bestOf_258 N k89 (f_X12_bestOf_126 N k89 fuel) (nI t) x2 (nI p) (nI s) (nI (pnt L (s :: B (p + L.c s)))) (nI (s :: B (p + L.c s)).length) τ = k89 (nI t) x2 (nI p + -1) τ' ∧ MS τ' L t T ∧ (∀ q, p < q → q ≤ T.n → Ent L T τ' B q) ∧ RP L T τ' B p L.n ∧ Fr [40, 41, 42] τ0 τ' := by
          intro hm
          unfold f_X12_bestOf_258
          rw [ib_n (a := p) (by omega), decide_eq_true (show p < 9 by omega), ncl (a := p) (by omega), nI_1]
          simp only [grd_true]
          generalize hτ : si (si (si τ 40 p (nI (pnt L (s :: B (p + L.c s))))) 41 p (nI (s :: B (p + L.c s)).length)) 42 p (nI s) = τ1
          have F1 : Fr [40, 41, 42] τ τ1 := by rw [← hτ]; exact (((Fr.refl _ _).si _ _ _ rfl).si _ _ _ rfl).si _ _ _ rfl
          have r0 : ∀ j, τ1.1 40 j = if j = p then nI (pnt L (s :: B (p + L.c s))) else τ.1 40 j := fun j => by rw [← hτ]; simp only [si_rd, reduceIte, Nat.reduceEqDiff]
          have r1 : ∀ j, τ1.1 41 j = if j = p then nI (s :: B (p + L.c s)).length else τ.1 41 j := fun j => by rw [← hτ]; simp only [si_rd, reduceIte, Nat.reduceEqDiff]
          have r2 : ∀ j, τ1.1 42 j = if j = p then nI s else τ.1 42 j := fun j => by rw [← hτ]; simp only [si_rd, reduceIte, Nat.reduceEqDiff]
          refine ih fuel (s + 1) τ1 o1.1 o1.2.1 o1.2.2 (MS.fr ⟨nm, tm, lm⟩ F1 rfl) (fun q h1 h2 => ?_) (Or.inr ⟨_, s, rfl, new, by rw [r0, if_pos rfl], by rw [r1, if_pos rfl], by rw [r2, if_pos rfl], fun l' h' => ?_⟩) (f.trans F1)
          · have ne : q ≠ p := by omega
            have := en q h1 h2
            unfold Ent at this ⊢
            rw [r0, r1, r2, if_neg ne, if_neg ne, if_neg ne]
            exact this
          · obtain ⟨x, l2, q1, q2, q3, q4, q5⟩ := h'
            by_cases e : x = s
            · subst e; rw [q1]; exact mine l2 q5
            · exact hm l' ⟨x, l2, q1, by omega, q3, q4, q5⟩
        rcases rp with ⟨a1, a2⟩ | ⟨l, x, a1, a2, a3, a4, a5, a6⟩
        · rw [a1, if_neg (show ¬ nI 1000000000 < nI (pnt L (s :: B (p + L.c s))) from nI_nlt (by omega) (by omega)), if_neg (fun q => by have := (neq (by omega) (by omega)).mp q; omega)]
          exact take (fun l' h' => absurd h' (a2 l'))
        · have lb := PQ_b hL h8 a2
          have keep : (pnt L l < pnt L (s :: B (p + L.c s)) ∨ (pnt L l = pnt L (s :: B (p + L.c s)) ∧ l.length ≤ (s :: B (p + L.c s)).length)) → RP L T τ B p (s + 1) := by
            intro hh
            have xs : x < s := by
              obtain ⟨x', l', q1, q2, _⟩ := a2
              rw [a1] at q1
              have : x = x' := (List.cons.inj q1).1
              omega
            have kk : kle L l (s :: B (p + L.c s)) := by
              unfold kle
              rw [cst_eq, cst_eq]
              by_cases e : pnt L l = pnt L (s :: B (p + L.c s)) ∧ l.length = (s :: B (p + L.c s)).length
              · refine Or.inr ⟨by rw [e.1, e.2], ?_⟩
                have e2' : (B (p + L.c x)).length = (B (p + L.c s)).length := by
                  have := e.2
                  rw [a1, List.length_cons, List.length_cons] at this; omega
                have lx : cde (B (p + L.c x)) < 64 ^ (B (p + L.c x)).length := cde_lt (fun y hy => by
                  have := lb.2.1 y (by rw [a1]; exact List.mem_cons_of_mem _ hy)
                  omega)
                have m1 : x * 64 ^ (B (p + L.c s)).length + 64 ^ (B (p + L.c s)).length ≤ s * 64 ^ (B (p + L.c s)).length := by
                  have := Nat.mul_le_mul_right (64 ^ (B (p + L.c s)).length) (show x + 1 ≤ s from xs)
                  rw [Nat.add_mul, Nat.one_mul] at this
                  exact this
                rw [a1, cde, cde, e2']
                rw [e2'] at lx
                omega
              · left; omega
            refine Or.inr ⟨l, x, a1, PQ_up a2, a3, a4, a5, fun l' h' => ?_⟩
            obtain ⟨y, l2, q1, q2, q3, q4, q5⟩ := h'
            by_cases e : y = s
            · subst e; rw [q1]; exact kle_trans kk (mine l2 q5)
            · exact a6 l' ⟨y, l2, q1, by omega, q3, q4, q5⟩
          have win : (pnt L (s :: B (p + L.c s)) < pnt L l ∨ (pnt L l = pnt L (s :: B (p + L.c s)) ∧ (s :: B (p + L.c s)).length < l.length)) → ∀ l', PQ L T p s l' → kle L (s :: B (p + L.c s)) l' := by
            intro hh l' h'
            refine kle_trans (Or.inl ?_) (a6 l' h')
            rw [cst_eq, cst_eq]
            omega
          rw [a3, a4]
          by_cases c1 : pnt L l < pnt L (s :: B (p + L.c s))
          · rw [if_pos (nI_lt c1 (by omega))]
            exact skip (keep (Or.inl c1))
          · rw [if_neg (nI_nlt (by omega) (by omega))]
            by_cases c2 : pnt L (s :: B (p + L.c s)) = pnt L l
            · rw [if_pos (by rw [c2])]
              by_cases c3 : (s :: B (p + L.c s)).length < l.length
              · rw [if_pos (nI_lt c3 (by omega))]
                exact take (win (Or.inr ⟨c2.symm, c3⟩))
              · rw [if_neg (nI_nlt (by omega) (by omega))]
                exact skip (keep (Or.inr ⟨c2.symm, by omega⟩))
            · rw [if_neg (fun q => c2 ((neq (by omega) (by omega)).mp q))]
              exact take (win (Or.inl (by omega)))
