/-! best, the reference: all places; the row read off -/
theorem Ent_up {L : Lv} {T : Tv} {τ τ' : St} {B : Nat → List Nat} {m q : Nat} {l : List Nat} (h : Ent L T τ B q) (hq : m < q) (e : τ'.1 40 q = τ.1 40 q ∧ τ'.1 41 q = τ.1 41 q ∧ τ'.1 42 q = τ.1 42 q) : Ent L T τ' (up B m l) q := by
  unfold Ent at h ⊢
  rw [e.1, e.2.1, e.2.2, up_ne _ _ (show q ≠ m by omega)]
  rcases h with h | ⟨h1, h2, h3, h4, h5⟩
  · exact Or.inl h
  · refine Or.inr ⟨h1, h2, h3, fun hn => ?_, h5⟩
    obtain ⟨x, a1, a2, a3⟩ := h4 hn
    exact ⟨x, a1, a2, by rw [up_ne _ _ (show q + L.c x ≠ m by omega)]; exact a3⟩
theorem m_bo89 {N : Nat} (hN : 802 < N) {L : Lv} (hL : LOk L) {T : Tv} (hT : TvOk T) {t : Nat} {x2 : Int32} {τ0 : St} : ∀ (m fuel : Nat) (τ : St) (B : Nat → List Nat), m ≤ T.n + 1 → m < fuel → MS τ L t T → (∀ q, m ≤ q → q ≤ T.n → Ent L T τ B q) → Fr [40, 41, 42] τ0 τ →
    ∃ τ' B', f_X12_bestOf_89 N fuel (nI t) x2 (nI m + -1) τ = f_X12_bestOf_299 N N (nI t) x2 (-1) 0 τ' ∧ MS τ' L t T ∧ (∀ q, q ≤ T.n → Ent L T τ' B' q) ∧ Fr [40, 41, 42] τ0 τ' := by
  have h40 := hL.1
  have h8 := hT.2.1
  intro m
  induction m with
  | zero =>
    intro fuel τ B hm hf ms en f
    obtain ⟨fuel, rfl⟩ : ∃ f, fuel = f + 1 := ⟨fuel - 1, by omega⟩
    refine ⟨τ, B, ?_, ms, fun q hq => en q (by omega) hq, f⟩
    rw [f_X12_bestOf_89, if_pos (show nI 0 + -1 < (0 : Int32) by decide)]
  | succ m ih =>
    intro fuel τ B hm hf ms en f
    obtain ⟨fuel, rfl⟩ : ∃ f, fuel = f + 1 := ⟨fuel - 1, by omega⟩
    have t40 := ms.2.1.1
    have e31 : τ.1 31 t = nI T.n := ms.2.1.2.2.2.1
    rw [nI_back, f_X12_bestOf_89, if_neg (show ¬ nI m < (0 : Int32) from nI_nlt (b := 0) (by omega) (by omega)), ib_n (a := t) (by omega), decide_eq_true t40, grd_true, ncl (a := t) (by omega), e31]
    unfold f_X12_bestOf_115
    rw [ib_n (a := m) (by omega), decide_eq_true (show m < 9 by omega), ncl (a := m) (by omega)]
    simp only [grd_true]
    by_cases e : m = T.n
    · rw [if_pos (by rw [e])]
      generalize hτ : si (si τ 40 m 0) 41 m 0 = τ1
      have F1 : Fr [40, 41, 42] τ τ1 := by rw [← hτ]; exact ((Fr.refl _ _).si _ _ _ rfl).si _ _ _ rfl
      have ms1 := ms.fr F1 rfl
      have k126 : f_X12_bestOf_126 N (f_X12_bestOf_89 N fuel) N (nI t) x2 (nI m) 0 τ1 = f_X12_bestOf_89 N fuel (nI t) x2 (nI m + -1) τ1 := by
        obtain ⟨M, rfl⟩ : ∃ M, N = M + 1 := ⟨N - 1, by omega⟩
        rw [f_X12_bestOf_126, show ib 0 2 = true from rfl, grd_true, ms1.2.2.1, ib_n (a := t) (by omega), decide_eq_true t40, grd_true, ncl (a := t) (by omega), ms1.2.1.2.2.2.1, if_pos (show nI T.n ≤ nI m from nI_le (by omega) (by omega))]
        by_cases q : nI L.n ≤ (0 : Int32)
        · rw [if_pos q]
        · rw [if_neg q]
      rw [k126]
      refine ih fuel τ1 (up B m []) (by omega) (by omega) ms1 (fun q h1 h2 => ?_) (f.trans F1)
      have eq : q = m := by omega
      subst eq
      refine Or.inr ?_
      rw [up_is]
      refine ⟨e, ?_, ?_, fun hn => absurd hn (by omega), fun l' h' => ?_⟩
      · rw [← hτ]; simp only [si_rd, reduceIte, Nat.reduceEqDiff]; rfl
      · rw [← hτ]; simp only [si_rd, reduceIte, Nat.reduceEqDiff]; rfl
      · have := (til_len hL h').1
        have e0 : l' = [] := List.length_eq_zero_iff.mp (by omega)
        rw [e0]; exact kle_refl _ _
    · rw [if_neg (fun q => e ((neq (by omega) (by omega)).mp q))]
      generalize hτ : si (si τ 40 m 1000000000) 41 m 0 = τ1
      have F1 : Fr [40, 41, 42] τ τ1 := by rw [← hτ]; exact ((Fr.refl _ _).si _ _ _ rfl).si _ _ _ rfl
      have r0 : ∀ j, τ1.1 40 j = if j = m then 1000000000 else τ.1 40 j := fun j => by rw [← hτ]; simp only [si_rd, reduceIte, Nat.reduceEqDiff]
      have r1 : ∀ j, τ1.1 41 j = if j = m then 0 else τ.1 41 j := fun j => by rw [← hτ]; simp only [si_rd, reduceIte, Nat.reduceEqDiff]
      have r2 : ∀ j, τ1.1 42 j = τ.1 42 j := fun j => by rw [← hτ]; simp only [si_rd, reduceIte, Nat.reduceEqDiff]
      obtain ⟨τ2, e2, ms2, en2, rp2, f2⟩ := m_bo126 (N := N) (B := B) (x2 := x2) (k89 := f_X12_bestOf_89 N fuel) hN hL hT (show m < T.n by omega) L.n N 0 τ1 (by omega) (by omega) (by omega) (ms.fr F1 rfl) (fun q h1 h2 => by
        have := en q (by omega) h2
        unfold Ent at this ⊢
        rw [r0, r1, r2, if_neg (by omega), if_neg (by omega)]; exact this) (Or.inl ⟨by rw [r0, if_pos rfl]; rfl, fun l ⟨x, l', _, h, _⟩ => absurd h (by omega)⟩) (Fr.refl _ _)
      have e2' : f_X12_bestOf_126 N (f_X12_bestOf_89 N fuel) N (nI t) x2 (nI m) 0 τ1 = f_X12_bestOf_89 N fuel (nI t) x2 (nI m + -1) τ2 := e2
      rw [e2']
      rcases rp2 with ⟨a1, a2⟩ | ⟨l, x, a1, a2, a3, a4, a5, a6⟩
      · refine ih fuel τ2 B (by omega) (by omega) ms2 (fun q h1 h2 => ?_) ((f.trans F1).trans f2)
        by_cases eq : q = m
        · rw [eq]; exact Or.inl ⟨a1, fun l h => a2 l ((PQ_all (by omega) l).mpr h)⟩
        · exact en2 q (by omega) h2
      · refine ih fuel τ2 (up B m l) (by omega) (by omega) ms2 (fun q h1 h2 => ?_) ((f.trans F1).trans f2)
        by_cases eq : q = m
        · rw [eq]
          refine Or.inr ?_
          rw [up_is]
          have tl := (PQ_all (show m < T.n by omega) l).mp a2
          have hx : x < L.n ∧ atB L T x m = true := by rw [a1] at tl; exact ⟨tl.1, tl.2.1⟩
          have hc := atB_c hL hx.1 hx.2
          exact ⟨tl, a3, a4, fun _ => ⟨x, a5, hx.1, by rw [up_ne _ _ (by omega)]; exact a1⟩, fun l' h' => a6 l' ((PQ_all (by omega) l').mpr h')⟩
        · exact Ent_up (en2 q (by omega) h2) (by omega) ⟨rfl, rfl, rfl⟩
theorem gl_snoc (a : List Nat) (x j : Nat) (h : j ≤ a.length) : gl (a ++ [x]) j = if j = a.length then x else gl a j := by
  show (a ++ [x]).getD j 0 = _
  rw [List.getD_eq_getElem?_getD]
  by_cases e : j = a.length
  · rw [if_pos e, e, List.getElem?_append_right (Nat.le_refl _), Nat.sub_self]; rfl
  · rw [if_neg e, List.getElem?_append_left (by omega), ← List.getD_eq_getElem?_getD]
def RowB (τ : St) (l : List Nat) : Prop := τ.1 1068 0 = nI l.length ∧ ∀ j, j < l.length → τ.1 43 j = nI (gl l j)
theorem m_bo452 {N : Nat} {L : Lv} (hL : LOk L) {T : Tv} (hT : TvOk T) {t : Nat} {x2 x3 : Int32} {B : Nat → List Nat} {τ0 : St} : ∀ (k fuel p : Nat) (pre : List Nat) (τ : St), T.n - p ≤ k → k < fuel → p ≤ T.n → MS τ L t T → (∀ q, q ≤ T.n → Ent L T τ B q) → (∃ l, til L T T.n l p) → pre.length + (T.n - p) ≤ 8 → RowB τ pre → Fr [43, 1068] τ0 τ →
    ∃ τ', f_X12_bestOf_452 N fuel (nI t) x2 x3 0 (nI p) τ = f_X12_bestOf_518 N x2 x3 0 τ' ∧ MS τ' L t T ∧ RowB τ' (pre ++ B p) ∧ Fr [43, 1068] τ0 τ' := by
  have h40 := hL.1
  have h8 := hT.2.1
  intro k
  induction k with
  | zero =>
    intro fuel p pre τ hk hf hp ms en ex hl rb f
    obtain ⟨fuel, rfl⟩ : ∃ f, fuel = f + 1 := ⟨fuel - 1, by omega⟩
    have t40 := ms.2.1.1
    have e : p = T.n := by omega
    have eb : B p = [] := by
      rcases en p hp with ⟨_, h⟩ | ⟨h, _⟩
      · obtain ⟨l, q⟩ := ex; exact absurd q (h l)
      · have := (til_len hL h).1
        exact List.length_eq_zero_iff.mp (by omega)
    refine ⟨τ, ?_, ms, by rw [eb, List.append_nil]; exact rb, f⟩
    rw [f_X12_bestOf_452, ib_n (a := t) (by omega), decide_eq_true t40, grd_true, ncl (a := t) (by omega), ms.2.1.2.2.2.1, if_pos (nI_le (by omega) (by omega))]
  | succ k ih =>
    intro fuel p pre τ hk hf hp ms en ex hl rb f
    obtain ⟨fuel, rfl⟩ : ∃ f, fuel = f + 1 := ⟨fuel - 1, by omega⟩
    have t40 := ms.2.1.1
    by_cases hpn : p = T.n
    · have eb : B p = [] := by
        rcases en p hp with ⟨_, h⟩ | ⟨h, _⟩
        · obtain ⟨l, q⟩ := ex; exact absurd q (h l)
        · have := (til_len hL h).1
          exact List.length_eq_zero_iff.mp (by omega)
      refine ⟨τ, ?_, ms, by rw [eb, List.append_nil]; exact rb, f⟩
      rw [f_X12_bestOf_452, ib_n (a := t) (by omega), decide_eq_true t40, grd_true, ncl (a := t) (by omega), ms.2.1.2.2.2.1, if_pos (nI_le (by omega) (by omega))]
    · rcases en p hp with ⟨_, h⟩ | ⟨h1, h2, h3, h4, h5⟩
      · obtain ⟨l, q⟩ := ex; exact absurd q (h l)
      · obtain ⟨x, a1, a2, a3⟩ := h4 (by omega)
        have h1' : til L T T.n (x :: B (p + L.c x)) p := by rw [← a3]; exact h1
        have hc := atB_c hL a2 h1'.2.1
        have eR : nI pre.length + 1 - 1 = nI pre.length := Int32.add_sub_cancel _ _
        have e35 : τ.1 35 x = nI (L.c x) := (ms.1.1 x a2).2.1
        rw [f_X12_bestOf_452, ib_n (a := t) (by omega), decide_eq_true t40, grd_true, ncl (a := t) (by omega), ms.2.1.2.2.2.1, if_neg (nI_ge (by omega) (by omega)), if_pos rfl, rb.1, eR, ib_n (a := p) (by omega), decide_eq_true (show p < 9 by omega), ncl (a := p) (by omega), ib_n (a := pre.length) (by omega), decide_eq_true (show pre.length < 10 by omega), ncl (a := pre.length) (by omega), a1]
        simp only [grd_true]
        rw [show (si τ 43 pre.length (nI x)).1 43 pre.length = nI x by rw [si_rd, if_pos rfl, if_pos rfl], ib_n (a := x) (by omega), decide_eq_true (show x < 40 by omega), grd_true, ncl (a := x) (by omega), e35, nadd, nI_1]
        generalize hτ : si (si τ 43 pre.length (nI x)) 1068 0 (nI (pre.length + 1)) = τ1
        have F1 : Fr [43, 1068] τ τ1 := by rw [← hτ]; exact ((Fr.refl _ _).si _ _ _ rfl).si _ _ _ rfl
        obtain ⟨τ2, g1, g2, g3, g4⟩ := ih fuel (p + L.c x) (pre ++ [x]) τ1 (by omega) (by omega) (by omega) (ms.fr F1 rfl) (fun q hq => by
          have := en q hq
          unfold Ent at this ⊢
          rw [F1.i 40 rfl, F1.i 41 rfl, F1.i 42 rfl]; exact this) ⟨_, h1'.2.2⟩ (by rw [List.length_append, List.length_singleton]; omega) ⟨by rw [List.length_append, List.length_singleton, ← hτ]; simp only [si_rd, reduceIte, Nat.reduceEqDiff], fun j hj => by
          rw [List.length_append, List.length_singleton] at hj
          rw [gl_snoc _ _ _ (by omega), ← hτ]
          simp only [si_rd, reduceIte, Nat.reduceEqDiff]
          by_cases e : j = pre.length
          · rw [if_pos e, if_pos e]
          · rw [if_neg e, if_neg e]; exact rb.2 j (by omega)⟩ (f.trans F1)
        refine ⟨τ2, g1, g2, ?_, g4⟩
        rw [a3]
        rw [List.append_assoc, List.singleton_append] at g3
        exact g3
