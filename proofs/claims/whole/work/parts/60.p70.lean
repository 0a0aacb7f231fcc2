/-! best, the reference: the answer -/
abbrev VBM : List Nat := [34, 35, 36, 40, 41, 42, 43, 1068]
def PostM (L : Lv) (T : Tv) (τ : St) (c : Int32 × St) : Prop := ((c.1 = -1 ∧ ∀ l, ¬ IsB L T l) ∨ (∃ l, IsB L T l ∧ (∀ l', IsB L T l' → kle L l l') ∧ c.1 = nI (pnt L l) ∧ RowB c.2 l)) ∧ Fr VBM τ c.2
def KdX (L : Lv) (T : Tv) (x : Int32) : Prop := (x = -1 ∧ T.kd = 0) ∨ (∃ k, x = nI k ∧ T.kd ≠ 0 ∧ k < L.n ∧ kdB L T k = true ∧ ∀ j, j < L.n → kdB L T j = true → kle L [k] [j])
theorem m_bo537 {N : Nat} {L : Lv} (hL : LOk L) {T : Tv} (hT : TvOk T) {x2 : Int32} (hx : KdX L T x2) {b : List Nat} (hb : bdy L T b) (hm : ∀ b', bdy L T b' → kle L b b') {τ0 τ : St} (lm : LM τ L) (rb : RowB τ b) (f : Fr VBM τ0 τ) : ok (f_X12_bestOf_537 N x2 (nI (pnt L b)) τ) (PostM L T τ0) := by
  have h40 := hL.1
  have bl := bdy_len hL hT hb
  unfold f_X12_bestOf_537
  rcases hx with ⟨h1, h2⟩ | ⟨k, h1, h2, h3, h4, h5⟩
  · rw [if_pos h1, ok_some]
    exact ⟨Or.inr ⟨b, Or.inl ⟨h2, hb⟩, fun l' h' => h'.elim (fun h => hm l' h.2) (fun h => absurd h2 h.1), rfl, rb⟩, f⟩
  · rw [h1, if_neg (nneg k (by omega)), rb.1, ib_n (a := b.length) (by omega), decide_eq_true (show b.length < 10 by omega), grd_true, ncl (a := b.length) (by omega), nI_1]
    have F1 : Fr [43, 1068] τ (si (si τ 43 b.length (nI k)) 1068 0 (nI (b.length + 1))) := ((Fr.refl _ _).si _ _ _ rfl).si _ _ _ rfl
    rw [m_paint hL (LM_fr lm F1 rfl) h3, bo_some, ok_some, nadd]
    refine ⟨Or.inr ⟨b ++ [k], Or.inr ⟨h2, b, k, hb, h3, h4, rfl⟩, fun l' h' => ?_, ?_, ?_, fun j hj => ?_⟩, f.trans (F1.wide rfl)⟩
    · rcases h' with ⟨q, _⟩ | ⟨_, b', k', q1, q2, q3, q4⟩
      · exact absurd q h2
      · rw [q4]; exact kle_two (hm b' q1) (h5 k' q2 q3)
    · rw [pnt_app]; rfl
    · rw [List.length_append, List.length_singleton]; simp only [si_rd, reduceIte, Nat.reduceEqDiff]
    · rw [List.length_append, List.length_singleton] at hj
      rw [gl_snoc _ _ _ (by omega)]
      simp only [si_rd, reduceIte, Nat.reduceEqDiff]
      by_cases e : j = b.length
      · rw [if_pos e, if_pos e]
      · rw [if_neg e, if_neg e]; exact rb.2 j (by omega)
theorem m_bo425a {N : Nat} (hN : 802 < N) {L : Lv} (hL : LOk L) {T : Tv} (hT : TvOk T) {t : Nat} {x2 x3 : Int32} (hx : KdX L T x2) {B : Nat → List Nat} {τ0 τ : St} (ms : MS τ L t T) (en : ∀ q, q ≤ T.n → Ent L T τ B q) (ex : ∃ l, til L T T.n l 0) (hm : ∀ b', bdy L T b' → kle L (B 0) b') (f : Fr [34, 35, 36, 40, 41, 42] τ0 τ) : ok (f_X12_bestOf_425 N (nI t) x2 x3 0 τ) (PostM L T τ0) := by
  have h8 := hT.2.1
  rcases en 0 (by omega) with ⟨_, h⟩ | ⟨h1, h2, h3, h4, h5⟩
  · obtain ⟨l, q⟩ := ex; exact absurd q (h l)
  have F1 : Fr [43, 1068] τ (si τ 1068 0 0) := (Fr.refl _ _).si _ _ _ rfl
  obtain ⟨τ1, e1, ms1, rb1, f1⟩ := m_bo452 (N := N) (x2 := x2) (x3 := x3) (B := B) hL hT T.n N 0 [] (si τ 1068 0 0) (by omega) (by omega) (by omega) (ms.fr F1 rfl) (fun q hq => by
    have := en q hq
    unfold Ent at this ⊢
    rw [F1.i 40 rfl, F1.i 41 rfl, F1.i 42 rfl]; exact this) ex (by show 0 + _ ≤ 8; omega) ⟨by rw [si_rd, if_pos rfl, if_pos rfl]; rfl, fun j hj => absurd hj (by show ¬ j < 0; omega)⟩ (Fr.refl _ _)
  unfold f_X12_bestOf_425
  have e1' : f_X12_bestOf_452 N N (nI t) x2 x3 0 0 (si τ 1068 0 0) = f_X12_bestOf_518 N x2 x3 0 τ1 := e1
  rw [if_pos rfl, e1']
  unfold f_X12_bestOf_518
  rw [if_pos rfl, show ib 0 9 = true from rfl, grd_true, f1.i 40 rfl, F1.i 40 rfl, h2]
  exact m_bo537 hL hT hx (Or.inl h1) hm ms1.2.2 rb1 ((f.wide rfl).trans ((F1.wide rfl).trans (f1.wide rfl)))
theorem m_bo425b {N : Nat} (hN : 802 < N) {L : Lv} (hL : LOk L) {T : Tv} (hT : TvOk T) {t i : Nat} {x2 : Int32} (hx : KdX L T x2) {τ0 τ : St} (ms : MS τ L t T) (hi : i < L.n) (hd : idB L T i = true) (hm : ∀ b', bdy L T b' → kle L [i] b') (f : Fr [34, 35, 36, 40, 41, 42] τ0 τ) : ok (f_X12_bestOf_425 N (nI t) x2 (nI i) 1 τ) (PostM L T τ0) := by
  have h8 := hT.2.1
  have t40 := ms.2.1.1
  unfold f_X12_bestOf_425
  rw [if_neg one_ne, show ib 0 10 = true from rfl, grd_true]
  generalize hτ : si (si (si τ 1068 0 0) 43 0 (nI i)) 1068 0 1 = τ1
  have F1 : Fr [43, 1068] τ τ1 := by rw [← hτ]; exact (((Fr.refl _ _).si _ _ _ rfl).si _ _ _ rfl).si _ _ _ rfl
  have ms1 := ms.fr F1 rfl
  have e : f_X12_bestOf_452 N N (nI t) x2 (nI i) 1 0 τ1 = f_X12_bestOf_518 N x2 (nI i) 1 τ1 := by
    obtain ⟨M, rfl⟩ : ∃ M, N = M + 1 := ⟨N - 1, by omega⟩
    rw [f_X12_bestOf_452, ib_n (a := t) (by omega), decide_eq_true t40, grd_true]
    by_cases q : τ1.1 31 (nI t).toNatClampNeg ≤ 0
    · rw [if_pos q]
    · rw [if_neg q, if_neg one_ne]
  rw [e]
  unfold f_X12_bestOf_518
  rw [if_neg one_ne, m_paint hL ms1.2.2 hi, bo_some]
  have ep : L.w i * L.h i = pnt L [i] := by show _ = _ + 0; omega
  rw [ep]
  refine m_bo537 hL hT hx (Or.inr ⟨i, hi, hd, rfl⟩) hm ms1.2.2 ⟨?_, fun j hj => ?_⟩ ((f.wide rfl).trans (F1.wide rfl))
  · rw [← hτ]; simp only [si_rd, reduceIte, Nat.reduceEqDiff]; rfl
  · have : j = 0 := by rw [List.length_singleton] at hj; omega
    subst this
    rw [← hτ]; simp only [si_rd, reduceIte, Nat.reduceEqDiff]; rfl
theorem m_bo82 {N : Nat} (hN : 802 < N) {L : Lv} (hL : LOk L) {T : Tv} (hT : TvOk T) {t : Nat} {x2 : Int32} (hx : KdX L T x2) {τ0 τ : St} (ms : MS τ L t T) (f : Fr [34, 35, 36] τ0 τ) : ok (f_X12_bestOf_82 N (nI t) x2 τ) (PostM L T τ0) := by
  have h40 := hL.1
  have h8 := hT.2.1
  have t40 := ms.2.1.1
  unfold f_X12_bestOf_82
  rw [ib_n (a := t) (by omega), decide_eq_true t40, grd_true, ncl (a := t) (by omega), ms.2.1.2.2.2.1]
  obtain ⟨τ1, B, e1, ms1, en1, f1⟩ := m_bo89 (N := N) (x2 := x2) hN hL hT (T.n + 1) N τ (fun _ => []) (Nat.le_refl _) (by omega) ms (fun q h1 h2 => absurd h1 (by omega)) (Fr.refl _ _)
  rw [nI_back] at e1
  obtain ⟨x, e2, hid⟩ := m_bo299 (N := N) hL ms1 x2 L.n N 0 (-1) (by omega) (by omega) (by omega) (Or.inl ⟨rfl, fun j hj => absurd hj (by omega)⟩)
  have e2' : f_X12_bestOf_299 N N (nI t) x2 (-1) 0 τ1 = _ := e2
  rw [e1, e2', show ib 0 9 = true from rfl, grd_true]
  have F : Fr [34, 35, 36, 40, 41, 42] τ0 τ1 := (f.wide rfl).trans (f1.wide rfl)
  unfold f_X12_bestOf_367
  rcases hid with ⟨h1, h2⟩ | ⟨i, h1, h2, h3, h4⟩
  · rw [if_pos h1, if_pos h1]
    have noid : ∀ b', bdy L T b' → til L T T.n b' 0 := fun b' h => h.elim id (fun ⟨s, q1, q2, _⟩ => by rw [h2 s q1] at q2; cases q2)
    rcases en1 0 (by omega) with ⟨q1, q2⟩ | ⟨q1, q2, q3, q4, q5⟩
    · rw [q1, if_neg (show ¬ nI 1000000000 < (1000000000 : Int32) by decide), ok_some]
      refine ⟨Or.inl ⟨rfl, fun l h => ?_⟩, F.wide rfl⟩
      rcases h with ⟨_, h⟩ | ⟨_, b, k, h, _⟩
      · exact q2 l (noid l h)
      · exact q2 b (noid b h)
    · have bl := til_len hL q1
      have bp := pnt_le hL bl.2
      rw [q2, if_pos (show nI (pnt L (B 0)) < (1000000000 : Int32) from nI_lt (b := 1000000000) (by omega) (by omega))]
      exact m_bo425a hN hL hT hx ms1 en1 ⟨_, q1⟩ (fun b' h => q5 b' (noid b' h)) F
  · have bi := (paint_lt hL h1).2
    rw [h3, if_neg (nneg i (by omega)), if_neg (nneg i (by omega)), m_paint hL ms1.2.2 h1, bo_some, bo_some, show ib 0 9 = true from rfl]
    simp only [grd_true]
    have ci : cst L [i] = L.w i * L.h i * 16 + 1 := rfl
    have cdi : cde [i] = i := by show i * 64 ^ 0 + 0 = i; omega
    have byI : (∀ l, til L T T.n l 0 → kle L [i] l) → ∀ b', bdy L T b' → kle L [i] b' := fun h b' hb => hb.elim (h b') (fun ⟨s, q1, q2, q3⟩ => by rw [q3]; exact h4 s q1 q2)
    rcases en1 0 (by omega) with ⟨q1, q2⟩ | ⟨q1, q2, q3, q4, q5⟩
    · rw [q1, if_pos (nI_lt (by omega) (by omega))]
      exact m_bo425b hN hL hT hx ms1 h1 h2 (byI (fun l h => absurd h (q2 l))) F
    · have bl := til_len hL q1
      have bp := pnt_le hL bl.2
      obtain ⟨x, a1, a2, a3⟩ := q4 (by have := hT.1; omega)
      have cb := cst_eq L (B 0)
      have byB : kle L (B 0) [i] → ∀ b', bdy L T b' → kle L (B 0) b' := fun h b' hb => hb.elim (q5 b') (fun ⟨s, q1, q2, q3⟩ => by rw [q3]; exact kle_trans h (h4 s q1 q2))
      have l1 : 1 ≤ (B 0).length := by rw [a3, List.length_cons]; omega
      rw [q2, q3, a1]
      by_cases c1 : L.w i * L.h i < pnt L (B 0)
      · rw [if_pos (nI_lt c1 (by omega))]
        exact m_bo425b hN hL hT hx ms1 h1 h2 (byI (fun l h => kle_trans (Or.inl (by omega)) (q5 l h))) F
      · rw [if_neg (nI_nlt (by omega) (by omega))]
        by_cases c2 : L.w i * L.h i = pnt L (B 0)
        · rw [if_pos (by rw [c2])]
          by_cases c3 : 1 < (B 0).length
          · rw [if_pos (show (1 : Int32) < nI (B 0).length from nI_lt (a := 1) c3 (by omega))]
            exact m_bo425b hN hL hT hx ms1 h1 h2 (byI (fun l h => kle_trans (Or.inl (by omega)) (q5 l h))) F
          · rw [if_neg (show ¬ (1 : Int32) < nI (B 0).length from nI_nlt (a := 1) (by omega) (by omega))]
            have e1 : B 0 = [x] := by
              have l0 : (B (0 + L.c x)).length = 0 := by
                have := congrArg List.length a3
                rw [List.length_cons] at this; omega
              rw [a3, List.length_eq_zero_iff.mp l0]
            have cdx : cde (B 0) = x := by rw [e1]; show x * 64 ^ 0 + 0 = x; omega
            by_cases c4 : x ≤ i
            · rw [if_pos (nI_le c4 (by omega))]
              exact m_bo425a hN hL hT hx ms1 en1 ⟨_, q1⟩ (byB (Or.inr ⟨by omega, by omega⟩)) F
            · rw [if_neg (nI_ge (by omega) (by omega))]
              exact m_bo425b hN hL hT hx ms1 h1 h2 (byI (fun l h => kle_trans (Or.inr ⟨by omega, by omega⟩) (q5 l h))) F
        · rw [if_neg (fun q => c2 ((neq (by omega) (by omega)).mp q))]
          exact m_bo425a hN hL hT hx ms1 en1 ⟨_, q1⟩ (byB (Or.inl (by omega))) F
theorem m_bestOf {N : Nat} (hN : 802 < N) {L : Lv} (hL : LOk L) {T : Tv} (hT : TvOk T) {t : Nat} {τ : St} (lm : LM τ L) (tm : TMt τ t T) : ok (f_X12_bestOf N (nI t) τ) (PostM L T τ) := by
  have h40 := hL.1
  unfold f_X12_bestOf
  refine ok_bo_of (m_asListed hN hL lm) (fun τ1 ⟨nm, f1⟩ => ?_)
  have tm1 : TMt τ1 t T := tm.frP (f1.toP (P := fun a _ => ([34, 35, 36] : List Nat).contains a = true) (fun a j h => h)) (fun a j h => by
    have : ∀ a, a ∈ ([34, 35, 36] : List Nat) → ([30, 31, 32, 33] : List Nat).contains a = false := by decide
    exact this a (List.contains_iff_mem.mp h))
  have ms : MS τ1 L t T := ⟨nm, tm1, LM_fr lm f1 rfl⟩
  have t40 := tm1.1
  by_cases hk : T.kd = 0
  · have e8 : f_X12_bestOf_8 N N (nI t) (-1) 0 τ1 = f_X12_bestOf_64 N (nI t) (-1) τ1 := by
      obtain ⟨M, rfl⟩ : ∃ M, N = M + 1 := ⟨N - 1, by omega⟩
      rw [f_X12_bestOf_8, show ib 0 2 = true from rfl, grd_true, ib_n (a := t) (by omega), decide_eq_true t40, grd_true, ncl (a := t) (by omega), tm1.2.2.2.2, if_pos (lg_cmp0.mpr hk)]
      by_cases q : τ1.1 3 0 ≤ 0
      · rw [if_pos q]
      · rw [if_neg q]
    rw [e8]
    unfold f_X12_bestOf_64
    rw [ib_n (a := t) (by omega), decide_eq_true t40, grd_true, ncl (a := t) (by omega), tm1.2.2.2.2, if_pos (lg_cmp0.mpr hk)]
    exact m_bo82 hN hL hT (Or.inl ⟨rfl, hk⟩) ms f1
  · obtain ⟨x, e8, hx⟩ := m_bo8 (N := N) hL ms hk L.n N 0 (-1) (by omega) (by omega) (by omega) (Or.inl ⟨rfl, fun j hj => absurd hj (by omega)⟩)
    have e8' : f_X12_bestOf_8 N N (nI t) (-1) 0 τ1 = f_X12_bestOf_64 N (nI t) x τ1 := e8
    rw [e8']
    unfold f_X12_bestOf_64
    rw [ib_n (a := t) (by omega), decide_eq_true t40, grd_true, ncl (a := t) (by omega), tm1.2.2.2.2, if_neg (fun q => hk (lg_cmp0.mp q))]
    rcases hx with ⟨h1, h2⟩ | ⟨k, h1, h2, h3, h4⟩
    · rw [if_pos h1, ok_some]
      refine ⟨Or.inl ⟨rfl, fun l h => ?_⟩, f1.wide rfl⟩
      rcases h with ⟨q, _⟩ | ⟨_, b, k, q1, q2, q3, q4⟩
      · exact hk q
      · rw [h2 k q2] at q3; cases q3
    · rw [h3, if_neg (nneg k (by omega))]
      exact m_bo82 hN hL hT (Or.inr ⟨k, rfl, hk, h1, h2, h4⟩) ms f1
