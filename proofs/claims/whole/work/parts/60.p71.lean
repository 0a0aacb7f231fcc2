/-! best, bestSign -/
theorem sp6_congr {f g : Nat → Nat} : ∀ n, (∀ i, i < n → f i = g i) → sp6 f n = sp6 g n := by
  intro n
  induction n with
  | zero => intro _; rfl
  | succ n ih => intro h; show sp6 f n * 64 + f n = sp6 g n * 64 + g n; rw [ih (fun i hi => h i (by omega)), h n (by omega)]
theorem cde_sp6 : ∀ (n : Nat) (l : List Nat), l.length = n → cde l = sp6 (gl l) n := by
  intro n
  induction n with
  | zero => intro l h; rw [List.length_eq_zero_iff.mp h]; rfl
  | succ n ih =>
    intro l h
    rcases List.eq_nil_or_concat l with e | ⟨a, s, e⟩
    · rw [e] at h; cases h
    · rw [List.concat_eq_append] at e
      have hl : a.length = n := by rw [e, List.length_append, List.length_singleton] at h; omega
      rw [e, cde_snoc, ih a hl]
      show _ = sp6 (gl (a ++ [s])) n * 64 + gl (a ++ [s]) n
      rw [gl_snoc a s n (by omega), if_pos hl.symm, sp6_congr (f := gl (a ++ [s])) (g := gl a) n (fun i hi => by rw [gl_snoc a s i (by omega), if_neg (by omega)])]
theorem gl_mem {l : List Nat} {j : Nat} (h : j < l.length) : gl l j ∈ l := by
  show l.getD j 0 ∈ l
  rw [List.getD_eq_getElem?_getD, List.getElem?_eq_getElem h]
  exact List.getElem_mem h
theorem so_at {L : Lv} (hL : LOk L) {l : List Nat} (h : GL L l) (x : Int32) (σ τ : St) : (f_X11_signOf (lN (cde l)) (nI l.length) x σ = -1 ∧ f_X12_in x 0 (nI l.length - 1) τ = 0) ∨ (∃ j, j < l.length ∧ x = nI j ∧ f_X11_signOf (lN (cde l)) (nI l.length) x σ = nI (gl l j) ∧ f_X12_in x 0 (nI l.length - 1) τ = 1) := by
  have h40 := hL.1
  have h10 := h.1
  have b := GL_cde hL h
  have g64 : ∀ i, i < l.length → gl l i < 64 := fun i hi => by have := h.2 _ (gl_mem hi); omega
  rw [m_in]
  unfold f_X11_signOf
  rcases ix (x := x) (n := l.length) (by omega) with ⟨q, hy⟩ | ⟨j, hj, rfl, k1, k2, k3, k4⟩
  · refine Or.inl ⟨?_, i00 hy⟩
    rcases q with q | q
    · rw [if_pos q]
    · rw [if_neg (show ¬ x < nI l.length from Int32.not_lt.mpr q)]
      by_cases h : x < 0
      · rw [if_pos h]
      · rw [if_neg h]
  · refine Or.inr ⟨j, hj, rfl, ?_, if_pos k4⟩
    rw [if_neg k1, if_pos k3, show 6 * (nI l.length - 1 - nI j) = nI (6 * (l.length - 1 - j)) by rw [show (1 : Int32) = nI 1 from rfl, show (6 : Int32) = nI 6 from rfl, nsub (by omega), nsub (by omega), nmul], l_shr (by omega) (by omega), l_and, cde_sp6 _ l rfl, sp6_at _ j g64 hj, lN_i]
theorem isB_eq {L : Lv} {T : Tv} (hL : LOk L) (hT : TvOk T) {a b : List Nat} (ha : IsB L T a) (ma : ∀ l', IsB L T l' → kle L a l') (hb : IsB L T b) (mb : ∀ l', IsB L T l' → kle L b l') : a = b := kle_anti hL (IsB_GL hL hT ha).2 (IsB_GL hL hT hb).2 (ma b hb) (mb a ha)
theorem c16 {a b : Nat} (ha : a < 100000) (hb : b < 16) : nI (a * 16 + b) / 16 = nI a ∧ nI (a * 16 + b) - nI (a * 16 + b) / 16 * 16 = nI b ∧ ¬ nI (a * 16 + b) = (2147483647 : Int32) := by
  have e1 : nI (a * 16 + b) / 16 = nI a := by
    rw [show (16 : Int32) = nI 16 from rfl, ndiv (by omega) (by omega)]
    congr 1; omega
  refine ⟨e1, ?_, fun q => ?_⟩
  · rw [e1, show (16 : Int32) = nI 16 from rfl, nmul, nsub (by omega)]
    congr 1; omega
  · have q' : nI (a * 16 + b) = nI 2147483647 := q
    have := (neq (by omega) (by omega)).mp q'
    omega
theorem c_best {N : Nat} (hN : 802 < N) {σ τ : St} {L : Lv} {nt : Nat} {T : Nat → Tv} (rl : RList σ τ L) (rT : RTerms σ τ nt T) (rc : RCache σ L nt T) (x : Int32) : ok (f_X11_best N x σ) (fun a => ok (f_X12_best N x τ) (fun c => a.1 = c.1 ∧ RCache a.2 L nt T ∧ Fr VBest σ a.2 ∧ Fr VBM τ c.2)) := by
  have hL := rl.1
  have h40 : nt ≤ 40 := rT.1.1
  have e1 : σ.1 7600 0 = nI nt := rT.2.1.1
  have e2 : τ.1 1049 0 = nI nt := rT.2.2.1
  unfold f_X11_best f_X12_best f_X9_has f_X12_isTerm
  rw [e1, e2, m_in]
  rcases ix (x := x) (n := nt) (by omega) with ⟨q, hy⟩ | ⟨t, ht, rfl, k1, k2, k3, k4⟩
  · rw [i00 hy, show zbb 0 = true from rfl, grd_true, bo_some, if_pos rfl]
    have same : ok (some ((-2 : Int32), σ)) (fun a => ok (some ((-2 : Int32), τ)) (fun c => a.1 = c.1 ∧ RCache a.2 L nt T ∧ Fr VBest σ a.2 ∧ Fr VBM τ c.2)) := by
      rw [ok_some, ok_some]; exact ⟨rfl, rc, Fr.refl _ _, Fr.refl _ _⟩
    rcases q with q | q
    · rw [if_pos q, if_pos rfl]; exact same
    · by_cases q0 : x < 0
      · rw [if_pos q0, if_pos rfl]; exact same
      · rw [if_neg q0, if_pos q, if_pos rfl]; exact same
  rw [if_neg k1, if_neg k2, if_neg one_ne, i10 k4, show zbb 1 = true from rfl, grd_true, bo_some, if_neg one_ne]
  have hT := TOk_t rT.1 ht
  obtain ⟨σ1, l1, rc1, bx, f1⟩ := x_findBest hN hL rT.1 rl.2.1 rT.2.1 rc ht
  obtain ⟨⟨r2, τ2⟩, m1, m2, g2⟩ := m_bestOf (t := t) hN hL hT rl.2.2 (TM_t rT.2.2 h40 ht)
  unfold f_X2_bestPaint
  rw [l1, bo_some, m1, bd_some, ib_n (a := t) (by omega), decide_eq_true (show t < 40 by omega), grd_true, grd_true, ncl (a := t) (by omega)]
  rcases bx with ⟨a1, a2⟩ | ⟨l, a1, a2, a3, a4⟩
  · rw [a1, if_pos rfl, bd_some, ok_some, ok_some]
    refine ⟨?_, rc1, f1, g2⟩
    rcases m2 with ⟨b1, b2⟩ | ⟨l, b1, _⟩
    · exact b1.symm
    · exact absurd b1 (a2 l)
  · have gb := IsB_GL hL hT a1
    have pb := pnt_le hL gb.2.2
    have cc := c16 (a := pnt L l) (b := l.length) (by omega) (by omega)
    rw [a2, cst_eq, if_neg cc.2.2, cc.1, bd_some, ok_some, ok_some]
    refine ⟨?_, rc1, f1, g2⟩
    rcases m2 with ⟨b1, b2⟩ | ⟨l', b1, b2, b3, b4⟩
    · exact absurd a1 (b2 l)
    · have e := isB_eq hL hT a1 a4 b1 b2
      rw [e]; exact b3.symm
theorem c_bestSign {N : Nat} (hN : 802 < N) {σ τ : St} {L : Lv} {nt : Nat} {T : Nat → Tv} (rl : RList σ τ L) (rT : RTerms σ τ nt T) (rc : RCache σ L nt T) (x y : Int32) : ok (f_X11_bestSign N x y σ) (fun a => ok (f_X12_bestSign N x y τ) (fun c => a.1 = c.1 ∧ RCache a.2 L nt T ∧ Fr VBest σ a.2 ∧ Fr VBM τ c.2)) := by
  have hL := rl.1
  have h40 : nt ≤ 40 := rT.1.1
  have e1 : σ.1 7600 0 = nI nt := rT.2.1.1
  have e2 : τ.1 1049 0 = nI nt := rT.2.2.1
  unfold f_X11_bestSign f_X12_bestSign f_X9_has f_X12_isTerm
  rw [e1, e2, m_in]
  rcases ix (x := x) (n := nt) (by omega) with ⟨q, hy⟩ | ⟨t, ht, rfl, k1, k2, k3, k4⟩
  · rw [i00 hy, show zbb 0 = true from rfl, grd_true, bo_some, if_pos rfl]
    have same : ok (some ((-1 : Int32), σ)) (fun a => ok (some ((-1 : Int32), τ)) (fun c => a.1 = c.1 ∧ RCache a.2 L nt T ∧ Fr VBest σ a.2 ∧ Fr VBM τ c.2)) := by
      rw [ok_some, ok_some]; exact ⟨rfl, rc, Fr.refl _ _, Fr.refl _ _⟩
    rcases q with q | q
    · rw [if_pos q, if_pos rfl]; exact same
    · by_cases q0 : x < 0
      · rw [if_pos q0, if_pos rfl]; exact same
      · rw [if_neg q0, if_pos q, if_pos rfl]; exact same
  rw [if_neg k1, if_neg k2, if_neg one_ne, i10 k4, show zbb 1 = true from rfl, grd_true, bo_some, if_neg one_ne]
  have hT := TOk_t rT.1 ht
  obtain ⟨σ1, l1, rc1, bx, f1⟩ := x_findBest hN hL rT.1 rl.2.1 rT.2.1 rc ht
  obtain ⟨⟨r2, τ2⟩, m1, m2, g2⟩ := m_bestOf (t := t) hN hL hT rl.2.2 (TM_t rT.2.2 h40 ht)
  unfold f_X2_bestSignAt
  rw [l1, bo_some, m1, bd_some, ib_n (a := t) (by omega), decide_eq_true (show t < 40 by omega), grd_true, grd_true, grd_true, ncl (a := t) (by omega)]
  rcases bx with ⟨a1, a2⟩ | ⟨l, a1, a2, a3, a4⟩
  · rw [a1, if_pos rfl, bd_some, ok_some]
    rcases m2 with ⟨b1, b2⟩ | ⟨l, b1, _⟩
    · have b1' : r2 = -1 := b1
      rw [if_pos b1', ok_some]
      exact ⟨rfl, rc1, f1, g2⟩
    · exact absurd b1 (a2 l)
  · have gb := IsB_GL hL hT a1
    have pb := pnt_le hL gb.2.2
    have cc := c16 (a := pnt L l) (b := l.length) (by omega) (by omega)
    rw [a2, a3, cst_eq, if_neg cc.2.2, cc.2.1, bd_some, ok_some]
    rcases m2 with ⟨b1, b2⟩ | ⟨l', b1, b2, b3, b4⟩
    · exact absurd a1 (b2 l)
    · have e := isB_eq hL hT a1 a4 b1 b2
      subst e
      have b3' : r2 = nI (pnt L l) := b3
      have b4' : RowB τ2 l := b4
      rw [b3', if_neg (nneg _ (by omega)), b4'.1]
      rcases so_at hL gb.2 y σ1 τ2 with ⟨s1, s2⟩ | ⟨j, s0, s1, s2, s3⟩
      · rw [s1, s2, if_pos rfl, ok_some]; exact ⟨rfl, rc1, f1, g2⟩
      · rw [s2, s3, if_neg one_ne, s1, ib_n (a := j) (by omega), decide_eq_true (show j < 10 by omega), grd_true, ncl (a := j) (by omega), ok_some]
        exact ⟨(b4'.2 j s0).symm, rc1, f1, g2⟩
