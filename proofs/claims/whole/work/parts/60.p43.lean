/-! group, the two tables -/
def gfin (σ : St) (q : Nat) : Prop := ∃ c, c ≤ 24 ∧ σ.1 41 q = nI c
def GE (len : Nat) (σ τ : St) (q : Nat) : Prop := (σ.1 41 q = nI 1000 ∧ τ.1 52 q = nI 1000000000) ∨ ∃ c, c + q ≤ len ∧ σ.1 41 q = nI c ∧ τ.1 52 q = nI c ∧ σ.1 42 q = τ.1 53 q ∧ (q < len → ∃ sh, sh < 11 ∧ q + szS sh ≤ len ∧ σ.1 43 q = nI sh ∧ τ.1 54 q = nI sh ∧ gfin σ (q + szS sh))
theorem GE.up {len p q : Nat} {σ τ σ' τ' : St} (h : GE len σ τ q) (hq : p < q) (hs : ∀ j, p < j → σ'.1 41 j = σ.1 41 j ∧ σ'.1 42 j = σ.1 42 j ∧ σ'.1 43 j = σ.1 43 j) (ht : ∀ j, p < j → τ'.1 52 j = τ.1 52 j ∧ τ'.1 53 j = τ.1 53 j ∧ τ'.1 54 j = τ.1 54 j) : GE len σ' τ' q := by
  unfold GE gfin at h ⊢
  rw [(hs q hq).1, (hs q hq).2.1, (hs q hq).2.2, (ht q hq).1, (ht q hq).2.1, (ht q hq).2.2]
  rcases h with h | ⟨c, h1, h2, h3, h4, h5⟩
  · exact Or.inl h
  · refine Or.inr ⟨c, h1, h2, h3, h4, fun hl => ?_⟩
    obtain ⟨sh, a1, a2, a3, a4, a5⟩ := h5 hl
    refine ⟨sh, a1, a2, a3, a4, ?_⟩
    rw [(hs (q + szS sh) (by omega)).1]; exact a5
theorem szS_pos : ∀ sh, sh < 11 → 1 ≤ szS sh ∧ szS sh ≤ 4 := by decide
theorem st3_sz : ∀ sh, sh < 11 → st_3.getD sh 0 = nI (szS sh) := by decide
theorem xtb_sz : ∀ sh, sh < 11 → (xtb.getD 9 []).getD sh 0 - 48 = nI (szS sh) := by decide +kernel
theorem xtb_at {p sh : Nat} (h : sh < 11) : nI p + (xtb.getD 9 []).getD sh 0 - 48 = nI (p + szS sh) := by
  rw [Int32.sub_eq_add_neg, Int32.add_assoc, ← Int32.sub_eq_add_neg, xtb_sz sh h, nadd]
theorem sh_bd {L : Lv} (hL : LOk L) {g : Nat → Nat} {a sh : Nat} (hsh : sh < 11) (hg : ∀ i, a ≤ i → i < a + szS sh → g i < L.n) : max (shW L g a sh) (shH L g a sh) < 1000 := by
  have hgap : L.gap ≤ 9 := hL.2.2.1
  have sz : ∀ i, a ≤ i → i < a + szS sh → L.w (g i) ≤ 60 ∧ L.h (g i) ≤ 60 := fun i h1 h2 => by
    obtain ⟨d1, d2, _⟩ := hL.2.1 (g i) (hg i h1 h2)
    exact ⟨d1.2, d2.2⟩
  rw [Nat.max_lt]
  have hs : sh = 0 ∨ sh = 1 ∨ sh = 2 ∨ sh = 3 ∨ sh = 4 ∨ sh = 5 ∨ sh = 6 ∨ sh = 7 ∨ sh = 8 ∨ sh = 9 ∨ sh = 10 := by omega
  rcases hs with rfl | rfl | rfl | rfl | rfl | rfl | rfl | rfl | rfl | rfl | rfl
  · have sz' : ∀ i, a ≤ i → i < a + 1 → L.w (g i) ≤ 60 ∧ L.h (g i) ≤ 60 := sz
    have q0 := sz' a (by omega) (by omega)
    simp only [shW, shH]; omega
  · have sz' : ∀ i, a ≤ i → i < a + 2 → L.w (g i) ≤ 60 ∧ L.h (g i) ≤ 60 := sz
    have q0 := sz' a (by omega) (by omega); have q1 := sz' (a + 1) (by omega) (by omega)
    simp only [shW, shH]; omega
  · have sz' : ∀ i, a ≤ i → i < a + 2 → L.w (g i) ≤ 60 ∧ L.h (g i) ≤ 60 := sz
    have q0 := sz' a (by omega) (by omega); have q1 := sz' (a + 1) (by omega) (by omega)
    simp only [shW, shH]; omega
  · have sz' : ∀ i, a ≤ i → i < a + 3 → L.w (g i) ≤ 60 ∧ L.h (g i) ≤ 60 := sz
    have q0 := sz' a (by omega) (by omega); have q1 := sz' (a + 1) (by omega) (by omega); have q2 := sz' (a + 2) (by omega) (by omega)
    simp only [shW, shH]; omega
  · have sz' : ∀ i, a ≤ i → i < a + 3 → L.w (g i) ≤ 60 ∧ L.h (g i) ≤ 60 := sz
    have q0 := sz' a (by omega) (by omega); have q1 := sz' (a + 1) (by omega) (by omega); have q2 := sz' (a + 2) (by omega) (by omega)
    simp only [shW, shH]; omega
  · have sz' : ∀ i, a ≤ i → i < a + 3 → L.w (g i) ≤ 60 ∧ L.h (g i) ≤ 60 := sz
    have q0 := sz' a (by omega) (by omega); have q1 := sz' (a + 1) (by omega) (by omega); have q2 := sz' (a + 2) (by omega) (by omega)
    simp only [shW, shH]; omega
  · have sz' : ∀ i, a ≤ i → i < a + 3 → L.w (g i) ≤ 60 ∧ L.h (g i) ≤ 60 := sz
    have q0 := sz' a (by omega) (by omega); have q1 := sz' (a + 1) (by omega) (by omega); have q2 := sz' (a + 2) (by omega) (by omega)
    simp only [shW, shH]; omega
  · have sz' : ∀ i, a ≤ i → i < a + 3 → L.w (g i) ≤ 60 ∧ L.h (g i) ≤ 60 := sz
    have q0 := sz' a (by omega) (by omega); have q1 := sz' (a + 1) (by omega) (by omega); have q2 := sz' (a + 2) (by omega) (by omega)
    simp only [shW, shH]; omega
  · have sz' : ∀ i, a ≤ i → i < a + 3 → L.w (g i) ≤ 60 ∧ L.h (g i) ≤ 60 := sz
    have q0 := sz' a (by omega) (by omega); have q1 := sz' (a + 1) (by omega) (by omega); have q2 := sz' (a + 2) (by omega) (by omega)
    simp only [shW, shH]; omega
  · have sz' : ∀ i, a ≤ i → i < a + 4 → L.w (g i) ≤ 60 ∧ L.h (g i) ≤ 60 := sz
    have q0 := sz' a (by omega) (by omega); have q1 := sz' (a + 1) (by omega) (by omega); have q2 := sz' (a + 2) (by omega) (by omega); have q3 := sz' (a + 3) (by omega) (by omega)
    simp only [shW, shH]; omega
  · have sz' : ∀ i, a ≤ i → i < a + 4 → L.w (g i) ≤ 60 ∧ L.h (g i) ≤ 60 := sz
    have q0 := sz' a (by omega) (by omega); have q1 := sz' (a + 1) (by omega) (by omega); have q2 := sz' (a + 2) (by omega) (by omega); have q3 := sz' (a + 3) (by omega) (by omega)
    simp only [shW, shH]; omega
theorem g_in {N : Nat} (hN : 802 < N) {L : Lv} (hL : LOk L) {g : Nat → Nat} {len p : Nat} (hlen : len ≤ 24) (hp : p < len) {k2 : Int32 → Int32 → St → Option (Int32 × St)} : ∀ (k fx fm sh : Nat) (σ τ : St), 11 - sh = k → k < fx → k < fm → sh ≤ 11 → LX 1 σ L → LM τ L → (∀ i, i < len → g i < L.n ∧ σ.1 58 i = nI (g i) ∧ τ.1 44 i = nI (g i)) → (∀ q, p ≤ q → q ≤ len → GE len σ τ q) →
    ok (f_X3_choose_19 58 24 N fx (nI len) (nI p) (nI sh) σ) (fun σ' => ∃ τ', f_X12_groups_34 44 24 N k2 fm (nI len) (nI p) (nI sh) τ = k2 (nI len) (nI p + -1) τ' ∧ (∀ q, p ≤ q → q ≤ len → GE len σ' τ' q) ∧ Fr [41, 42, 43] σ σ' ∧ Fr [52, 53, 54] τ τ') := by
  intro k
  induction k with
  | zero =>
    intro fx fm sh σ τ hk hfx hfm hsh lx lm hg hge
    obtain ⟨fx, rfl⟩ : ∃ f, fx = f + 1 := ⟨fx - 1, by omega⟩
    obtain ⟨fm, rfl⟩ : ∃ f, fm = f + 1 := ⟨fm - 1, by omega⟩
    rw [f_X3_choose_19, f_X12_groups_34, if_pos (show (11 : Int32) ≤ nI sh from nI_le (a := 11) (by omega) (by omega)), if_pos (show (11 : Int32) ≤ nI sh from nI_le (a := 11) (by omega) (by omega)), ok_some]
    exact ⟨τ, rfl, hge, Fr.refl _ _, Fr.refl _ _⟩
  | succ k ih =>
    intro fx fm sh σ τ hk hfx hfm hsh lx lm hg hge
    obtain ⟨fx, rfl⟩ : ∃ f, fx = f + 1 := ⟨fx - 1, by omega⟩
    obtain ⟨fm, rfl⟩ : ∃ f, fm = f + 1 := ⟨fm - 1, by omega⟩
    have hs11 : sh < 11 := by omega
    obtain ⟨z1, z4⟩ := szS_pos sh hs11
    have sk : ok (f_X3_choose_19 58 24 N fx (nI len) (nI p) (nI sh + 1) σ) (fun σ' => ∃ τ', f_X12_groups_34 44 24 N k2 fm (nI len) (nI p) (nI sh + 1) τ = k2 (nI len) (nI p + -1) τ' ∧ (∀ q, p ≤ q → q ≤ len → GE len σ' τ' q) ∧ Fr [41, 42, 43] σ σ' ∧ Fr [52, 53, 54] τ τ') := by
      rw [nI_1]
      exact ih fx fm (sh + 1) σ τ (by omega) (by omega) (by omega) (by omega) lx lm hg hge
    rw [f_X3_choose_19, f_X12_groups_34, if_neg (show ¬ (11 : Int32) ≤ nI sh from nI_ge (b := 11) (by omega) (by omega)), if_neg (show ¬ (11 : Int32) ≤ nI sh from nI_ge (b := 11) (by omega) (by omega)), ib_n (a := sh) (by omega), ib_n (a := sh) (by omega), show xtl.getD 9 0 = 11 from rfl, decide_eq_true hs11, grd_true, grd_true, ncl (a := sh) (by omega), st3_sz sh hs11, nadd p, xtb_at hs11]
    by_cases h1 : len < p + szS sh
    · rw [if_pos (nI_lt h1 (by omega)), if_pos (nI_lt h1 (by omega))]
      exact sk
    · rw [if_neg (nI_nlt (by omega) (by omega)), if_neg (nI_nlt (by omega) (by omega)), ib_n (a := p + szS sh) (by omega), decide_eq_true (show p + szS sh < 25 by omega), ncl (a := p + szS sh) (by omega)]
      simp only [grd_true]
      rcases hge (p + szS sh) (by omega) (by omega) with ⟨a1, a2⟩ | ⟨c, c1, c2, c3, c4, -⟩
      · rw [a1, a2, if_neg (show ¬ nI 1000 < (1000 : Int32) by decide), if_neg (show ¬ nI 1000000000 < (1000000000 : Int32) by decide)]
        exact sk
      · have hgx : ∀ i, p ≤ i → i < p + szS sh → g i < L.n ∧ σ.1 58 i = nI (g i) := fun i h2 h3 => ⟨(hg i (by omega)).1, (hg i (by omega)).2.1⟩
        have hgm : ∀ i, p ≤ i → i < p + szS sh → g i < L.n ∧ τ.1 44 i = nI (g i) := fun i h2 h3 => ⟨(hg i (by omega)).1, (hg i (by omega)).2.2⟩
        have bd := sh_bd hL hs11 (fun i h2 h3 => (hgx i h2 h3).1)
        have e1 := x_edgeIn (r := 58) (rn := 24) hN hL lx hs11 (by omega) (by omega) hgx
        have e2 := m_percentOf (r := 44) (rn := 24) hL lm hs11 (by omega) (by omega) hgm
        generalize max (shW L g p sh) (shH L g p sh) = e at bd e1 e2
        have el : τ.1 2 2 = nI L.lst := lm.2.2.2.2.1
        have o1 : (1 : Int32) + nI c = nI (c + 1) := by rw [show (1 : Int32) = nI 1 from rfl, nadd, Nat.add_comm]
        rw [c2, c3, if_pos (show nI c < (1000 : Int32) from nI_lt (b := 1000) (by omega) (by omega)), if_pos (show nI c < (1000000000 : Int32) from nI_lt (b := 1000000000) (by omega) (by omega)), e1, bo_some, e2, bo_some, x_isLegible hL lx (by omega), bo_some, el, show ib 2 8 = true from rfl, o1, nI_1 c]
        simp only [grd_true]
        by_cases hl : pcS L e < nI L.lst
        · rw [if_pos hl, show lgB L.sq L.lst e = false from decide_eq_false (fun q => q hl), if_pos (show b2 false = 0 from rfl)]
          exact sk
        · rw [if_neg hl, show lgB L.sq L.lst e = true from decide_eq_true hl, if_neg (show ¬ b2 true = 0 by decide), x_percentOf hL lx (by omega), bo_some, ib_n (a := p) (by omega), decide_eq_true (show p < 25 by omega), ncl (a := p) (by omega)]
          simp only [grd_true]
          have tk : ok (f_X3_choose_146 58 24 N (f_X3_choose_19 58 24 N fx) (nI len) (nI p) (nI sh) (nI (c + 1)) (σ.1 42 (p + szS sh) + pcS L e) σ) (fun σ' => ∃ τ', f_X12_groups_158 44 24 N k2 (f_X12_groups_34 44 24 N k2 fm) (nI len) (nI p) (nI sh) (nI (c + 1)) (pcS L e + τ.1 53 (p + szS sh)) τ = k2 (nI len) (nI p + -1) τ' ∧ (∀ q, p ≤ q → q ≤ len → GE len σ' τ' q) ∧ Fr [41, 42, 43] σ σ' ∧ Fr [52, 53, 54] τ τ') := by
            unfold f_X3_choose_146 f_X12_groups_158
            rw [ib_n (a := p) (by omega), decide_eq_true (show p < 25 by omega), ncl (a := p) (by omega), c4, Int32.add_comm (τ.1 53 (p + szS sh)), nI_1 sh]
            simp only [grd_true]
            generalize hv : pcS L e + τ.1 53 (p + szS sh) = v
            have f1 : Fr [41, 42, 43] σ (si (si (si σ 41 p (nI (c + 1))) 42 p v) 43 p (nI sh)) := (((Fr.refl _ _).si _ _ _ rfl).si _ _ _ rfl).si _ _ _ rfl
            have f2 : Fr [52, 53, 54] τ (si (si (si τ 52 p (nI (c + 1))) 53 p v) 54 p (nI sh)) := (((Fr.refl _ _).si _ _ _ rfl).si _ _ _ rfl).si _ _ _ rfl
            have r1 : ∀ j, (si (si (si σ 41 p (nI (c + 1))) 42 p v) 43 p (nI sh)).1 41 j = if j = p then nI (c + 1) else σ.1 41 j := fun j => by simp only [si_rd, reduceIte, Nat.reduceEqDiff]
            have r2 : ∀ j, (si (si (si σ 41 p (nI (c + 1))) 42 p v) 43 p (nI sh)).1 42 j = if j = p then v else σ.1 42 j := fun j => by simp only [si_rd, reduceIte, Nat.reduceEqDiff]
            have r3 : ∀ j, (si (si (si σ 41 p (nI (c + 1))) 42 p v) 43 p (nI sh)).1 43 j = if j = p then nI sh else σ.1 43 j := fun j => by simp only [si_rd, reduceIte, Nat.reduceEqDiff]
            have t1 : ∀ j, (si (si (si τ 52 p (nI (c + 1))) 53 p v) 54 p (nI sh)).1 52 j = if j = p then nI (c + 1) else τ.1 52 j := fun j => by simp only [si_rd, reduceIte, Nat.reduceEqDiff]
            have t2 : ∀ j, (si (si (si τ 52 p (nI (c + 1))) 53 p v) 54 p (nI sh)).1 53 j = if j = p then v else τ.1 53 j := fun j => by simp only [si_rd, reduceIte, Nat.reduceEqDiff]
            have t3 : ∀ j, (si (si (si τ 52 p (nI (c + 1))) 53 p v) 54 p (nI sh)).1 54 j = if j = p then nI sh else τ.1 54 j := fun j => by simp only [si_rd, reduceIte, Nat.reduceEqDiff]
            generalize si (si (si σ 41 p (nI (c + 1))) 42 p v) 43 p (nI sh) = σ1 at *
            generalize si (si (si τ 52 p (nI (c + 1))) 53 p v) 54 p (nI sh) = τ1 at *
            have hs : ∀ j, p < j → σ1.1 41 j = σ.1 41 j ∧ σ1.1 42 j = σ.1 42 j ∧ σ1.1 43 j = σ.1 43 j := fun j hj => ⟨by rw [r1, if_neg (by omega)], by rw [r2, if_neg (by omega)], by rw [r3, if_neg (by omega)]⟩
            have ht : ∀ j, p < j → τ1.1 52 j = τ.1 52 j ∧ τ1.1 53 j = τ.1 53 j ∧ τ1.1 54 j = τ.1 54 j := fun j hj => ⟨by rw [t1, if_neg (by omega)], by rw [t2, if_neg (by omega)], by rw [t3, if_neg (by omega)]⟩
            obtain ⟨σ', ea, τ', eb, y1, y2, y3⟩ := ih fx fm (sh + 1) σ1 τ1 (by omega) (by omega) (by omega) (by omega) (LX_fr (Or.inl rfl) lx f1 rfl) (LM_fr lm f2 rfl) (fun i hi => ⟨(hg i hi).1, by rw [f1.i 58 rfl]; exact (hg i hi).2.1, by rw [f2.i 44 rfl]; exact (hg i hi).2.2⟩) (fun q h2 h3 => by
              by_cases e : q = p
              · refine Or.inr ⟨c + 1, by omega, by rw [r1, if_pos e], by rw [t1, if_pos e], by rw [r2, t2, if_pos e, if_pos e], fun _ => ⟨sh, hs11, by omega, by rw [r3, if_pos e], by rw [t3, if_pos e], c, by omega, ?_⟩⟩
                rw [e, r1, if_neg (by omega)]; exact c2
              · exact (hge q h2 h3).up (p := p) (by omega) hs ht)
            exact ⟨σ', ea, τ', eb, y1, f1.trans y2, f2.trans y3⟩
          rcases hge p (by omega) (by omega) with ⟨a1, a2⟩ | ⟨d, d1, d2, d3, d4, -⟩
          · rw [a1, a2, if_pos (nI_lt (by omega) (by omega)), if_neg (nI_nlt (by omega) (by omega)), if_neg (fun q => by have := (neq (by omega) (by omega)).mp q; omega)]
            exact tk
          · rw [d2, d3]
            by_cases hc1 : c + 1 < d
            · rw [if_pos (nI_lt hc1 (by omega)), if_neg (nI_nlt (by omega) (by omega)), if_neg (fun q => by have := (neq (by omega) (by omega)).mp q; omega)]
              exact tk
            · rw [if_neg (show ¬ nI (c + 1) < nI d from nI_nlt (by omega) (by omega))]
              by_cases hc2 : c + 1 = d
              · subst hc2
                rw [if_pos rfl, if_neg (show ¬ nI (c + 1) < nI (c + 1) from nI_nlt (by omega) (by omega)), if_pos rfl, d4, c4, Int32.add_comm (τ.1 53 (p + szS sh))]
                rw [c4, Int32.add_comm (τ.1 53 (p + szS sh))] at tk
                by_cases hv : τ.1 53 p < pcS L e + τ.1 53 (p + szS sh)
                · rw [if_pos hv, if_neg (Int32.not_le.2 hv)]
                  exact tk
                · rw [if_neg hv, if_pos (Int32.not_lt.1 hv)]
                  exact sk
              · rw [if_neg (fun q => by have := (neq (by omega) (by omega)).mp q; omega), if_pos (nI_lt (by omega) (by omega))]
                exact sk
