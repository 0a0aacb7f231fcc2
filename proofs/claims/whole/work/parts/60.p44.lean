/-! group -/
theorem nI_back (m : Nat) : nI (m + 1) + -1 = nI m := by
  rw [← nI_1, Int32.add_assoc, show (1 : Int32) + -1 = 0 from by decide, Int32.add_zero]
theorem g_skip {N len : Nat} (hlen : len ≤ 24) {k2 : Int32 → Int32 → St → Option (Int32 × St)} {τ : St} : ∀ (k fm sh : Nat), 11 - sh = k → k < fm → sh ≤ 11 → f_X12_groups_34 44 24 N k2 fm (nI len) (nI len) (nI sh) τ = k2 (nI len) (nI len + -1) τ := by
  intro k
  induction k with
  | zero =>
    intro fm sh hk hfm hsh
    obtain ⟨fm, rfl⟩ : ∃ f, fm = f + 1 := ⟨fm - 1, by omega⟩
    rw [f_X12_groups_34, if_pos (show (11 : Int32) ≤ nI sh from nI_le (a := 11) (by omega) (by omega))]
  | succ k ih =>
    intro fm sh hk hfm hsh
    obtain ⟨fm, rfl⟩ : ∃ f, fm = f + 1 := ⟨fm - 1, by omega⟩
    have hs11 : sh < 11 := by omega
    obtain ⟨z1, z4⟩ := szS_pos sh hs11
    rw [f_X12_groups_34, if_neg (show ¬ (11 : Int32) ≤ nI sh from nI_ge (b := 11) (by omega) (by omega)), ib_n (a := sh) (by omega), show xtl.getD 9 0 = 11 from rfl, decide_eq_true hs11, grd_true, ncl (a := sh) (by omega), xtb_at hs11, if_pos (nI_lt (by omega) (by omega)), nI_1]
    exact ih fm (sh + 1) (by omega) (by omega) (by omega)
theorem g_out {N : Nat} (hN : 802 < N) {L : Lv} (hL : LOk L) {g : Nat → Nat} {len : Nat} (hlen : len ≤ 24) : ∀ (m fx fm : Nat) (σ τ : St), m ≤ len → m < fx → m < fm → LX 1 σ L → LM τ L → (∀ i, i < len → g i < L.n ∧ σ.1 58 i = nI (g i) ∧ τ.1 44 i = nI (g i)) → (∀ q, m ≤ q → q ≤ len → GE len σ τ q) →
    ∃ σ' τ', f_X3_arrange_18 58 24 N fx (nI len) (nI m + -1) σ = (if σ'.1 41 0 < 1000 then bo (f_X3_keepChoices 58 24 N (nI len) σ') (fun σ6 => some (σ6.1 9004 0, σ6)) else some (-1, σ')) ∧ f_X12_groups_2 44 24 N fm (nI len) (nI m + -1) τ = some (τ'.1 52 0, τ') ∧ (∀ q, q ≤ len → GE len σ' τ' q) ∧ Fr [41, 42, 43] σ σ' ∧ Fr [52, 53, 54] τ τ' := by
  intro m
  induction m with
  | zero =>
    intro fx fm σ τ hm hfx hfm lx lm hg hge
    obtain ⟨fx, rfl⟩ : ∃ f, fx = f + 1 := ⟨fx - 1, by omega⟩
    obtain ⟨fm, rfl⟩ : ∃ f, fm = f + 1 := ⟨fm - 1, by omega⟩
    refine ⟨σ, τ, ?_, ?_, fun q hq => hge q (by omega) hq, Fr.refl _ _, Fr.refl _ _⟩
    · rw [f_X3_arrange_18, if_pos (show nI 0 + -1 < (0 : Int32) by decide), show ib 0 25 = true from rfl, grd_true]
    · rw [f_X12_groups_2, if_pos (show nI 0 + -1 < (0 : Int32) by decide), show ib 0 25 = true from rfl, grd_true]
  | succ m ih =>
    intro fx fm σ τ hm hfx hfm lx lm hg hge
    obtain ⟨fx, rfl⟩ : ∃ f, fx = f + 1 := ⟨fx - 1, by omega⟩
    obtain ⟨fm, rfl⟩ : ∃ f, fm = f + 1 := ⟨fm - 1, by omega⟩
    have nz : ¬ nI m < (0 : Int32) := nI_nlt (b := 0) (by omega) (by omega)
    rw [nI_back, f_X3_arrange_18, f_X12_groups_2, if_neg nz, if_neg nz, if_neg (fun q => by have := (neq (by omega) (by omega)).mp q; omega), f_X3_choose, f_X12_groups_23, ib_n (a := m) (by omega), decide_eq_true (show m < 25 by omega), ncl (a := m) (by omega)]
    simp only [grd_true]
    have f1 : Fr [41, 42, 43] σ (si (si σ 41 m 1000) 42 m 0) := ((Fr.refl _ _).si _ _ _ rfl).si _ _ _ rfl
    have f2 : Fr [52, 53, 54] τ (si (si τ 52 m 1000000000) 53 m 0) := ((Fr.refl _ _).si _ _ _ rfl).si _ _ _ rfl
    have r1 : ∀ j, (si (si σ 41 m 1000) 42 m 0).1 41 j = if j = m then 1000 else σ.1 41 j := fun j => by simp only [si_rd, reduceIte, Nat.reduceEqDiff]
    have r2 : ∀ j, (si (si σ 41 m 1000) 42 m 0).1 42 j = if j = m then 0 else σ.1 42 j := fun j => by simp only [si_rd, reduceIte, Nat.reduceEqDiff]
    have r3 : ∀ j, (si (si σ 41 m 1000) 42 m 0).1 43 j = σ.1 43 j := fun j => by simp only [si_rd, reduceIte, Nat.reduceEqDiff]
    have t1 : ∀ j, (si (si τ 52 m 1000000000) 53 m 0).1 52 j = if j = m then 1000000000 else τ.1 52 j := fun j => by simp only [si_rd, reduceIte, Nat.reduceEqDiff]
    have t2 : ∀ j, (si (si τ 52 m 1000000000) 53 m 0).1 53 j = if j = m then 0 else τ.1 53 j := fun j => by simp only [si_rd, reduceIte, Nat.reduceEqDiff]
    have t3 : ∀ j, (si (si τ 52 m 1000000000) 53 m 0).1 54 j = τ.1 54 j := fun j => by simp only [si_rd, reduceIte, Nat.reduceEqDiff]
    generalize si (si σ 41 m 1000) 42 m 0 = σ1 at *
    generalize si (si τ 52 m 1000000000) 53 m 0 = τ1 at *
    have hge1 : ∀ q, m ≤ q → q ≤ len → GE len σ1 τ1 q := fun q h2 h3 => by
      by_cases e : q = m
      · refine Or.inl ⟨?_, ?_⟩
        · rw [r1, if_pos e]; decide
        · rw [t1, if_pos e]; decide
      · exact (hge q (by omega) h3).up (p := m) (by omega) (fun j hj => ⟨by rw [r1, if_neg (by omega)], by rw [r2, if_neg (by omega)], r3 j⟩) (fun j hj => ⟨by rw [t1, if_neg (by omega)], by rw [t2, if_neg (by omega)], t3 j⟩)
    have lx1 := LX_fr (Or.inl rfl) lx f1 rfl
    have lm1 := LM_fr lm f2 rfl
    have hg1 : ∀ i, i < len → g i < L.n ∧ σ1.1 58 i = nI (g i) ∧ τ1.1 44 i = nI (g i) := fun i hi => ⟨(hg i hi).1, by rw [f1.i 58 rfl]; exact (hg i hi).2.1, by rw [f2.i 44 rfl]; exact (hg i hi).2.2⟩
    obtain ⟨σ2, ea, τ2, eb, y1, y2, y3⟩ := g_in hN hL (g := g) hlen (show m < len by omega) (k2 := f_X12_groups_2 44 24 N fm) 11 N N 0 σ1 τ1 rfl (by omega) (by omega) (by omega) lx1 lm1 hg1 hge1
    rw [show (0 : Int32) = nI 0 from rfl, ea, bo_some, eb]
    obtain ⟨σ', τ', w1, w2, w3, w4, w5⟩ := ih fx fm σ2 τ2 (by omega) (by omega) (by omega) (LX_fr (Or.inl rfl) lx1 y2 rfl) (LM_fr lm1 y3 rfl) (fun i hi => ⟨(hg1 i hi).1, by rw [y2.i 58 rfl]; exact (hg1 i hi).2.1, by rw [y3.i 44 rfl]; exact (hg1 i hi).2.2⟩) y1
    exact ⟨σ', τ', w1, w2, w3, (f1.trans y2).trans w4, (f2.trans y3).trans w5⟩
theorem g_keep {N : Nat} (hN : 802 < N) {L : Lv} (hL : LOk L) {g : Nat → Nat} {len : Nat} (hlen : len ≤ 24) {σ0 τ0 : St} (lx : LX 1 σ0 L) (lm : LM τ0 L) (h69 : τ0.1 1069 0 = nI len) (hg : ∀ i, i < len → g i < L.n ∧ σ0.1 58 i = nI (g i) ∧ τ0.1 44 i = nI (g i)) (hge : ∀ q, q ≤ len → GE len σ0 τ0 q) : ∀ (k fx fm q i : Nat) (σ τ : St), len - q = k → k < fx → k < fm → q ≤ len → i ≤ q → gfin σ0 q → Fr [44, 45, 9004] σ0 σ → Fr [55, 56, 1082] τ0 τ → σ.1 9004 0 = nI i → τ.1 1082 0 = nI i → (∀ j, j < i → σ.1 44 j = τ.1 55 j ∧ σ.1 45 j = τ.1 56 j) →
    ok (f_X3_keepChoices_10 58 24 N fx (nI len) (nI q) (nI i) σ) (fun σ' => ok (f_X12_group_37 N fm (nI q) τ) (fun c => σ'.1 9004 0 = c.1 ∧ RGroup σ' c.2 ∧ Fr [44, 45, 9004] σ0 σ' ∧ Fr [55, 56, 1082] τ0 c.2)) := by
  intro k
  induction k using Nat.strongRecOn with
  | ind k ih =>
    intro fx fm q i σ τ hk hfx hfm hq hi gf fs ft n1 n2 hj
    obtain ⟨fx, rfl⟩ : ∃ f, fx = f + 1 := ⟨fx - 1, by omega⟩
    obtain ⟨fm, rfl⟩ : ∃ f, fm = f + 1 := ⟨fm - 1, by omega⟩
    by_cases e : q = len
    · subst e
      have en : f_X3_keepChoices_10 58 24 N (fx + 1) (nI q) (nI q) (nI i) σ = some σ := by
        rw [f_X3_keepChoices_10, if_pos (show nI q ≤ nI q from nI_le (by omega) (by omega))]
        by_cases h : nI q ≤ nI i
        · rw [if_pos h]
        · rw [if_neg h]
      rw [en, ok_some, f_X12_group_37, ft.i 1069 rfl, h69, if_pos (show nI q ≤ nI q from nI_le (by omega) (by omega)), ok_some]
      exact ⟨by rw [n1, n2], ⟨i, by omega, n1, n2, hj⟩, fs, ft⟩
    · have hql : q < len := by omega
      have main : ∃ sh, sh < 11 ∧ q + szS sh ≤ len ∧ σ0.1 43 q = nI sh ∧ τ0.1 54 q = nI sh ∧ gfin σ0 (q + szS sh) := by
        rcases hge q hq with ⟨a1, a2⟩ | ⟨c, c1, c2, c3, c4, c5⟩
        · obtain ⟨c, hc, e⟩ := gf
          rw [a1] at e
          have := (neq (by omega) (by omega)).mp e
          omega
        · exact c5 hql
      obtain ⟨sh, hs11, hsl, s1, s2, gf2⟩ := main
      obtain ⟨z1, z4⟩ := szS_pos sh hs11
      have u1 : σ.1 43 q = nI sh := by rw [fs.i 43 rfl]; exact s1
      have u2 : τ.1 54 q = nI sh := by rw [ft.i 54 rfl]; exact s2
      have f1 : Fr [44, 45, 9004] σ0 (si σ 44 i (nI sh)) := fs.si _ _ _ rfl
      have g1 : Fr [55, 56, 1082] τ0 (si τ 55 i (nI sh)) := ft.si _ _ _ rfl
      have hgx : ∀ j, q ≤ j → j < q + szS sh → g j < L.n ∧ (si σ 44 i (nI sh)).1 58 j = nI (g j) := fun j h2 h3 => ⟨(hg j (by omega)).1, by rw [f1.i 58 rfl]; exact (hg j (by omega)).2.1⟩
      have hgm : ∀ j, q ≤ j → j < q + szS sh → g j < L.n ∧ (si τ 55 i (nI sh)).1 44 j = nI (g j) := fun j h2 h3 => ⟨(hg j (by omega)).1, by rw [g1.i 44 rfl]; exact (hg j (by omega)).2.2⟩
      have bd := sh_bd hL hs11 (fun j h2 h3 => (hgx j h2 h3).1)
      have lx1 := LX_fr (Or.inl rfl) lx f1 rfl
      have e1 := x_edgeIn (r := 58) (rn := 24) hN hL lx1 hs11 (by omega) (by omega) hgx
      have e2 := m_percentOf (r := 44) (rn := 24) hL (LM_fr lm g1 rfl) hs11 (by omega) (by omega) hgm
      generalize max (shW L g q sh) (shH L g q sh) = e at bd e1 e2
      have e3 := x_percentOf hL lx1 (e := e) (by omega)
      generalize pcS L e = v at e2 e3
      rw [f_X3_keepChoices_10, f_X12_group_37, ft.i 1069 rfl, h69, if_neg (show ¬ nI len ≤ nI i from nI_ge (by omega) (by omega)), if_neg (show ¬ nI len ≤ nI q from nI_ge (by omega) (by omega)), if_neg (show ¬ nI len ≤ nI q from nI_ge (by omega) (by omega)), n1, n2, ib_n (a := q) (by omega), decide_eq_true (show q < 25 by omega), ib_n (a := i) (by omega), decide_eq_true (show i < 24 by omega), ncl (a := q) (by omega), ncl (a := i) (by omega), u1, u2, ib_n (a := sh) (by omega), ib_n (a := sh) (by omega), show xtl.getD 9 0 = 11 from rfl, decide_eq_true hs11, ncl (a := sh) (by omega), st3_sz sh hs11, xtb_sz sh hs11, e1, e2]
      simp only [grd_true, bo_some]
      rw [e3, bo_some, nadd q, nI_1 i]
      have f3 : Fr [44, 45, 9004] σ0 (si (si (si σ 44 i (nI sh)) 45 i v) 9004 0 (nI (i + 1))) := (f1.si _ _ _ rfl).si _ _ _ rfl
      have g3 : Fr [55, 56, 1082] τ0 (si (si (si τ 55 i (nI sh)) 56 i v) 1082 0 (nI (i + 1))) := (g1.si _ _ _ rfl).si _ _ _ rfl
      refine ih (len - (q + szS sh)) (by omega) fx fm (q + szS sh) (i + 1) _ _ rfl (by omega) (by omega) hsl (by omega) gf2 f3 g3 ?_ ?_ (fun j hj1 => ?_)
      · rw [si_rd, if_pos rfl, if_pos rfl]
      · rw [si_rd, if_pos rfl, if_pos rfl]
      · have r1 : (si (si (si σ 44 i (nI sh)) 45 i v) 9004 0 (nI (i + 1))).1 44 j = if j = i then nI sh else σ.1 44 j := by simp only [si_rd, reduceIte, Nat.reduceEqDiff]
        have r2 : (si (si (si σ 44 i (nI sh)) 45 i v) 9004 0 (nI (i + 1))).1 45 j = if j = i then v else σ.1 45 j := by simp only [si_rd, reduceIte, Nat.reduceEqDiff]
        have r3 : (si (si (si τ 55 i (nI sh)) 56 i v) 1082 0 (nI (i + 1))).1 55 j = if j = i then nI sh else τ.1 55 j := by simp only [si_rd, reduceIte, Nat.reduceEqDiff]
        have r4 : (si (si (si τ 55 i (nI sh)) 56 i v) 1082 0 (nI (i + 1))).1 56 j = if j = i then v else τ.1 56 j := by simp only [si_rd, reduceIte, Nat.reduceEqDiff]
        rw [r1, r2, r3, r4]
        by_cases e : j = i
        · rw [if_pos e, if_pos e, if_pos e, if_pos e]; exact ⟨rfl, rfl⟩
        · rw [if_neg e, if_neg e, if_neg e, if_neg e]; exact hj j (by omega)
theorem c_group {N : Nat} (hN : 802 < N) {σ τ : St} {L : Lv} (rl : RList σ τ L) (rr : RRow σ τ L.n) (rg : RGroup σ τ) : ok (f_X11_group N σ) (fun a => ok (f_X12_group N τ) (fun c => a.1 = c.1 ∧ RGroup a.2 c.2 ∧ Fr [41, 42, 43, 44, 45, 9004] σ a.2 ∧ Fr [52, 53, 54, 55, 56, 1082] τ c.2)) := by
  obtain ⟨hL, lx, lm⟩ := rl
  obtain ⟨len, g, hlen, h1, h2, hg⟩ := row_g hL.1 rr
  unfold f_X11_group f_X12_group
  rw [h1, h2]
  by_cases e : len = 0
  · subst e
    rw [if_pos (show nI 0 = (0 : Int32) from rfl), if_pos (show nI 0 = (0 : Int32) from rfl), ok_some, ok_some]
    exact ⟨rfl, rg, Fr.refl _ _, Fr.refl _ _⟩
  · have nz : ¬ nI len = (0 : Int32) := nI_ne0 (by omega) (by omega)
    rw [if_neg nz, if_neg nz, f_X3_arrange, f_X12_groups, ib_n (a := len) (by omega), decide_eq_true (show len < 25 by omega), ncl (a := len) (by omega), grd_true, grd_true, Int32.sub_eq_add_neg]
    obtain ⟨N', hN'⟩ : ∃ f, N = f + 1 := ⟨N - 1, by omega⟩
    have st : f_X12_groups_2 44 24 N N (nI len) (nI len) τ = f_X12_groups_2 44 24 N N' (nI len) (nI len + -1) (si (si τ 52 len 0) 53 len 0) := by
      conv => lhs; arg 4; rw [hN']
      rw [f_X12_groups_2, if_neg (show ¬ nI len < (0 : Int32) from nI_nlt (b := 0) (by omega) (by omega)), if_pos rfl, f_X12_groups_23, ib_n (a := len) (by omega), decide_eq_true (show len < 25 by omega), ncl (a := len) (by omega), grd_true, grd_true]
      exact g_skip hlen 11 N 0 rfl (by omega) (by omega)
    rw [st]
    have f1 : Fr [41, 42, 43] σ (si (si σ 41 len 0) 42 len 0) := ((Fr.refl _ _).si _ _ _ rfl).si _ _ _ rfl
    have f2 : Fr [52, 53, 54] τ (si (si τ 52 len 0) 53 len 0) := ((Fr.refl _ _).si _ _ _ rfl).si _ _ _ rfl
    have r1 : (si (si σ 41 len 0) 42 len 0).1 41 len = 0 := by simp only [si_rd, reduceIte, Nat.reduceEqDiff]
    have r2 : (si (si σ 41 len 0) 42 len 0).1 42 len = 0 := by simp only [si_rd, reduceIte, Nat.reduceEqDiff]
    have t1 : (si (si τ 52 len 0) 53 len 0).1 52 len = 0 := by simp only [si_rd, reduceIte, Nat.reduceEqDiff]
    have t2 : (si (si τ 52 len 0) 53 len 0).1 53 len = 0 := by simp only [si_rd, reduceIte, Nat.reduceEqDiff]
    generalize si (si σ 41 len 0) 42 len 0 = σ1 at *
    generalize si (si τ 52 len 0) 53 len 0 = τ1 at *
    have lx1 := LX_fr (Or.inl rfl) lx f1 rfl
    have lm1 := LM_fr lm f2 rfl
    have hg1 : ∀ i, i < len → g i < L.n ∧ σ1.1 58 i = nI (g i) ∧ τ1.1 44 i = nI (g i) := fun i hi => ⟨(hg i hi).1, by rw [f1.i 58 rfl]; exact (hg i hi).2.1, by rw [f2.i 44 rfl]; exact (hg i hi).2.2⟩
    obtain ⟨σ2, τ2, w1, w2, w3, w4, w5⟩ := g_out hN hL (g := g) hlen len N N' σ1 τ1 (by omega) (by omega) (by omega) lx1 lm1 hg1 (fun q h3 h4 => by
      have eq : q = len := by omega
      rw [eq]
      exact Or.inr ⟨0, by omega, by rw [r1]; rfl, by rw [t1]; rfl, by rw [r2, t2], fun h => absurd h (by omega)⟩)
    rw [w1, w2, bd_some]
    have F1 := f1.trans w4
    have F2 := f2.trans w5
    have lx2 := LX_fr (Or.inl rfl) lx F1 rfl
    have lm2 := LM_fr lm F2 rfl
    have hg2 : ∀ i, i < len → g i < L.n ∧ σ2.1 58 i = nI (g i) ∧ τ2.1 44 i = nI (g i) := fun i hi => ⟨(hg i hi).1, by rw [F1.i 58 rfl]; exact (hg i hi).2.1, by rw [F2.i 44 rfl]; exact (hg i hi).2.2⟩
    rcases w3 0 (by omega) with ⟨a1, a2⟩ | ⟨c, c1, c2, c3, c4, -⟩
    · rw [a1, a2, if_neg (show ¬ nI 1000 < (1000 : Int32) by decide), if_neg (show ¬ nI 1000000000 < (1000000000 : Int32) by decide), bd_some, ok_some, ok_some]
      exact ⟨rfl, rg.fr F1 F2 rfl rfl, F1.wide rfl, F2.wide rfl⟩
    · rw [c2, c3, if_pos (show nI c < (1000 : Int32) from nI_lt (b := 1000) (by omega) (by omega)), if_pos (show nI c < (1000000000 : Int32) from nI_lt (b := 1000000000) (by omega) (by omega)), f_X3_keepChoices]
      have f5 : Fr [44, 45, 9004] σ2 (si σ2 9004 0 0) := (Fr.refl _ _).si _ _ _ rfl
      have g5 : Fr [55, 56, 1082] τ2 (si τ2 1082 0 0) := (Fr.refl _ _).si _ _ _ rfl
      obtain ⟨σ3, ea, c3', eb, y1, y2, y3, y4⟩ := g_keep hN hL (g := g) hlen lx2 lm2 (by rw [F2.i 1069 rfl]; exact h2) hg2 w3 len N N 0 0 _ _ rfl (by omega) (by omega) (by omega) (by omega) ⟨c, by omega, c2⟩ f5 g5 (by rw [si_rd, if_pos rfl, if_pos rfl]; rfl) (by rw [si_rd, if_pos rfl, if_pos rfl]; rfl) (fun j hj => absurd hj (by omega))
      rw [show (0 : Int32) = nI 0 from rfl] at *
      rw [ea, bo_some, bd_some, ok_some, eb, ok_some]
      exact ⟨y1, y2, (F1.wide rfl).trans (y3.wide rfl), (F2.wide rfl).trans (y4.wide rfl)⟩
