theorem blocks_g {σ τ : St} {ns : Nat} (hns : ns ≤ 40) (h : RBlocks σ τ ns) : ∃ (nb nl : Nat) (g : Nat → Nat), nb ≤ 12 ∧ nl ≤ 24 ∧ σ.1 5602 0 = nI nb ∧ τ.1 1035 0 = nI nb ∧ σ.1 5605 0 = nI nl ∧ τ.1 1036 0 = nI nl ∧ (∀ i, i < nl → g i < ns ∧ σ.1 26 i = nI (g i) ∧ τ.1 23 i = nI (g i)) := by
  obtain ⟨nb, nl, hb, hl, b1, b2, b3, b4, b5, b6⟩ := h
  refine ⟨nb, nl, fun i => (τ.1 23 i).toNatClampNeg, hb, hl, b1, b2, b3, b4, fun i hi => ?_⟩
  obtain ⟨d1, ⟨s, hs, d2⟩, _⟩ := b6 i hi
  show (τ.1 23 i).toNatClampNeg < ns ∧ σ.1 26 i = nI (τ.1 23 i).toNatClampNeg ∧ τ.1 23 i = nI (τ.1 23 i).toNatClampNeg
  rw [d1, d2, ncl (by omega)]; exact ⟨hs, rfl, rfl⟩
theorem judge_sp {N : Nat} (hN : 802 < N) {L : Lv} {nt : Nat} {T : Nat → Tv} (hL : LOk L) (hT : TOk nt T) {g : Nat → Nat} {len np : Nat} (hlen : len ≤ 24) (hnp : np ≤ 12) {f : Nat → Nat} {σ0 τ0 : St} (lx : LX 1 σ0 L) (tx : TX σ0 nt T) (tm : TM τ0 nt T) (nm : NM τ0 L) (a1 : σ0.1 14402 0 = nI np) (a2 : τ0.1 1085 0 = nI np) (a3 : σ0.1 5605 0 = nI len) (a4 : τ0.1 1036 0 = nI len) (hg : ∀ i, i < len → g i < L.n ∧ σ0.1 26 i = nI (g i) ∧ τ0.1 23 i = nI (g i)) (hf : ∀ i, i < np → f i < nt ∧ σ0.1 68 i = nI (f i) ∧ τ0.1 57 i = nI (f i)) : ∀ (k fx fm i D : Nat) (σ τ : St), np - i = k → k < fx → k < fm → i ≤ np → D < 33554432 → Fr VS σ0 σ → FrP P37 τ0 τ →
    ok (f_X11_judgeSpellings_4 N fx (nI D) (nI i) σ) (fun a => ok (f_X12_judge_56 N fm (nI D) (nI i) τ) (fun c => a.1 = c.1 ∧ Fr VS σ0 a.2 ∧ FrP P37 τ0 c.2)) := by
  have h40 := hT.1
  intro k
  induction k with
  | zero =>
    intro fx fm i D σ τ hk hfx hfm hi hD fs ft
    obtain ⟨fx, rfl⟩ : ∃ f, fx = f + 1 := ⟨fx - 1, by omega⟩
    obtain ⟨fm, rfl⟩ : ∃ f, fm = f + 1 := ⟨fm - 1, by omega⟩
    rw [f_X11_judgeSpellings_4, f_X12_judge_56, fs.i 14402 rfl, a1, (ft 1085 0 (by unfold P37; omega)).1, a2, if_pos (nI_le (by omega) (by omega)), if_pos (nI_le (by omega) (by omega)), fs.i 5605 rfl, a3, (ft 1036 0 (by unfold P37; omega)).1, a4, show (1 : Int32) = nI 1 from rfl, nbit (by omega) (by omega), nsbit (by omega) (by omega)]
    by_cases hb : D.testBit len = true
    · rw [if_pos hb, if_pos rfl, if_pos rfl, ok_some, ok_some]; exact ⟨rfl, fs, ft⟩
    · rw [if_neg hb, if_neg (show ¬ nI 0 = nI 1 by decide), if_neg (show ¬ nI 0 = nI 1 by decide), ok_some, ok_some]; exact ⟨rfl, fs, ft⟩
  | succ k ih =>
    intro fx fm i D σ τ hk hfx hfm hi hD fs ft
    obtain ⟨fx, rfl⟩ : ∃ f, fx = f + 1 := ⟨fx - 1, by omega⟩
    obtain ⟨fm, rfl⟩ : ∃ f, fm = f + 1 := ⟨fm - 1, by omega⟩
    obtain ⟨h1, h2, h3⟩ := hf i (by omega)
    rw [f_X11_judgeSpellings_4, f_X12_judge_56, fs.i 14402 rfl, a1, (ft 1085 0 (by unfold P37; omega)).1, a2, if_neg (nI_ge (by omega) (by omega)), if_neg (nI_ge (by omega) (by omega)), ib_n (by omega), decide_eq_true (show i < 12 by omega), grd_true, ncl (by omega), fs.i 68 rfl, h2]
    obtain ⟨σ1, l1, sx, f1⟩ := x_look (Or.inl rfl) (LX1_fr lx fs rfl) (tx.fr fs rfl) h40 h1
    have F1 := fs.trans f1
    obtain ⟨E, e1, hE, hb⟩ := x_endsFromAny (r := 26) (rn := 24) hN sx hL (TOk_t hT h1) hlen hlen (by omega) (g := g) (fun j hj => ⟨(hg j hj).1, by rw [F1.i 26 rfl]; exact (hg j hj).2.1⟩) hD
    rw [l1, bo_some, F1.i 5605 rfl, a3, e1, bo_some]
    have tmt : TMt τ (f i) (T (f i)) := (TM_t tm h40 h1).frP ft P37_t
    have main : ok (f_X12_judge_69 N (f_X12_judge_56 N fm) N (nI D) (nI i) 0 0 τ) (fun c => ok (if nI E = 0 then some (2000 + nI i, σ1) else f_X11_judgeSpellings_4 N fx (nI E) (nI i + 1) σ1) (fun a => a.1 = c.1 ∧ Fr VS σ0 a.2 ∧ FrP P37 τ0 c.2)) := by
      refine m_reach hN hL (TOk_t hT h1) (g := g) hlen hD (by omega) (nm.frP ft P37_n) tmt (by rw [(ft 1036 0 (by unfold P37; omega)).1]; exact a4) (by rw [(ft 57 i (by unfold P37; omega)).1]; exact h3) (fun j hj => ⟨(hg j hj).1, by rw [(ft 23 j (by unfold P37; omega)).1]; exact (hg j hj).2.2⟩) (fun E' τ' hE' hb' ft' => ?_)
      have hEE : E' = E := bits25 (fun j => (hb' j).trans (hb j).symm)
      subst hEE
      have FT := ft.trans ft'
      by_cases h0 : nI E' = 0
      · rw [if_pos h0, if_pos h0, ok_some, ok_some]; exact ⟨rfl, F1, FT⟩
      · rw [if_neg h0, if_neg h0, nI_1]
        obtain ⟨a, ea, c, ec, hh⟩ := ih fx fm (i + 1) E' σ1 τ' (by omega) (by omega) (by omega) (by omega) hE F1 FT
        rw [ec, ok_some, ea, ok_some]
        exact hh
    obtain ⟨c, ec, a, ea, hh⟩ := main
    rw [ea, ok_some, ec, ok_some]
    exact hh
theorem pass_f {σ τ : St} {nt : Nat} (hnt : nt ≤ 40) (h : RPass σ τ nt) : ∃ (np : Nat) (f : Nat → Nat), np ≤ 12 ∧ σ.1 14402 0 = nI np ∧ τ.1 1085 0 = nI np ∧ (∀ i, i < np → f i < nt ∧ σ.1 68 i = nI (f i) ∧ τ.1 57 i = nI (f i)) := by
  obtain ⟨n, h1, h2, h3, h4⟩ := h
  refine ⟨n, fun i => (τ.1 57 i).toNatClampNeg, h1, h2, h3, fun i hi => ?_⟩
  obtain ⟨a, s, b, c⟩ := h4 i hi
  show (τ.1 57 i).toNatClampNeg < nt ∧ σ.1 68 i = nI (τ.1 57 i).toNatClampNeg ∧ τ.1 57 i = nI (τ.1 57 i).toNatClampNeg
  rw [a, c, ncl (by omega)]; exact ⟨b, rfl, rfl⟩
theorem c_judge {N : Nat} (hN : 802 < N) {σ τ : St} {L : Lv} {nt : Nat} {T : Nat → Tv} (rl : RList σ τ L) (rT : RTerms σ τ nt T) (rb : RBlocks σ τ L.n) (rp : RPass σ τ nt) : ok (f_X11_judge N σ) (fun a => ok (f_X12_judge N τ) (fun c => a.1 = c.1 ∧ Fr VS σ a.2 ∧ Fr [34, 35, 36, 37] τ c.2)) := by
  obtain ⟨nb, nl, g, hb, hl, b1, bb2, b3, b4, hg⟩ := blocks_g rl.1.1 rb
  obtain ⟨np, f, hnp, p1, p2, hf⟩ := pass_f rT.1.1 rp
  unfold f_X11_judge f_X12_judge
  rw [b1, bb2, p1, p2]
  have same : ∀ r : Int32, ok (some (r, σ)) (fun a => ok (some (r, τ)) (fun c => a.1 = c.1 ∧ Fr VS σ a.2 ∧ Fr [34, 35, 36, 37] τ c.2)) := by
    intro r; rw [ok_some, ok_some]; exact ⟨rfl, Fr.refl _ _, Fr.refl _ _⟩
  by_cases h0 : nb = 0
  · rw [h0, if_pos (show nI 0 = (0 : Int32) from rfl), if_pos (show nI 0 = (0 : Int32) from rfl)]; exact same _
  have hne : ¬ nI nb = (0 : Int32) := nI_ne0 (by omega) (by omega)
  rw [if_neg hne, if_neg hne]
  by_cases h1 : np = 0
  · rw [h1, if_pos (show nI 0 = (0 : Int32) from rfl), if_pos (show nI 0 = (0 : Int32) from rfl)]; exact same _
  have hne2 : ¬ nI np = (0 : Int32) := nI_ne0 (by omega) (by omega)
  rw [if_neg hne2, if_neg hne2]
  unfold f_X1_firstIllegible
  have key : ∀ (k fx fm i : Nat), nb - i = k → k < fx → k < fm → i ≤ nb → (∃ j, j < nb ∧ f_X1_firstIllegible_2 N fx (nI i) σ = some (nI j) ∧ f_X12_judge_19 N fm (nI i) τ = some (1000 + nI j, τ)) ∨ (f_X1_firstIllegible_2 N fx (nI i) σ = some (-1) ∧ f_X12_judge_19 N fm (nI i) τ = bo (f_X12_asListed N τ) (fun σ4 => f_X12_judge_56 N N 1 0 σ4)) := by
    intro k
    induction k with
    | zero =>
      intro fx fm i hk hfx hfm hi
      obtain ⟨fx, rfl⟩ : ∃ f, fx = f + 1 := ⟨fx - 1, by omega⟩
      obtain ⟨fm, rfl⟩ : ∃ f, fm = f + 1 := ⟨fm - 1, by omega⟩
      right
      rw [f_X1_firstIllegible_2, f_X12_judge_19, b1, bb2, if_pos (nI_le (by omega) (by omega)), if_pos (nI_le (by omega) (by omega))]
      exact ⟨rfl, rfl⟩
    | succ k ih =>
      intro fx fm i hk hfx hfm hi
      obtain ⟨fx, rfl⟩ : ∃ f, fx = f + 1 := ⟨fx - 1, by omega⟩
      obtain ⟨fm, rfl⟩ : ∃ f, fm = f + 1 := ⟨fm - 1, by omega⟩
      obtain ⟨nb', nl', _, _, y1, _, _, _, c5, _⟩ := rb
      have hnb' : nb' = nb := (neq (by omega) (by omega)).mp (y1.symm.trans b1)
      subst hnb'
      obtain ⟨_, bw, bh, c2, c3, c4, c6, c7⟩ := c5 i (by omega)
      have h8 := rl.1.2.2.2.1
      have q2 : τ.1 2 1 = nI L.sq := rl.2.2.2.2.2.1
      have l2 : τ.1 2 2 = nI L.lst := rl.2.2.2.2.2.2.1
      have eb : f_X12_block (nI i) 4 τ = some (b2 (lgB L.sq L.lst (max bw bh))) := by
        unfold f_X12_block lgB
        rw [bb2, m_in, i10 ⟨nI_pos' (by omega), by cases nb' with
          | zero => omega
          | succ m => rw [nI_pred]; exact nI_le (by omega) (by omega)⟩, if_neg one_ne, if_neg (by decide), if_neg (by decide), if_neg (by decide), if_neg (by decide), if_pos rfl, ib_n (by omega), decide_eq_true (show i < 12 by omega), grd_true, grd_true, ncl (by omega), c6, c7, m_percent q2 h8 (by omega) (by omega), bo_some, show ib 2 8 = true from rfl, grd_true, l2]
        by_cases hq : 100 * nI L.sq / nI (max L.sq (max bw bh)) < nI L.lst
        · rw [if_pos hq, decide_eq_false (fun q => q hq)]; rfl
        · rw [if_neg hq, decide_eq_true hq]; rfl
      rw [f_X1_firstIllegible_2, f_X12_judge_19, b1, bb2, if_neg (nI_ge (by omega) (by omega)), if_neg (nI_ge (by omega) (by omega)), ib_n (by omega), decide_eq_true (show i < 12 by omega), grd_true, ncl (by omega), c4, sz_e c2 c3, x_isLegible rl.1 rl.2.1 (by omega), bo_some, eb, bo_some, nI_1]
      cases hlg : lgB L.sq L.lst (max bw bh) with
      | false =>
        rw [if_pos ((b2_0 false).mpr rfl), if_pos ((b2_0 false).mpr rfl)]
        exact Or.inl ⟨i, by omega, rfl, rfl⟩
      | true =>
        rw [if_neg (show ¬ b2 true = 0 by decide), if_neg (show ¬ b2 true = 0 by decide)]
        exact ih fx fm (i + 1) (by omega) (by omega) (by omega) (by omega)
  rcases key nb N N 0 rfl (by omega) (by omega) (by omega) with ⟨j, hj, q1, q2⟩ | ⟨q1, q2⟩
  · have q1' : f_X1_firstIllegible_2 N N 0 σ = some (nI j) := q1
    have q2' : f_X12_judge_19 N N 0 τ = some (1000 + nI j, τ) := q2
    rw [q1', bo_some, q2', if_neg (nI_pos (by omega))]
    exact same _
  · have q1' : f_X1_firstIllegible_2 N N 0 σ = some (-1) := q1
    have q2' : f_X12_judge_19 N N 0 τ = bo (f_X12_asListed N τ) (fun σ4 => f_X12_judge_56 N N 1 0 σ4) := q2
    rw [q1', bo_some, q2', if_pos (by decide)]
    obtain ⟨τ1, m1, nm, g1⟩ := m_asListed hN rl.1 rl.2.2
    rw [m1, bo_some]
    unfold f_X11_judgeSpellings
    obtain ⟨a, ea, c, ec, h1', h2', h3'⟩ := judge_sp hN rl.1 rT.1 (g := g) hl hnp (f := f) rl.2.1 rT.2.1 (rT.2.2.fr g1 rfl) nm p1 (by rw [g1.i 1085 rfl]; exact p2) b3 (by rw [g1.i 1036 rfl]; exact b4) (fun i hi => ⟨(hg i hi).1, (hg i hi).2.1, by rw [g1.i 23 rfl]; exact (hg i hi).2.2⟩) (fun i hi => ⟨(hf i hi).1, (hf i hi).2.1, by rw [g1.i 57 rfl]; exact (hf i hi).2.2⟩) np N N 0 1 σ τ1 rfl (by omega) (by omega) (by omega) (by omega) (Fr.refl _ _) (FrP.refl _ _)
    have ea' : f_X11_judgeSpellings_4 N N 1 0 σ = some a := ea
    have ec' : f_X12_judge_56 N N 1 0 τ1 = some c := ec
    rw [ea', ec']
    obtain ⟨r, s⟩ := a
    rw [bd_some, ok_some, ok_some]
    exact ⟨h1', h2', (g1.wide rfl).trans (h3'.toFr (fun a j h => by rw [show a = 37 from h]; rfl))⟩
