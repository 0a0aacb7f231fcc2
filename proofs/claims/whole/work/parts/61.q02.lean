/-! blocks: an item -/
theorem m_makePart {τ : St} {k : Nat} (hk : k < 400) (h31 : τ.1 1031 0 = nI k) (x : Int32) : ∃ τ', f_X12_makePart x τ = some (nI k, τ') ∧ τ'.1 11 k = x ∧ τ'.1 14 k = -1 ∧ τ'.1 15 k = -1 ∧ τ'.1 13 k = -1 ∧ τ'.1 1031 0 = nI (k + 1) ∧ FrP (fun a j => a = 1031 ∨ (([11, 13, 14, 15] : List Nat).contains a = true ∧ j = k)) τ τ' := by
  unfold f_X12_makePart
  rw [h31, ib_n (a := k) (by omega), decide_eq_true hk, ncl (a := k) (by omega), nI_1]
  simp only [grd_true]
  refine ⟨_, by rw [show nI (k + 1) - 1 = nI k by rw [show (1 : Int32) = nI 1 from rfl, nsub (by omega)]; congr 1], ?_, ?_, ?_, ?_, ?_, (((((FrP.refl _ _).si _ _ _ (Or.inr ⟨rfl, rfl⟩)).si _ _ _ (Or.inr ⟨rfl, rfl⟩)).si _ _ _ (Or.inr ⟨rfl, rfl⟩)).si _ _ _ (Or.inr ⟨rfl, rfl⟩)).si _ _ _ (Or.inl rfl)⟩
  · simp only [si_rd, reduceIte, Nat.reduceEqDiff]
  · simp only [si_rd, reduceIte, Nat.reduceEqDiff]
  · simp only [si_rd, reduceIte, Nat.reduceEqDiff]
  · simp only [si_rd, reduceIte, Nat.reduceEqDiff]
  · simp only [si_rd, reduceIte, Nat.reduceEqDiff]
theorem MX.fr {L : Lv} {τ τ' : St} {n : Nat} {B : Nat → Nat} {p d sc parts : Nat} {V : List Nat} (h : MX L τ n B p d sc parts) (f : Fr V τ τ') (hv : ([1002, 1, 1003, 1004, 1005, 1006, 1007, 1010, 3, 4, 5, 6, 7, 8, 9, 10, 2, 1032, 1033, 1031] : List Nat).all (fun a => !V.contains a) = true) : MX L τ' n B p d sc parts := by
  have e := f.at hv
  have sub : ∀ l : List Nat, (∀ a, a ∈ l → a ∈ ([1002, 1, 1003, 1004, 1005, 1006, 1007, 1010, 3, 4, 5, 6, 7, 8, 9, 10, 2, 1032, 1033, 1031] : List Nat)) → l.all (fun a => !V.contains a) = true := fun l hl => by
    rw [List.all_eq_true] at hv ⊢
    exact fun x hx => hv x (hl x hx)
  obtain ⟨h1, h2, h3, h4, h5, h6⟩ := h
  exact ⟨h1.fr f (sub _ (by decide)), h2.fr f (sub _ (by decide)), LM_fr h3 f (sub _ (by decide)), by rw [(e 1032 (by decide)).1]; exact h4, by rw [(e 1033 (by decide)).1]; exact h5, by rw [(e 1031 (by decide)).1]; exact h6⟩
theorem MX.parts {L : Lv} {τ τ' : St} {n : Nat} {B : Nat → Nat} {p d sc parts parts' : Nat} (h : MX L τ n B p d sc parts) (f : Fr [1031, 11, 12, 13, 14, 15, 1034] τ τ') (h31 : τ'.1 1031 0 = nI parts') : MX L τ' n B p d sc parts' := by
  obtain ⟨h1, h2, h3, h4, h5, h6⟩ := h
  exact ⟨h1.fr f rfl, h2.fr f rfl, LM_fr h3 f rfl, by rw [f.i 1032 rfl]; exact h4, by rw [f.i 1033 rfl]; exact h5, h31⟩
abbrev nxT : Nat → Nat → Prop := fun _ _ => True
theorem lk_leaf {N : Nat} (hN : 802 < N) {L : Lv} (hL : LOk L) {n : Nat} {B : Nat → Nat} {d : Nat} {hd : Int32 → St → Option (Int32 × St)} {σ τ : St} {p : Nat} {c : List Int32} {st bc sc lo i fuel : Nat} (cx : CX L σ n B p c st d bc sc) (hst : st = 0 ∨ st = 1) (hbc : st = 0 → bc < 12) (mx : MX L τ n B p d sc lo) (hip : i ≤ p) (hf : 801 - i < fuel) (hc : c.length ≤ 10 * sc + d) (hlo : lo ≤ 2 * sc) (hno : ¬ (tk B n p = 3 ∧ B (tq B n p) = 40)) :
    ok (f_X12_readItem N hd τ) (PP N L n B p d (bcN st bc) lo sc c σ τ (f_X0_take_27 N fuel (nI i) σ) nxT lfC (okF L) (fun f => (lfR L f).2.2.length) (fun τ f => NdF τ QT L f)) := by
  have hn := cx.1.1
  have hp := cx.2.2.1
  have hd4 := cx.2.2.2.2.2.2.2.2.2.2.1
  obtain ⟨fuel, rfl⟩ : ∃ f, fuel = f + 1 := ⟨fuel - 1, by omega⟩
  unfold f_X12_readItem
  rw [if_neg (fun q => hno ((srt_3 mx).2.2.2.2.1.mp q))]
  refine ok_bd_of (lk_name (fuel := fuel) (lo0 := lo) (i := i) hN hL cx (by omega) hbc mx (by omega) (fun _ => hno)) (fun r τ1 h => ?_)
  rcases h with ⟨r1, r2⟩ | ⟨s, σ1, hs, r1, k1, e1, cx1, mx1, f1, g1⟩
  · have r1' : r = -1 := r1
    rw [r1', if_neg (by decide), ok_some]
    exact Or.inl ⟨rfl, r2⟩
  · have r1' : r = nI s := r1
    have g1' : Fr (1033 :: VM) τ τ1 := g1
    have cx1' : CX L σ1 n B (te B n p) (c ++ [nI s]) (if st = 2 then 4 else 3) d (bcN st bc) (sc + 1) := cx1
    rw [if_neg (show ¬ st = 2 by omega)] at cx1'
    have s24 := cx1'.2.2.2.2.2.2.2.2.2.2.2.2
    have adv := tok_adv (B := B) (n := n) (p := p) (by omega)
    have t1 := te_le (B := B) hp
    have t2 := te_le (B := B) t1
    have t3 := te_le (B := B) t2
    obtain ⟨τ2, e2, w11, w14, w15, w13, w31, f2⟩ := m_makePart (k := lo) (x := 0) (by omega) mx1.2.2.2.2.2
    have n2 : ∀ a j, ([1031, 11, 13, 14, 15] : List Nat).contains a = false → τ2.1 a j = τ1.1 a j := fun a j q => (f2 a j (fun r => by
      rcases r with r | ⟨r, _⟩
      · rw [r] at q; cases q
      · have key : ∀ a, a ∈ ([11, 13, 14, 15] : List Nat) → ([1031, 11, 13, 14, 15] : List Nat).contains a = true := by decide
        rw [key a (List.contains_iff_mem.mp r)] at q; cases q)).1
    rw [r1', if_pos (show (0 : Int32) ≤ nI s from nI_le (a := 0) (by omega) (by have := hL.1; omega)), e2, bd_some, ib_n (a := lo) (by omega), decide_eq_true (show lo < 400 by omega), grd_true, ncl (a := lo) (by omega)]
    have f3 : FrP (PRf lo) τ1 (si τ2 12 lo (nI s)) := (f2.wide (fun a j h => by
      rcases h with h | ⟨h, h'⟩
      · exact Or.inl (by rw [h]; rfl)
      · have key : ∀ a, a ∈ ([11, 13, 14, 15] : List Nat) → ([11, 12, 13, 14, 15] : List Nat).contains a = true := by decide
        exact Or.inr ⟨key a (List.contains_iff_mem.mp h), by omega⟩)).si _ _ _ (Or.inr ⟨rfl, Nat.le_refl _⟩)
    have F3 : FrP (PRf lo) τ (si τ2 12 lo (nI s)) := (Fr.toRf g1' rfl lo).trans f3
    have w12 : (si τ2 12 lo (nI s)).1 12 lo = nI s := by rw [si_rd, if_pos rfl, if_pos rfl]
    have v11 : (si τ2 12 lo (nI s)).1 11 lo = 0 := by rw [si_rd, if_neg (by decide)]; exact w11
    have v13 : (si τ2 12 lo (nI s)).1 13 lo = -1 := by rw [si_rd, if_neg (by decide)]; exact w13
    have v15 : (si τ2 12 lo (nI s)).1 15 lo = -1 := by rw [si_rd, if_neg (by decide)]; exact w15
    have mx3 : MX L (si τ2 12 lo (nI s)) n B (te B n p) d (sc + 1) (lo + 1) := mx1.parts (((f2.toFr (V := [1031, 11, 13, 14, 15]) (fun a j h => by
      rcases h with h | ⟨h, _⟩
      · rw [h]; rfl
      · have key : ∀ a, a ∈ ([11, 13, 14, 15] : List Nat) → ([1031, 11, 13, 14, 15] : List Nat).contains a = true := by decide
        exact key a (List.contains_iff_mem.mp h))).wide rfl).si _ _ _ rfl) (by rw [si_rd, if_neg (by decide)]; exact w31)
    have e03 : τ2.1 1003 0 = (si τ2 12 lo (nI s)).1 1003 0 := by rw [si_rd, if_neg (by decide)]
    rw [e03]
    generalize si τ2 12 lo (nI s) = τ3 at *
    unfold f_X12_readItem_132
    have fin : ∀ (τ4 : St) (o : Nat) (σ4 : St) (p4 i4 fuel4 st4 : Nat), okF L (s, o) → MX L τ4 n B p4 d (sc + (lfR L (s, o)).2.2.length) (lo + 1) → CX L σ4 n B p4 (c ++ lfC (s, o)) st4 d (bcN st bc) (sc + (lfR L (s, o)).2.2.length) → (st4 = 3 ∨ st4 = 4) → f_X0_take_27 N (fuel + 1) (nI i) σ = f_X0_take_27 N fuel4 (nI i4) σ4 → i4 ≤ p4 → 801 - i4 < fuel4 → p < p4 → (c ++ lfC (s, o)).length + d + 1 ≤ 10 * (sc + (lfR L (s, o)).2.2.length) → τ4.1 11 lo = 0 → τ4.1 12 lo = nI s → τ4.1 13 lo = (if o = 0 then -1 else nI (o - 1)) → τ4.1 15 lo = -1 → (st4 = 3 → ¬ (tk B n p4 = 3 ∧ B (tq B n p4) = 38)) → Fr VPY σ σ4 → FrP (PRf lo) τ τ4 → ok (some ((1 : Int32), si τ4 1034 0 (nI lo))) (PP N L n B p d (bcN st bc) lo sc c σ τ (f_X0_take_27 N (fuel + 1) (nI i) σ) nxT lfC (okF L) (fun f => (lfR L f).2.2.length) (fun τ f => NdF τ QT L f)) := by
      intro τ4 o σ4 p4 i4 fuel4 st4 h1 h2 h3 h4 h5 h6 h7 h8 h9 h10 h11 h12 h13 h14 h15 h16
      rw [ok_some]
      have f4 : Fr [1034] τ4 (si τ4 1034 0 (nI lo)) := (Fr.refl _ _).si _ _ _ rfl
      have l1 : 1 ≤ (lfR L (s, o)).2.2.length := by unfold lfR; rw [List.length_cons]; omega
      refine Or.inr ⟨rfl, (s, o), σ4, p4, i4, fuel4, _, lo + 1, lo, st4, h5, h6, h7, h8, h4, h3, h2.fr f4 rfl, h1, ⟨Nat.le_refl _, by omega, by rw [f4.i 11 rfl]; exact h10, by rw [f4.i 12 rfl]; exact h11, by rw [f4.i 13 rfl]; exact h12, trivial⟩, by rw [si_rd, if_pos rfl, if_pos rfl], by rw [f4.i 15 rfl]; exact h13, rfl, h9, by show lo + 1 + 1 ≤ 2 * (sc + (lfR L (s, o)).2.2.length); omega, by omega, h14, trivial, h15, h16.trans (Fr.toRf f4 rfl lo)⟩
    by_cases hand : tk B n (te B n p) = 3 ∧ B (tq B n (te B n p)) = 38
    · rw [if_pos ((srt_3 mx3).2.2.1.mpr hand)]
      refine ok_bo_of (MX_scan (d' := d) (sc' := sc + 1) hN cx1'.2.2.1 mx3 (Fr.refl _ _) mx3.2.2.2.1 mx3.2.2.2.2.1) (fun τ4 ⟨mx4, f4⟩ => ?_)
      obtain ⟨fuel, rfl⟩ : ∃ f, fuel = f + 1 := ⟨fuel - 1, by omega⟩
      obtain ⟨σ2, e4, cx2, g2⟩ := xs_mark (fuel := fuel) (i := i + 1) (st' := 2) (d' := d) hN cx1' (by omega) hand.1 (Or.inr (Or.inr (Or.inr (Or.inl ⟨hand.2, rfl⟩)))) (by rw [hand.2]; decide) (Or.inr (Or.inr (Or.inl ⟨hand.2, rfl, rfl⟩)))
      have adv2 := tok_adv (B := B) (n := n) (p := te B n p) (by omega)
      obtain ⟨fuel, rfl⟩ : ∃ f, fuel = f + 1 := ⟨fuel - 1, by have := cx1'.2.2.1; omega⟩
      have em : -nI (B (tq B n (te B n p))) = (-38 : Int32) := by rw [hand.2]; rfl
      rw [em] at cx2
      have F4 : FrP (PRf lo) τ τ4 := F3.trans (Fr.toRf f4 rfl lo)
      refine ok_bd_of (lk_name (fuel := fuel) (lo0 := lo) (lo := lo + 1) (i := i + 1 + 1) hN hL cx2 (Or.inr (Or.inr rfl)) (fun q => by omega) mx4 (by have := cx2.2.2.1; omega) (fun q => absurd rfl q)) (fun r4 τ5 h => ?_)
      rcases h with ⟨q1, q2⟩ | ⟨o, σ3, ho, q1, k2, e5, cx3, mx5, f5, g5⟩
      · have q1' : r4 = -1 := q1
        rw [q1', if_neg (by decide), ok_some]
        obtain ⟨σ', z1, z2, z3, z4⟩ := q2
        exact Or.inl ⟨rfl, σ', by rw [e1, e4]; exact z1, z2, ((f1.trans g2).wide rfl).trans z3, F4.toE.trans z4⟩
      · have q1' : r4 = nI o := q1
        have g5' : Fr (1033 :: VM) τ4 τ5 := g5
        have mx5' : MX L τ5 n B (te B n (te B n (te B n p))) d (sc + 1 + 1) (lo + 1) := mx5
        have adv3 := tok_adv (B := B) (n := n) (p := te B n (te B n p)) (by omega)
        rw [q1', if_pos (show (0 : Int32) ≤ nI o from nI_le (a := 0) (by omega) (by have := hL.1; omega)), grd_true]
        have f6 : Fr [13] τ5 (si τ5 13 lo (nI o)) := (Fr.refl _ _).si _ _ _ rfl
        have el : (lfR L (s, o + 1)).2.2.length = 2 := by
          unfold lfR
          show ((s, (0 : Int32), (0 : Int32), L.w s, L.h s) :: (if o + 1 = 0 then [] else _)).length = 2
          rw [if_neg (by omega)]; rfl
        have ec : lfC (s, o + 1) = [nI s, -38, nI o] := by
          unfold lfC
          show (if o + 1 = 0 then [nI s] else [nI s, -38, nI (o + 1 - 1)]) = _
          rw [if_neg (by omega), Nat.add_sub_cancel]
        have cx3' : CX L σ3 n B (te B n (te B n (te B n p))) ((c ++ [nI s] ++ [-38]) ++ [nI o]) 4 d (bcN 2 (bcN st bc)) (sc + 1 + 1) := cx3
        have eb : bcN 2 (bcN st bc) = bcN st bc := by show (if (2 : Nat) = 0 then _ else _) = _; rw [if_neg (by omega)]
        rw [eb, show (c ++ [nI s] ++ [-38]) ++ [nI o] = c ++ lfC (s, o + 1) by rw [ec]; simp] at cx3'
        have v : ∀ a, ([11, 12, 13, 15] : List Nat).contains a = true → τ5.1 a lo = τ3.1 a lo := fun a ha => by
          have key : ∀ a, a ∈ ([11, 12, 13, 15] : List Nat) → (1033 :: VM).contains a = false ∧ VM.contains a = false := by decide
          have k := key a (List.contains_iff_mem.mp ha)
          rw [g5'.i a k.1, f4.i a k.2]
        refine fin (si τ5 13 lo (nI o)) (o + 1) σ3 (te B n (te B n (te B n p))) (i + 1 + 1 + 1) fuel 4 ⟨hs, Or.inr (by rw [Nat.add_sub_cancel]; exact ho)⟩ ?_ (by rw [el]; exact cx3') (Or.inr rfl) (by rw [e1, e4, e5]) (by omega) (by omega) (by omega) (by rw [el, ec]; simp; omega) (by rw [f6.i 11 rfl, v 11 rfl]; exact v11) (by rw [f6.i 12 rfl, v 12 rfl]; exact w12) (by rw [si_rd, if_pos rfl, if_pos rfl, if_neg (by omega), Nat.add_sub_cancel]) (by rw [f6.i 15 rfl, v 15 rfl]; exact v15) (fun q => by omega) ((f1.trans g2).trans f5) (((F4.trans (Fr.toRf g5' rfl lo))).si _ _ _ (Or.inr ⟨rfl, Nat.le_refl _⟩))
        rw [el]
        exact mx5'.fr f6 rfl
    · rw [if_neg (fun q => hand ((srt_3 mx3).2.2.1.mp q))]
      have el : (lfR L (s, 0)).2.2.length = 1 := rfl
      refine fin τ3 0 σ1 (te B n p) (i + 1) fuel 3 ⟨hs, Or.inl rfl⟩ (by rw [el]; exact mx3) (by rw [el]; exact cx1') (Or.inl rfl) e1 (by omega) (by omega) adv (by rw [el]; show (c ++ [nI s]).length + d + 1 ≤ 10 * (sc + 1); rw [List.length_append, List.length_singleton]; omega) v11 w12 v13 v15 (fun _ => hand) f1 F3
