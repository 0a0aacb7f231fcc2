theorem one_ne : ¬ (1 : Int32) = 0 := by decide
theorem TokM.fr {σ σ' : St} {V : List Nat} {n : Nat} {B : Nat → Nat} {p : Nat} (h : TokM σ n B p) (f : Fr V σ σ') (hv : VM.all (fun a => !V.contains a) = true) : TokM σ' n B p := by
  have e := f.at hv
  unfold TokM at h ⊢
  rw [(e 1005 (by decide)).1, (e 1006 (by decide)).1, (e 1003 (by decide)).1, (e 1010 (by decide)).2, (e 1004 (by decide)).1, (e 1007 (by decide)).1]
  exact h
theorem TokX.fr {σ σ' : St} {V : List Nat} {n : Nat} {B : Nat → Nat} {p : Nat} (h : TokX σ n B p) (f : Fr V σ σ') (hv : VN.all (fun a => !V.contains a) = true) : TokX σ' n B p := by
  have e := f.at hv
  unfold TokX at h ⊢
  rw [(e 4802 (by decide)).1, (e 4803 (by decide)).1, (e 4804 (by decide)).1, (e 4805 (by decide)).1, (e 4806 (by decide)).2, (e 4807 (by decide)).1, (e 4808 (by decide)).1, (e 4809 (by decide)).1, (e 4810 (by decide)).1]
  exact h
/-- the letters of a WORD -/
theorem tok_let {B : Nat → Nat} {n p : Nat} (h : tk B n p = 1) : te B n p - tq B n p ≤ 12 ∧ ∀ i, i < te B n p - tq B n p → 97 ≤ B (tq B n p + i) ∧ B (tq B n p + i) ≤ 122 := by
  unfold tk at h
  by_cases h1 : n ≤ tq B n p
  · rw [if_pos h1] at h; omega
  · rw [if_neg h1] at h
    by_cases h2 : isL (B (tq B n p)) = true
    · rw [if_pos h2] at h
      by_cases h4 : te B n p - tq B n p ≤ 12
      · refine ⟨h4, fun i hi => ?_⟩
        have e : te B n p = rn isL B n (tq B n p) := by unfold te; rw [if_neg h1, if_pos h2]
        exact of_decide_eq_true (rn_in (P := isL) (B := B) (n := n) (p := tq B n p) (i := tq B n p + i) (by omega) (by rw [← e]; omega))
      · rw [if_neg h4] at h; omega
    · rw [if_neg h2] at h
      split at h
      · split at h <;> omega
      · split at h <;> omega
theorem nw_sounds {N n : Nat} {B : Nat → Nat} {p p0 s : Nat} {σ τ σ5 τ5 : St} (hN : 802 < N) (hs : s < 40) (hp : p ≤ n) (hp0 : p0 ≤ p) (hX : TapeX σ5 n B) (hM : TapeM τ5 n B) (f : FrP (PX s) σ σ5) (g : FrP (PM s) τ τ5) (ha : σ5.1 4802 0 = nI p) (hb : τ5.1 1006 0 = nI p) (c7 : σ5.2 17 s = 0) (d10 : τ5.2 10 (40 + s) = 0) (d3 : τ5.1 3 1 = nI s) (rf : RFault σ5 τ5) :
    ok (f_X6_takeSounds 2 N (nI s) σ5) (fun a => ok (bo (f_X12_scan N τ5) (fun σ19 => bo (f_X12_isRow N σ19) (fun r22_ => if r22_ = 0 then f_X12_readSign_182 N σ19 else f_X12_readSign_188 N (nI (40 + s)) 5 σ19))) (fun c => ValPost n B p0 s a c ∧ FrP (PX s) σ a.2 ∧ FrP (PM s) τ c.2)) := by
  have hn := hX.1
  unfold f_X6_takeSounds
  refine ok_bo_of (x_next (by omega) hp hX ha) (fun σ1 h1 => ?_)
  obtain ⟨hK1, f1⟩ := h1
  have F1 : FrP (PX s) σ σ1 := f.trans (f1.toP VN_PX)
  have hle := te_le (B := B) hp
  have hge := te_ge B n p
  have hqe := tq_ge B n p
  obtain ⟨τ1, eq1, mK1, g1⟩ := m_scan hN hp hM hb
  have G1 : FrP (PM s) τ τ1 := g.trans (g1.toP VM_PM)
  have hM1 := hM.fr g1 rfl
  rw [eq1, bo_some, m_isRow hN hM1 hp mK1, bo_some, show (12 : Int32) = nI 12 from rfl, x_isRow hn (by omega) hp hK1]
  by_cases e : tk B n p = 1 ∧ isS B (tq B n p) (te B n p - tq B n p) = true
  · have hl := tok_let e.1
    have hgt := te_gt (B := B) (n := n) (p := p) (by omega)
    rw [if_pos (show tk B n p = 1 ∧ isS B (tq B n p) (te B n p - tq B n p) = true ∧ te B n p - tq B n p ≤ 12 from ⟨e.1, e.2, hl.1⟩), if_neg one_ne, if_pos e, if_neg one_ne]
    obtain ⟨a1, a2, a3, a4⟩ := hK1.2.2.2.1 e.1
    rw [a1]
    unfold f_X12_readSign_188 f_X12_readSign_212
    rw [if_pos rfl, mK1.2.1, mK1.1, nsub hge, if_pos rfl]
    generalize hmd : te B n p - tq B n p = m at *
    by_cases h3 : m ≤ 3
    · rw [if_pos (show nI m ≤ (3 : Int32) from (nle (b := 3) (by omega) (by omega)).mpr h3), if_pos (show nI m ≤ (3 : Int32) from (nle (b := 3) (by omega) (by omega)).mpr h3)]
      unfold f_X6_putSounds
      simp only [Nat.reduceMul, Nat.reduceAdd, Nat.reduceSub]
      rw [ncl (by omega), ib_n (by omega), decide_eq_true hs, grd_true, grd_true, grd_true, bo_some, a4 e.2 (by omega)]
      generalize hrd : sp (fun i => B (tq B n p + i) - 97) m = r
      have f2 : FrP (PX s) σ1 (si (si (si σ1 14 s 1) 16 s (nI r)) 15 s (nI m)) := (((FrP.refl _ _).si _ _ _ (Or.inr ⟨rfl, rfl⟩)).si _ _ _ (Or.inr ⟨rfl, rfl⟩)).si _ _ _ (Or.inr ⟨rfl, rfl⟩)
      have hX2 : TapeX (si (si (si σ1 14 s 1) 16 s (nI r)) 15 s (nI m)) n B := (hX.fr f1 rfl).frP f2 PX_tape.1 PX_tape.2
      refine ok_bo_of (x_next (by omega) hle hX2 (by rw [si_rd, if_neg (by decide), si_rd, if_neg (by decide), si_rd, if_neg (by decide)]; exact hK1.1)) (fun σ3 h3 => ok_some.mpr ?_)
      obtain ⟨hK3, f3⟩ := h3
      rw [ncl (by omega), ib_n (by omega), decide_eq_true (by omega), grd_true, grd_true, show (5 : Int32) - 5 + 1 = nI 1 from rfl, ← nI_0]
      have g2 : FrP (PM s) τ1 (si (si τ1 7 (40 + s) (nI 1)) 8 (40 + s) (nI m)) := ((FrP.refl _ _).si _ _ _ (Or.inr (Or.inl ⟨rfl, rfl⟩))).si _ _ _ (Or.inr (Or.inl ⟨rfl, rfl⟩))
      have gg2 : Fr [7, 8] τ1 (si (si τ1 7 (40 + s) (nI 1)) 8 (40 + s) (nI m)) := ((Fr.refl _ _).si _ _ _ rfl).si _ _ _ rfl
      have r7 : (si (si τ1 7 (40 + s) (nI 1)) 8 (40 + s) (nI m)).1 7 (40 + s) = nI 1 := by rw [si_rd, if_neg (by decide), si_rd, if_pos rfl, if_pos rfl]
      have r8 : (si (si τ1 7 (40 + s) (nI 1)) 8 (40 + s) (nI m)).1 8 (40 + s) = nI m := by rw [si_rd, if_pos rfl, if_pos rfl]
      have hM2 := hM1.frP g2 PM_tape.1 PM_tape.2
      generalize si (si τ1 7 (40 + s) (nI 1)) 8 (40 + s) (nI m) = τ2 at *
      refine m_sounds (q := tq B n p) (m := m) (by omega) h3 hs m N 0 τ2 rfl (by omega) (by omega) hM2 (by rw [gg2.i 1005 rfl]; exact mK1.1) (by rw [gg2.i 1006 rfl, mK1.2.1]; congr 1; omega) (fun j hj => by omega) (fun j hj => (hl.2 j hj).1) ?_
      intro τ3 hM3 w6 w9 g3
      unfold f_X12_readSign_300
      refine ok_bo_of (m_scan hN (p := te B n p) hle hM3 (by rw [w6]; congr 1; omega)) (fun τ4 g4 => ?_)
      obtain ⟨mK4, g4⟩ := g4
      unfold f_X12_readSign_304
      rw [show ib 1 2 = true from rfl, grd_true, grd_true, ok_some]
      have g5 : FrP (PM s) τ4 (si τ4 3 1 (τ4.1 3 1 + 1)) := (FrP.refl _ _).si _ _ _ (Or.inr (Or.inr (Or.inr ⟨rfl, rfl⟩)))
      have gF : Fr [3] τ4 (si τ4 3 1 (τ4.1 3 1 + 1)) := (Fr.refl _ _).si _ _ _ rfl
      refine ⟨Or.inr ⟨rfl, rfl, te B n p, 1, m, fun i => B (tq B n p + i) - 97, 0, by omega, hle, hK3, mK4.fr gF rfl, by omega, fun _ => ⟨by omega, h3⟩, fun h => absurd rfl h, fun i hi => ?_, ?_, ?_, ?_, ?_, ?_, ?_, fun i hi => ?_, ?_, ?_, rf.fr (V := VNa) (W := VMa) (((f1.wide rfl).trans ((((Fr.refl _ _).si _ _ _ rfl).si _ _ _ rfl).si _ _ _ rfl)).trans (f3.wide rfl)) (((((g1.wide rfl).trans (gg2.wide rfl)).trans (g3.toFr (fun a j h => by rw [h.1]; rfl))).trans (g4.wide rfl)).trans (gF.wide rfl)) rfl rfl⟩, (F1.trans f2).trans (f3.toP VN_PX), ((((G1.trans g2).trans (g3.wide (fun a j h => Or.inr (Or.inr (Or.inl h))))).trans (g4.toP VM_PM)).trans g5)⟩
      · have := isS_at.mp e.2 i (by omega)
        show B (tq B n p + i) - 97 < 16
        omega
      · show σ3.1 14 s = nI 1
        rw [f3.i 14 rfl, si_rd, if_neg (by decide), si_rd, if_neg (by decide), si_rd, if_pos rfl, if_pos rfl]; rfl
      · show σ3.1 15 s = nI m
        rw [f3.i 15 rfl, si_rd, if_pos rfl, if_pos rfl]
      · show σ3.1 16 s = nI (sp (fun i => B (tq B n p + i) - 97) m)
        rw [f3.i 16 rfl, si_rd, if_neg (by decide), si_rd, if_pos rfl, if_pos rfl, hrd]
      · show σ3.2 17 s = 0
        rw [f3.l 17 rfl, si_2, si_2, si_2, f1.l 17 rfl]; exact c7
      · show (si τ4 3 1 (τ4.1 3 1 + 1)).1 7 (40 + s) = nI 1
        rw [gF.i 7 rfl, g4.i 7 rfl, (g3 7 (40 + s) (by simp)).1]; exact r7
      · show (si τ4 3 1 (τ4.1 3 1 + 1)).1 8 (40 + s) = nI m
        rw [gF.i 8 rfl, g4.i 8 rfl, (g3 8 (40 + s) (by simp)).1]; exact r8
      · show (si τ4 3 1 (τ4.1 3 1 + 1)).1 9 (3 * (40 + s) + i) = nI (B (tq B n p + i) - 97)
        rw [gF.i 9 rfl, g4.i 9 rfl]; exact w9 i hi
      · show (si τ4 3 1 (τ4.1 3 1 + 1)).2 10 (40 + s) = 0
        rw [gF.l 10 rfl, g4.l 10 rfl, (g3 10 (40 + s) (by simp)).2, gg2.l 10 rfl, g1.l 10 rfl]; exact d10
      · show (si τ4 3 1 (τ4.1 3 1 + 1)).1 3 1 = nI (s + 1)
        rw [si_rd, if_pos rfl, if_pos rfl, g4.i 3 rfl, (g3 3 1 (by simp)).1, gg2.i 3 rfl, g1.i 3 rfl, d3, nI_1]
    · rw [if_neg (show ¬ nI m ≤ (3 : Int32) from nI_ge (a := 3) (by omega) (by omega)), if_neg (show ¬ nI m ≤ (3 : Int32) from nI_ge (a := 3) (by omega) (by omega))]
      exact val_bad hK1 mK1 F1 G1
  · rw [if_neg (show ¬ (tk B n p = 1 ∧ isS B (tq B n p) (te B n p - tq B n p) = true ∧ te B n p - tq B n p ≤ 12) from fun h => e ⟨h.1, h.2.1⟩), if_pos rfl, if_neg e, if_pos rfl]
    exact val_bad hK1 mK1 F1 G1
