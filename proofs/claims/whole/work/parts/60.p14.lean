theorem DM_n {τ : St} {L : Lv} {b : Nat} (h : DM τ L b) : τ.1 3 1 = nI L.n := h.1
theorem sign_lock {N n : Nat} {B : Nat → Nat} {p b : Nat} {L : Lv} {σ τ : St} (hN : 802 < N) (hp : p ≤ n) (hk : tk B n p ≠ 0) (hX : TapeX σ n B) (hM : TapeM τ n B) (hK : TokX σ n B p) (mK : TokM τ n B p) (hL : LOk L) (dx : DX σ L b) (dm : DM τ L b) (hb : b < 16) (rf : RFault σ τ) :
    ok (f_X6_takeSign 2 N σ) (fun a => ok (mSign N τ) (fun c => ClPost n B p a c ∧ Fr VL σ a.2 ∧ Fr VLM τ c.2 ∧ Kp τ c.2)) := by
  have hn := hX.1
  have hle := te_le (B := B) hp
  have hge := te_ge B n p
  have hgt := te_gt hk
  have hqe := tq_ge B n p
  have h40 : L.n ≤ 40 := hL.1
  have hnx : σ.1 1400 0 = nI L.n := dx.1.1
  have hnm : τ.1 3 1 = nI L.n := dm.1
  unfold f_X6_takeSign mSign
  simp only [Nat.reduceMul, Nat.reduceAdd, Nat.reduceSub]
  rw [hnx, hnm]
  by_cases h4 : L.n = 40
  · rw [h4, if_neg (show ¬ nI 40 < (40 : Int32) by decide), if_pos (show nI 40 = (40 : Int32) from rfl)]
    exact (cl_bad (N := N) hK mK (Fr.refl _ _) (Fr.refl _ _) (Kp.refl _)).2
  have hln : L.n < 40 := by omega
  rw [if_pos (show nI L.n < (40 : Int32) from nI_lt (b := 40) hln (by omega)), if_neg (show ¬ nI L.n = (40 : Int32) from fun h => h4 ((neq (b := 40) (by omega) (by omega)).mp h))]
  obtain ⟨σ2, e2, hK2, f2⟩ := x_next (N := N) (by omega) hle hX hK.1
  obtain ⟨τ2, m2, mK2, g2⟩ := m_scan hN hle hM mK.2.1
  rw [e2, bo_some, m2, bo_some]
  have hX2 := hX.fr f2 rfl
  have hM2 := hM.fr g2 rfl
  unfold f_X12_readSign
  by_cases e : tk B n (te B n p) = 1
  · rw [if_pos ((knd1 hK2).mpr e), if_pos ((srt_is1 mK2).mpr e), show ib 1 2 = true from rfl, grd_true]
    obtain ⟨a1, a2, a3, a4⟩ := hK2.2.2.2.1 e
    have hn2 : σ2.1 (1000 + 200 * 2 + 0) 0 = nI L.n := by
      show σ2.1 1400 0 = nI L.n
      rw [f2.i 1400 rfl]; exact hnx
    have hm2 : τ2.1 3 1 = nI L.n := by rw [g2.i 3 rfl]; exact hnm
    rw [x_find hN h40 hn2, bo_some, a2, hm2, mK2.2.2.2.1 e, show (40 : Int32) = nI 40 from rfl, m_signOf hN (by omega), bo_some]
    generalize hnmd : nmf B (tq B n (te B n p)) (te B n (te B n p) - tq B n (te B n p)) = nm
    have hoff : fndN (σ2.2 11) nm L.n 0 = -1 ↔ fndN (τ2.2 4) nm L.n 40 = -1 := fnd_off h40 (fun i hi => by
      rw [f2.l 11 rfl, g2.l 4 rfl, (dm.2.1 i hi).1]
      exact (dx.1.2.1 i hi).1)
    by_cases hnew : fndN (σ2.2 11) nm L.n 0 = -1
    · rw [if_pos ((fnd_neg h40).mpr hnew), if_pos (hoff.mp hnew), nadd, ncl (a := L.n) (by omega), ncl (a := 40 + L.n) (by omega), ib_n (a := L.n) (by omega), decide_eq_true hln, ib_n (a := 40 + L.n) (by omega), decide_eq_true (show 40 + L.n < 80 by omega), grd_true, grd_true, grd_true, grd_true, grd_true, grd_true]
      have f3 : FrP (PXs L.n) σ2 (sl σ2 11 L.n nm) := (FrP.refl _ _).sl _ _ _ (Or.inr ⟨rfl, rfl⟩)
      have r11 : (sl σ2 11 L.n nm).2 11 L.n = nm := by rw [sl_rd, if_pos rfl, if_pos rfl]
      have ra : (sl σ2 11 L.n nm).1 4802 0 = nI (te B n (te B n p)) := by rw [sl_1]; exact hK2.1
      have fA : Fr [11] σ2 (sl σ2 11 L.n nm) := (Fr.refl _ _).sl _ _ _ rfl
      generalize sl σ2 11 L.n nm = σ3 at *
      have g3 : FrP (PMs L.n) τ2 (sl (si (si (sl τ2 4 (40 + L.n) nm) 7 (40 + L.n) 0) 8 (40 + L.n) 0) 10 (40 + L.n) 0) := ((((FrP.refl _ _).sl _ _ _ (Or.inr (Or.inl ⟨rfl, rfl⟩))).si _ _ _ (Or.inr (Or.inl ⟨rfl, rfl⟩))).si _ _ _ (Or.inr (Or.inl ⟨rfl, rfl⟩))).sl _ _ _ (Or.inr (Or.inl ⟨rfl, rfl⟩))
      have s4 : (sl (si (si (sl τ2 4 (40 + L.n) nm) 7 (40 + L.n) 0) 8 (40 + L.n) 0) 10 (40 + L.n) 0).2 4 (40 + L.n) = nm := by rw [sl_rd, if_neg (by decide), si_2, si_2, sl_rd, if_pos rfl, if_pos rfl]
      have s7 : (sl (si (si (sl τ2 4 (40 + L.n) nm) 7 (40 + L.n) 0) 8 (40 + L.n) 0) 10 (40 + L.n) 0).1 7 (40 + L.n) = 0 := by rw [sl_1, si_rd, if_neg (by decide), si_rd, if_pos rfl, if_pos rfl]
      have s8 : (sl (si (si (sl τ2 4 (40 + L.n) nm) 7 (40 + L.n) 0) 8 (40 + L.n) 0) 10 (40 + L.n) 0).1 8 (40 + L.n) = 0 := by rw [sl_1, si_rd, if_pos rfl, if_pos rfl]
      have s10 : (sl (si (si (sl τ2 4 (40 + L.n) nm) 7 (40 + L.n) 0) 8 (40 + L.n) 0) 10 (40 + L.n) 0).2 10 (40 + L.n) = 0 := by rw [sl_rd, if_pos rfl, if_pos rfl]
      have s3 : (sl (si (si (sl τ2 4 (40 + L.n) nm) 7 (40 + L.n) 0) 8 (40 + L.n) 0) 10 (40 + L.n) 0).1 3 1 = nI L.n := by rw [sl_1, si_rd, if_neg (by decide), si_rd, if_neg (by decide), sl_1]; exact hm2
      have s6 : (sl (si (si (sl τ2 4 (40 + L.n) nm) 7 (40 + L.n) 0) 8 (40 + L.n) 0) 10 (40 + L.n) 0).1 1006 0 = nI (te B n (te B n p)) := by rw [sl_1, si_rd, if_neg (by decide), si_rd, if_neg (by decide), sl_1]; exact mK2.2.1
      have gA : Fr [4, 7, 8, 10] τ2 (sl (si (si (sl τ2 4 (40 + L.n) nm) 7 (40 + L.n) 0) 8 (40 + L.n) 0) 10 (40 + L.n) 0) := ((((Fr.refl _ _).sl _ _ _ rfl).si _ _ _ rfl).si _ _ _ rfl).sl _ _ _ rfl
      generalize sl (si (si (sl τ2 4 (40 + L.n) nm) 7 (40 + L.n) 0) 8 (40 + L.n) 0) 10 (40 + L.n) 0 = τ3 at *
      have hle2 := te_le (B := B) hle
      have hge2 := te_ge B n (te B n p)
      have hqe2 := tq_ge B n (te B n p)
      generalize hp2 : te B n (te B n p) = p2 at *
      have hX3 := hX2.frP f3 PXs_tape.1 PXs_tape.2
      have hM3 := hM2.frP g3 PMs_tape.1 PMs_tape.2
      have F3 : FrP (PXs L.n) σ σ3 := (f2.toP VN_PXs).trans f3
      have G3 : FrP (PMs L.n) τ τ3 := (g2.toP VM_PMs).trans g3
      obtain ⟨τ4, m4, mK4, g4⟩ := m_scan hN hle2 hM3 s6
      rw [m4, bo_some]
      have hM4 := hM3.fr g4 rfl
      have G4 : FrP (PMs L.n) τ τ4 := G3.trans (g4.toP VM_PMs)
      obtain ⟨⟨r5, σ5⟩, e5, ⟨q5, τ5⟩, m5, post5, f5, g5⟩ := num_lock (lo := 1) (hi := 60) hN hle2 hX3 hM4 ra mK4 (by omega) (by omega)
      have e5' : f_X6_takeNumber N 1 60 σ3 = some (r5, σ5) := e5
      have m5' : f_X12_readNumber N 1 60 τ4 = some (q5, τ5) := m5
      rw [e5', bd_some, m5', bd_some]
      have F5 : FrP (PXs L.n) σ σ5 := F3.trans (f5.toP VC_PXs)
      have G5 : FrP (PMs L.n) τ τ5 := G4.trans (g5.toP VCM_PMs)
      have fail : ∀ (σ9 τ9 : St), FrP (PXs L.n) σ σ9 → FrP (PMs L.n) τ τ9 → RFault σ9 τ9 → ok (some ((0 : Int32), σ9)) (fun a => ok (f_X12_readClause_172 N 0 τ9) (fun c => ClPost n B p a c ∧ Fr VL σ a.2 ∧ Fr VLM τ c.2 ∧ Kp τ c.2)) := by
        intro σ9 τ9 x1 x2 x3
        unfold f_X12_readClause_172
        rw [if_pos rfl, ok_some, ok_some]
        exact ⟨Or.inl ⟨rfl, rfl, x3⟩, x1.toFr PX_VL, x2.toFr PM_VLM, PM_kp x2⟩
      rcases post5 with ⟨x1, x2, x3⟩ | ⟨x1, x2, w, w1, w2, w3, w4, w5, mK5, w6, w7, ff5, gg5⟩
      · have x1 : r5 = 0 := x1
        have x2 : q5 = 0 := x2
        subst x1; subst x2
        rw [if_pos rfl, if_pos rfl, bd_some]
        exact fail σ5 τ5 F5 G5 x3
      have x1 : r5 = 1 := x1
      have x2 : q5 = 1 := x2
      subst x1; subst x2
      dsimp only at w3 w4 w5 mK5 ff5 gg5 f5 g5
      rw [if_neg one_ne, if_neg one_ne, grd_true, grd_true, w3, w4]
      have f6 : FrP (PXs L.n) σ5 (si σ5 12 L.n (nI w)) := (FrP.refl _ _).si _ _ _ (Or.inr ⟨rfl, rfl⟩)
      have r12 : (si σ5 12 L.n (nI w)).1 12 L.n = nI w := by rw [si_rd, if_pos rfl, if_pos rfl]
      have r11b : (si σ5 12 L.n (nI w)).2 11 L.n = nm := by rw [si_2, ff5.l 11 rfl]; exact r11
      have rb : (si σ5 12 L.n (nI w)).1 4802 0 = nI (te B n p2) := by rw [si_rd, if_neg (by decide)]; exact w5
      have fB : Fr [12] σ5 (si σ5 12 L.n (nI w)) := (Fr.refl _ _).si _ _ _ rfl
      generalize si σ5 12 L.n (nI w) = σ6 at *
      have g6 : FrP (PMs L.n) τ5 (si τ5 5 (40 + L.n) (nI w)) := (FrP.refl _ _).si _ _ _ (Or.inr (Or.inl ⟨rfl, rfl⟩))
      have gF6 : Fr [5] τ5 (si τ5 5 (40 + L.n) (nI w)) := (Fr.refl _ _).si _ _ _ rfl
      have s5 : (si τ5 5 (40 + L.n) (nI w)).1 5 (40 + L.n) = nI w := by rw [si_rd, if_pos rfl, if_pos rfl]
      have mK6 := mK5.fr gF6 rfl
      have t4 : (si τ5 5 (40 + L.n) (nI w)).2 4 (40 + L.n) = nm := by rw [gF6.l 4 rfl, gg5.l 4 rfl, g4.l 4 rfl]; exact s4
      have t7 : (si τ5 5 (40 + L.n) (nI w)).1 7 (40 + L.n) = 0 := by rw [gF6.i 7 rfl, gg5.i 7 rfl, g4.i 7 rfl]; exact s7
      have t8 : (si τ5 5 (40 + L.n) (nI w)).1 8 (40 + L.n) = 0 := by rw [gF6.i 8 rfl, gg5.i 8 rfl, g4.i 8 rfl]; exact s8
      have t10 : (si τ5 5 (40 + L.n) (nI w)).2 10 (40 + L.n) = 0 := by rw [gF6.l 10 rfl, gg5.l 10 rfl, g4.l 10 rfl]; exact s10
      have t3 : (si τ5 5 (40 + L.n) (nI w)).1 3 1 = nI L.n := by rw [gF6.i 3 rfl, gg5.i 3 rfl, g4.i 3 rfl]; exact s3
      generalize si τ5 5 (40 + L.n) (nI w) = τ6 at *
      have hX6 := (hX3.fr f5 rfl).frP f6 PXs_tape.1 PXs_tape.2
      have hM6 := (hM4.fr g5 rfl).frP g6 PMs_tape.1 PMs_tape.2
      have F6 := F5.trans f6
      have G6 := G5.trans g6
      obtain ⟨⟨r7, σ7⟩, e7, ⟨q7, τ7⟩, m7, post7, f7, g7⟩ := num_lock (lo := 1) (hi := 60) hN w7 hX6 hM6 rb mK6 (by omega) (by omega)
      have e7' : f_X6_takeNumber N 1 60 σ6 = some (r7, σ7) := e7
      have m7' : f_X12_readNumber N 1 60 τ6 = some (q7, τ7) := m7
      rw [e7', bd_some, m7', bd_some]
      have F7 : FrP (PXs L.n) σ σ7 := F6.trans (f7.toP VC_PXs)
      have G7 : FrP (PMs L.n) τ τ7 := G6.trans (g7.toP VCM_PMs)
      rcases post7 with ⟨x1, x2, x3⟩ | ⟨x1, x2, h, h1, h2, h3, h4', h5, mK7, h6, h7, ff7, gg7⟩
      · have x1 : r7 = 0 := x1
        have x2 : q7 = 0 := x2
        subst x1; subst x2
        rw [if_pos rfl, if_pos rfl, bd_some]
        exact fail σ7 τ7 F7 G7 x3
      have x1 : r7 = 1 := x1
      have x2 : q7 = 1 := x2
      subst x1; subst x2
      dsimp only at h3 h4' h5 mK7 ff7 gg7 f7 g7
      rw [if_neg one_ne, if_neg one_ne, grd_true, grd_true, h3, h4']
      have f8 : FrP (PXs L.n) σ7 (si σ7 13 L.n (nI h)) := (FrP.refl _ _).si _ _ _ (Or.inr ⟨rfl, rfl⟩)
      have f8F : Fr [13] σ7 (si σ7 13 L.n (nI h)) := (Fr.refl _ _).si _ _ _ rfl
      have u13 : (si σ7 13 L.n (nI h)).1 13 L.n = nI h := by rw [si_rd, if_pos rfl, if_pos rfl]
      have u12 : (si σ7 13 L.n (nI h)).1 12 L.n = nI w := by rw [f8F.i 12 rfl, ff7.i 12 rfl]; exact r12
      have u11 : (si σ7 13 L.n (nI h)).2 11 L.n = nm := by rw [f8F.l 11 rfl, ff7.l 11 rfl]; exact r11b
      have ua : (si σ7 13 L.n (nI h)).1 4802 0 = nI (te B n (te B n p2)) := by rw [f8F.i 4802 rfl]; exact h5
      generalize si σ7 13 L.n (nI h) = σ8 at *
      have g8 : FrP (PMs L.n) τ7 (si τ7 6 (40 + L.n) (nI h)) := (FrP.refl _ _).si _ _ _ (Or.inr (Or.inl ⟨rfl, rfl⟩))
      have gF8 : Fr [6] τ7 (si τ7 6 (40 + L.n) (nI h)) := (Fr.refl _ _).si _ _ _ rfl
      have v6 : (si τ7 6 (40 + L.n) (nI h)).1 6 (40 + L.n) = nI h := by rw [si_rd, if_pos rfl, if_pos rfl]
      have v5 : (si τ7 6 (40 + L.n) (nI h)).1 5 (40 + L.n) = nI w := by rw [gF8.i 5 rfl, gg7.i 5 rfl]; exact s5
      have v4 : (si τ7 6 (40 + L.n) (nI h)).2 4 (40 + L.n) = nm := by rw [gF8.l 4 rfl, gg7.l 4 rfl]; exact t4
      have v7 : (si τ7 6 (40 + L.n) (nI h)).1 7 (40 + L.n) = 0 := by rw [gF8.i 7 rfl, gg7.i 7 rfl]; exact t7
      have v8 : (si τ7 6 (40 + L.n) (nI h)).1 8 (40 + L.n) = 0 := by rw [gF8.i 8 rfl, gg7.i 8 rfl]; exact t8
      have v10 : (si τ7 6 (40 + L.n) (nI h)).2 10 (40 + L.n) = 0 := by rw [gF8.l 10 rfl, gg7.l 10 rfl]; exact t10
      have v3 : (si τ7 6 (40 + L.n) (nI h)).1 3 1 = nI L.n := by rw [gF8.i 3 rfl, gg7.i 3 rfl]; exact t3
      have mK8 := mK7.fr gF8 rfl
      rw [show τ7.1 1003 0 = (si τ7 6 (40 + L.n) (nI h)).1 1003 0 from (gF8.i 1003 rfl 0).symm, show τ7.1 1004 0 = (si τ7 6 (40 + L.n) (nI h)).1 1004 0 from (gF8.i 1004 rfl 0).symm]
      generalize si τ7 6 (40 + L.n) (nI h) = τ8 at *
      have hX8 := (hX6.fr f7 rfl).frP f8 PXs_tape.1 PXs_tape.2
      have hM8 := (hM6.fr g7 rfl).frP g8 PMs_tape.1 PMs_tape.2
      have F8 := F7.trans f8
      have G8 := G7.trans g8
      have rf8 : RFault σ8 τ8 := rf.fr (V := [4802, 4803, 4804, 4805, 4806, 4807, 4808, 4809, 4810, 11, 12, 13]) (W := [1011, 1003, 1004, 1005, 1006, 1007, 1010, 4, 5, 6, 7, 8, 10]) ((((((f2.wide rfl).trans (fA.wide rfl)).trans (ff5.wide rfl)).trans (fB.wide rfl)).trans (ff7.wide rfl)).trans (f8F.wide rfl)) (((((((g2.wide rfl).trans (gA.wide rfl)).trans (g4.wide rfl)).trans (gg5.wide rfl)).trans (gF6.wide rfl)).trans (gg7.wide rfl)).trans (gF8.wide rfl)) rfl rfl
      obtain ⟨⟨r9, σ9⟩, e9, ⟨q9, τ9⟩, m9, post9, f9, g9⟩ := val_lock hN hln h7 hX8 hM8 (FrP.refl _ σ8) (FrP.refl _ τ8) ua mK8 v7 v8 v10 v3 rf8
      unfold mVal at m9
      rw [e9, bd_some, m9, bd_some]
      have F9 : FrP (PXs L.n) σ σ9 := F8.trans (f9.wide PX_s)
      have G9 : FrP (PMs L.n) τ τ9 := G8.trans (g9.wide PM_s)
      rcases post9 with ⟨x1, x2, x3⟩ | ⟨x1, x2, p3, kk, cc, dd, mm, y1, y2, hK9, mK9, y3, y4, y5, y6, z4, z5, z6, z7, o7, o8, o9, o10, o3, rf9⟩
      · have x1 : r9 = 0 := x1
        have x2 : q9 = 0 := x2
        subst x1; subst x2
        rw [if_pos rfl]
        exact fail σ9 τ9 F9 G9 x3
      have x1 : r9 = 1 := x1
      have x2 : q9 = 1 := x2
      subst x1; subst x2
      dsimp only at hK9 mK9 z4 z5 z6 z7 o7 o8 o9 o10 o3 f9 g9 rf9
      rw [if_neg one_ne]
      have hX9 := hX8.frP f9 PX_tape.1 PX_tape.2
      have hM9 := hM8.frP g9 PM_tape.1 PM_tape.2
      have fs : Fr [1400] σ9 (si σ9 1400 0 (σ9.1 1400 0 + 1)) := (Fr.refl _ _).si _ _ _ rfl
      have DXn : DX (si σ9 1400 0 (σ9.1 1400 0 + 1)) (LAdd L w h kk cc dd nm mm) b := DX_add dx hln F9 (by rw [(f9 11 L.n (by unfold PX; simp)).2]; exact u11) (by rw [(f9 12 L.n (by unfold PX; simp)).1]; exact u12) (by rw [(f9 13 L.n (by unfold PX; simp)).1]; exact u13) z4 z5 z6 z7
      have DMn : DM τ9 (LAdd L w h kk cc dd nm mm) b := DM_add dm hln G9 o3 (by rw [(g9 4 (40 + L.n) (by unfold PM; simp)).2]; exact v4) (by rw [(g9 5 (40 + L.n) (by unfold PM; simp)).1]; exact v5) (by rw [(g9 6 (40 + L.n) (by unfold PM; simp)).1]; exact v6) o7 o8 o9 o10 (fun s hs => by
        obtain ⟨_, _, _, c1, c2, _⟩ := hL.2.1 s hs
        by_cases e1 : L.k s = 1
        · exact (c1 e1).2
        · rw [c2 e1]; omega)
      have LOn : LOk (LAdd L w h kk cc dd nm mm) := LOk_add hL hln ⟨w1, w2⟩ ⟨h1, h2⟩ y3 y4 y5 y6
      refine (semi_lock (p0 := p) hN y2 (by omega) (hX9.fr fs rfl) hM9 (hK9.fr fs rfl) mK9 LOn DXn DMn hb (rf9.fr (V := [1400]) (W := VM) fs (Fr.refl _ _) rfl rfl)).mono (fun a ha => ha.mono (fun c hc => ⟨hc.1, ?_, ?_, ?_⟩))
      · exact ((F9.toFr PX_VL).trans (fs.wide rfl)).trans (hc.2.1.wide rfl)
      · exact (G9.toFr PM_VLM).trans (hc.2.2.wide rfl)
      · exact (PM_kp G9).trans (VCM_kp hc.2.2)
    · rw [if_neg (fun k => hnew ((fnd_neg h40).mp k)), if_neg (fun k => hnew (hoff.mpr k))]
      exact (cl_bad (N := N) hK2 mK2 (f2.wide rfl) (g2.wide rfl) (VCM_kp (g2.wide rfl))).1
  · rw [if_neg (fun k => e ((knd1 hK2).mp k)), if_neg (fun k => e ((srt_is1 mK2).mp k))]
    exact (cl_bad (N := N) hK2 mK2 (f2.wide rfl) (g2.wide rfl) (VCM_kp (g2.wide rfl))).1
