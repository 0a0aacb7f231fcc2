def ListPost (σ τ : St) (L : Lv) (a c : Int32 × St) : Prop := a.1 = c.1 ∧ RTape a.2 c.2 ∧ RFault a.2 c.2 ∧ ((RList a.2 c.2 L ∧ Fr VF σ a.2 ∧ Fr VFM τ c.2) ∨ (∃ L', RList a.2 c.2 L' ∧ ZX a.2 ∧ ZM c.2 ∧ Fr VG σ a.2 ∧ Fr VGM τ c.2))
theorem rt_zero {σ τ : St} (h1 : σ.1 4801 0 = 0) (h2 : τ.1 1001 0 = 0) : RTape σ τ := ⟨0, by omega, h1, h2, fun j hj => by omega⟩
theorem VCM_kp' {τ τ' : St} (f : Fr VT τ τ') : Kp τ τ' := by
  have q := f.at (l := [4, 5, 6, 7, 8, 9, 10, 2, 3]) rfl
  refine ⟨fun s hs => ⟨by rw [(q 4 (by decide)).2], by rw [(q 5 (by decide)).1], by rw [(q 6 (by decide)).1], by rw [(q 7 (by decide)).1], by rw [(q 8 (by decide)).1], by rw [(q 10 (by decide)).2]⟩, fun j hj => by rw [(q 9 (by decide)).1], fun i hi => by rw [(q 2 (by decide)).1], by rw [(q 3 (by decide)).1]⟩
theorem c_list {N : Nat} (hN : 802 < N) {σ τ : St} {L : Lv} (rt : RTape σ τ) (rl : RList σ τ L) : ok (f_X11_list N σ) (fun a => ok (f_X12_list N τ) (fun c => ListPost σ τ L a c)) := by
  obtain ⟨n, B, hX, hn, h1, hB⟩ := tape_B rt
  unfold f_X11_list f_X12_list f_X8_rewind f_X8_forgetFault f_X6_take
  simp only [Nat.reduceMul, Nat.reduceAdd, Nat.reduceSub, bo_some, show cpb 0 0 4 4 4 = true from rfl, grd_true]
  obtain ⟨τ1, m1, hM, mK, t1, g1⟩ := m_take (N := N) hN hn h1 hB
  rw [m1, bo_some]
  unfold f_X12_beginDraft
  simp only [show ib 4 8 = true from rfl, show ib 5 8 = true from rfl, show ib 6 8 = true from rfl, show ib 7 8 = true from rfl, show ib 1 2 = true from rfl, grd_true, bo_some]
  generalize hs1 : sr (si (si (si (si (si σ 4802 0 0) 4811 0 0) 4812 0 (-1)) 1400 0 0) 1409 0 0) 18 (va_cpy (fun j => st_0.getD j 0) ((si (si (si (si (si σ 4802 0 0) 4811 0 0) 4812 0 (-1)) 1400 0 0) 1409 0 0).1 18) 0 0 4) = σ1
  have f1 : Fr [4802, 4811, 4812, 1400, 1409, 18] σ σ1 := by
    rw [← hs1]
    exact ((((((Fr.refl _ _).si _ _ _ rfl).si _ _ _ rfl).si _ _ _ rfl).si _ _ _ rfl).si _ _ _ rfl).sr _ _ rfl
  let L0 : Lv := (0, fun _ => 0, fun _ => 0, fun _ => 0, fun _ => 0, fun _ _ => 0, fun _ => 0, fun _ => 0, 1, 24, 50, 1)
  have hL0 : LOk L0 := ⟨Nat.zero_le _, fun s hs => absurd hs (Nat.not_lt_zero s), by decide, by decide, by decide, by decide⟩
  have r18 : ∀ j, j < 4 → σ1.1 18 j = st_0.getD j 0 := fun j hj => by
    rw [← hs1, sr_is, cpy_in hj]
  have dx0 : DX σ1 L0 0 := by
    refine ⟨⟨?_, fun s hs => absurd hs (Nat.not_lt_zero s), r18 0 (by omega), r18 1 (by omega), r18 2 (by omega), r18 3 (by omega)⟩, ?_⟩
    · show σ1.1 1400 0 = nI 0
      rw [← hs1, sr_ne _ _ (by decide)]
      simp only [si_rd, reduceIte, Nat.reduceEqDiff]; rfl
    · rw [← hs1, sr_ne _ _ (by decide)]
      simp only [si_rd, reduceIte, Nat.reduceEqDiff]; rfl
  have a02 : σ1.1 4802 0 = nI 0 := by
    rw [← hs1, sr_ne _ _ (by decide)]
    simp only [si_rd, reduceIte, Nat.reduceEqDiff]; rfl
  have fl1 : σ1.1 4811 0 = 0 ∧ σ1.1 4812 0 = -1 := by
    rw [← hs1, sr_ne _ _ (by decide), sr_ne _ _ (by decide)]
    simp only [si_rd, reduceIte, Nat.reduceEqDiff, and_self]
  clear hs1
  generalize ht1 : si (si (si (si (si (si (si (si τ1 1008 0 0) 1009 0 (-1)) 2 4 1) 2 5 24) 2 6 50) 2 7 1) 3 1 0) 1021 0 0 = τ2
  have g2 : Fr [1008, 1009, 2, 3, 1021] τ1 τ2 := by
    rw [← ht1]
    exact ((((((((Fr.refl _ _).si _ _ _ rfl).si _ _ _ rfl).si _ _ _ rfl).si _ _ _ rfl).si _ _ _ rfl).si _ _ _ rfl).si _ _ _ rfl).si _ _ _ rfl
  have kp2 : Kp τ1 τ2 := by
    refine ⟨fun s hs => ⟨by rw [g2.l 4 rfl], by rw [g2.i 5 rfl], by rw [g2.i 6 rfl], by rw [g2.i 7 rfl], by rw [g2.i 8 rfl], by rw [g2.l 10 rfl]⟩, fun j hj => by rw [g2.i 9 rfl], fun i hi => ?_, ?_⟩
    · rw [← ht1]
      simp only [si_rd, reduceIte, Nat.reduceEqDiff]
      rw [if_neg (by omega), if_neg (by omega), if_neg (by omega), if_neg (by omega)]
    · rw [← ht1]
      simp only [si_rd, reduceIte, Nat.reduceEqDiff]
  have dm0 : DM τ2 L0 0 := by
    rw [← ht1]
    refine ⟨?_, fun s hs => absurd hs (Nat.not_lt_zero s), ?_, ?_, ?_, ?_, ?_⟩ <;> simp only [si_rd, reduceIte, Nat.reduceEqDiff] <;> rfl
  have fm1 : τ2.1 1008 0 = 0 ∧ τ2.1 1009 0 = -1 := by
    rw [← ht1]
    simp only [si_rd, reduceIte, Nat.reduceEqDiff, and_self]
  clear ht1
  have kp1 : Kp τ τ1 := VCM_kp' g1
  have hX1 := hX.fr f1 rfl
  have hM2 := hM.fr g2 rfl
  have mK2 := mK.fr g2 rfl
  have t2 : τ2.1 1001 0 = 0 := by rw [g2.i 1001 rfl]; exact t1
  let Q : Int32 × St → Int32 × St → Prop := fun a c => (a.1 = -1 ∧ c.1 = -1 ∧ RFault a.2 c.2 ∧ Fr VL σ1 a.2 ∧ Fr VLM τ2 c.2 ∧ Kp τ2 c.2) ∨ (∃ i L', i ≤ 800 ∧ a.1 = nI i ∧ c.1 = nI i ∧ RFault a.2 c.2 ∧ LOk L' ∧ LX 2 a.2 L' ∧ LM c.2 L' ∧ ZM c.2 ∧ Fr VL σ1 a.2 ∧ Fr VGM τ2 c.2 ∧ c.2.1 1001 0 = 0)
  have main : ok (f_X6_take_25 2 N N 0 σ1) (fun a => ok (f_X12_list_25 N N 0 τ2) (fun c => Q a c)) := by
    refine list_loop (B := B) (n := n) hN (σ0 := σ1) (τ0 := τ2) (Q := Q) ?_ ?_ n N N 0 0 σ1 τ2 L0 0 (by omega) (by omega) (by omega) (by omega) (by omega) hX1 hM2 a02 mK2 hL0 dx0 dm0 (by omega) (Fr.refl _ _) (Fr.refl _ _) (Kp.refl _) ⟨fl1.1.trans fm1.1.symm, fl1.2.trans fm1.2.symm⟩
    · intro σ' τ' x1 x2 x3 x4
      exact Or.inl ⟨rfl, rfl, x1, x2, x3, x4⟩
    · intro σ' τ' i L' b y1 y2 y3 y4 y5 y6 y7 y8
      obtain ⟨τ3, m3, lm, g3⟩ := m_takeDraft hN y2 y4
      rw [m3, bo_some, ok_some]
      have g4 : Fr [1035, 1036, 1069, 1096, 1097, 1074, 1082, 1086] τ3 (si (si (si (si (si (si (si (si τ3 1035 0 0) 1036 0 0) 1069 0 0) 1096 0 0) 1097 0 0) 1074 0 0) 1082 0 0) 1086 0 0) := ((((((((Fr.refl _ _).si _ _ _ rfl).si _ _ _ rfl).si _ _ _ rfl).si _ _ _ rfl).si _ _ _ rfl).si _ _ _ rfl).si _ _ _ rfl).si _ _ _ rfl
      refine Or.inr ⟨i, L', y1, rfl, rfl, ?_, y2, y3.1, LM_fr lm g4 rfl, ?_, y6, ((y7.wide rfl).trans (g3.wide rfl)).trans (g4.wide rfl), ?_⟩
      · exact y5.fr (V := VN) (W := [2, 3, 4, 5, 6, 7, 8, 9, 10, 1035, 1036, 1069, 1096, 1097, 1074, 1082, 1086]) (Fr.refl _ _) ((g3.wide rfl).trans (g4.wide rfl)) rfl rfl
      · unfold ZM
        simp only [si_rd, reduceIte, Nat.reduceEqDiff, and_self]
      · show (si (si (si (si (si (si (si (si τ3 1035 0 0) 1036 0 0) 1069 0 0) 1096 0 0) 1097 0 0) 1074 0 0) 1082 0 0) 1086 0 0).1 1001 0 = 0
        rw [g4.i 1001 rfl, g3.i 1001 rfl, y7.i 1001 rfl]; exact t2
  obtain ⟨⟨r3, σ3⟩, e3, ⟨q3, τ3⟩, m3, hQ⟩ := main
  rw [e3, bd_some, m3]
  unfold f_X8_drain
  rw [bo_some]
  have fd : Fr [4801] σ3 (si σ3 4801 0 0) := (Fr.refl _ _).si _ _ _ rfl
  have rd : (si σ3 4801 0 0).1 4801 0 = 0 := by simp only [si_rd, reduceIte]
  generalize si σ3 4801 0 0 = σ4 at *
  rcases hQ with ⟨x1, x2, x3, x4, x5, x6⟩ | ⟨i, L', y0, x1, x2, y1, y2, y3, y4, y5, y6, y7, y8⟩
  · have x1 : r3 = -1 := x1
    have x2 : q3 = -1 := x2
    subst x1; subst x2
    dsimp only at x3 x4 x5 x6
    rw [if_neg (by decide), ok_some, ok_some]
    refine ⟨rfl, rt_zero rd (by rw [x5.i 1001 rfl]; exact t2), x3.fr (V := [4801]) (W := VM) fd (Fr.refl _ _) rfl rfl, Or.inl ⟨⟨rl.1, ?_, ?_⟩, ?_, ?_⟩⟩
    · exact LX1_fr (LX1_fr (LX1_fr rl.2.1 f1 rfl) x4 rfl) fd rfl
    · exact LM_kp rl.1 rl.2.2 ((kp1.trans kp2).trans x6)
    · exact ((f1.wide rfl).trans (x4.wide rfl)).trans (fd.wide rfl)
    · exact ((g1.wide rfl).trans (g2.wide rfl)).trans (x5.wide rfl)
  · have x1 : r3 = nI i := x1
    have x2 : q3 = nI i := x2
    subst x1; subst x2
    dsimp only at y1 y3 y4 y5 y6 y7 y8
    rw [if_pos (nI_pos' (by omega))]
    refine (x_listEnd hN y2 (LX2_fr y3 fd rfl) (nI i)).mono (fun a ha => ok_some.mpr ?_)
    obtain ⟨b1, b2, b3, b4⟩ := ha
    refine ⟨b1, rt_zero (by rw [b4.i 4801 rfl]; exact rd) y8, ?_, Or.inr ⟨L', ⟨y2, b2, y4⟩, b3, y5, ?_, ?_⟩⟩
    · exact y1.fr (V := [4801, 1200, 3, 4, 5, 6, 7, 8, 9, 10, 5602, 5605, 12404, 12411, 9004, 15600, 15601, 47, 14405, 14404]) (W := VM) ((fd.wide rfl).trans (b4.wide rfl)) (Fr.refl _ _) rfl rfl
    · exact (((f1.wide rfl).trans (y6.wide rfl)).trans (fd.wide rfl)).trans (b4.wide rfl)
    · exact ((g1.wide rfl).trans (g2.wide rfl)).trans y7
