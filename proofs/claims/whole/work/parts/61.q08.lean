/-! blocks() -/
abbrev VBX1 : List Nat := [4801, 4802, 4803, 4804, 4805, 4806, 4807, 4808, 4809, 4810, 4811, 4812, 22, 5202, 5203, 5204, 5205, 5206]
abbrev VBX2 : List Nat := [4801, 4802, 4803, 4804, 4805, 4806, 4807, 4808, 4809, 4810, 4811, 4812, 22, 5202, 5203, 5204, 5205, 5206, 5614, 5605, 5613, 5602, 26, 27, 28, 29, 30, 31, 32, 24, 25]
abbrev VBM1 : List Nat := [1001, 1002, 1003, 1004, 1005, 1006, 1007, 1010, 1031, 1032, 1033, 1034, 1008, 1009, 11, 12, 13, 14, 15, 29, 1011]
abbrev VBM2 : List Nat := [1001, 1002, 1003, 1004, 1005, 1006, 1007, 1010, 1031, 1032, 1033, 1034, 1008, 1009, 11, 12, 13, 14, 15, 29, 1011, 1035, 16, 17, 1036, 23, 24, 25, 26, 27, 28, 20, 21, 22]
theorem c_blocks {N : Nat} (hN : 802 < N) {σ τ : St} {L : Lv} (rt : RTape σ τ) (rl : RList σ τ L) : ok (f_X11_blocks N σ) (fun a => ok (f_X12_blocks N τ) (fun c => a.1 = c.1 ∧ RTape a.2 c.2 ∧ RFault a.2 c.2 ∧ ((Fr VBX1 σ a.2 ∧ Fr VBM1 τ c.2) ∨ (RBlocks a.2 c.2 L.n ∧ Fr VBX2 σ a.2 ∧ Fr VBM2 τ c.2)))) := by
  have hL := rl.1
  obtain ⟨n, B, hX, hn, h1, hB⟩ := tape_B rt
  obtain ⟨τ1, m1, hM1, mK1, t1, g1⟩ := m_take (N := N) hN hn h1 hB
  unfold f_X11_blocks f_X12_blocks f_X8_rewind f_X8_forgetFault f_X0_take f_X8_drain f_X12_readBlocks
  rw [bo_some, bo_some, m1, bo_some]
  generalize hσ1 : si (si (si (si (si (si (si (si σ 4802 0 0) 4811 0 0) 4812 0 (-1)) 5202 0 0) 5203 0 0) 5204 0 0) 5205 0 0) 5206 0 0 = σ1
  have F1 : Fr [4802, 4811, 4812, 5202, 5203, 5204, 5205, 5206] σ σ1 := by
    rw [← hσ1]
    exact ((((((((Fr.refl _ _).si _ _ _ rfl).si _ _ _ rfl).si _ _ _ rfl).si _ _ _ rfl).si _ _ _ rfl).si _ _ _ rfl).si _ _ _ rfl).si _ _ _ rfl
  have a02 : σ1.1 4802 0 = nI 0 := by rw [← hσ1]; simp only [si_rd, reduceIte, Nat.reduceEqDiff]; rfl
  have a11 : σ1.1 4811 0 = 0 := by rw [← hσ1]; simp only [si_rd, reduceIte, Nat.reduceEqDiff]
  have a12 : σ1.1 4812 0 = -1 := by rw [← hσ1]; simp only [si_rd, reduceIte, Nat.reduceEqDiff]
  have b02 : σ1.1 5202 0 = nI 0 := by rw [← hσ1]; simp only [si_rd, reduceIte, Nat.reduceEqDiff]; rfl
  have b03 : σ1.1 5203 0 = nI 0 := by rw [← hσ1]; simp only [si_rd, reduceIte, Nat.reduceEqDiff]; rfl
  have b04 : σ1.1 5204 0 = nI 0 := by rw [← hσ1]; simp only [si_rd, reduceIte, Nat.reduceEqDiff]; rfl
  have b05 : σ1.1 5205 0 = nI 0 := by rw [← hσ1]; simp only [si_rd, reduceIte, Nat.reduceEqDiff]; rfl
  have b06 : σ1.1 5206 0 = nI 0 := by rw [← hσ1]; simp only [si_rd, reduceIte, Nat.reduceEqDiff]; rfl
  clear hσ1
  generalize hτ2 : si (si (si (si (si τ1 1008 0 0) 1009 0 (-1)) 1031 0 0) 1032 0 0) 1033 0 0 = τ2
  have G2 : Fr [1008, 1009, 1031, 1032, 1033] τ1 τ2 := by
    rw [← hτ2]
    exact (((((Fr.refl _ _).si _ _ _ rfl).si _ _ _ rfl).si _ _ _ rfl).si _ _ _ rfl).si _ _ _ rfl
  have d08 : τ2.1 1008 0 = 0 := by rw [← hτ2]; simp only [si_rd, reduceIte, Nat.reduceEqDiff]
  have d09 : τ2.1 1009 0 = -1 := by rw [← hτ2]; simp only [si_rd, reduceIte, Nat.reduceEqDiff]
  have d31 : τ2.1 1031 0 = nI 0 := by rw [← hτ2]; simp only [si_rd, reduceIte, Nat.reduceEqDiff]; rfl
  have d32 : τ2.1 1032 0 = nI 0 := by rw [← hτ2]; simp only [si_rd, reduceIte, Nat.reduceEqDiff]; rfl
  have d33 : τ2.1 1033 0 = nI 0 := by rw [← hτ2]; simp only [si_rd, reduceIte, Nat.reduceEqDiff]; rfl
  clear hτ2
  have G12 : Fr [1001, 1002, 1003, 1004, 1005, 1006, 1007, 1010, 1008, 1009, 1031, 1032, 1033] τ τ2 := (g1.wide rfl).trans (G2.wide rfl)
  have cx : CX L σ1 n B 0 [] 0 0 0 0 := ⟨hX.fr F1 rfl, a02, Nat.zero_le _, LX1_fr rl.2.1 F1 rfl, ⟨b02, fun j hj => absurd hj (by show ¬ j < min 240 0; omega)⟩, b03, b04, b05, b06, by omega, by omega, by omega, by omega⟩
  have mx : MX L τ2 n B 0 0 0 0 := ⟨hM1.fr G2 rfl, mK1.fr G2 rfl, LM_fr rl.2.2 G12 rfl, d32, d33, d31⟩
  have go := lk_blocks (N := N) hN hL (n := n) (B := B) (σ0 := σ1) (τ0 := τ2) (Cl := f_X0_take_27 N N 0 σ1) 13 N σ1 τ2 0 0 N 0 0 [] [] rfl (by omega) (by show 0 ≤ 12; omega) (by rw [if_pos rfl]) cx mx (Nat.le_refl _) (by omega) rfl (Nat.le_refl _) (Nat.le_refl _) (fun j bl hj => by cases hj) rfl (Fr.refl _ _) (Fr.refl _ _)
  have go' : ok (f_X12_readBlocks_2 N N 0 τ2) (RbPost L n B σ1 τ2 (f_X0_take_27 N N 0 σ1)) := go
  obtain ⟨⟨r, τ3⟩, e3, p3⟩ := go'
  rcases p3 with ⟨r1, σ3, c1, rf, f3, g3⟩ | ⟨r1, bls, σ3, c1, l1, l12, ln, cl, cdx, k11, bk, _, lx3, lm3, _, f3, g3⟩
  · have r1' : r = 0 := r1
    have g3' : Fr VRb τ2 τ3 := g3
    have rf' : RFault σ3 τ3 := rf
    rw [c1, bd_some, bo_some, if_pos rfl, ok_some, e3, bd_some, r1', if_pos rfl, ok_some]
    have F4 : Fr [4801] σ3 (si σ3 4801 0 0) := (Fr.refl _ _).si _ _ _ rfl
    refine ⟨rfl, rt_zero (by rw [si_rd, if_pos rfl, if_pos rfl]) (by rw [g3'.i 1001 rfl, G2.i 1001 rfl]; exact t1), rf'.fr F4 (Fr.refl [] τ3) rfl rfl, Or.inl ⟨((F1.wide rfl).trans (f3.wide rfl)).trans (F4.wide rfl), (G12.wide rfl).trans (g3'.wide rfl)⟩⟩
  · have r1' : r = 1 := r1
    have g3' : Fr VRc τ2 τ3 := g3
    have k11' : τ3.1 1011 0 = nI bls.length := k11
    have bk' : BkI L τ3 bls 400 := bk
    have lm3' : LM τ3 L := lm3
    have okall : ∀ bl, bl ∈ bls → okB L 4 bl ∧ (lyB L 4 bl).2.2.length ≤ 24 := fun bl hb => by
      obtain ⟨j, hj⟩ := List.getElem?_of_mem hb
      refine ⟨(bk' j bl hj).1, ?_⟩
      have := bxs_mem (List.mem_map.mpr ⟨bl, hb, rfl⟩ : lyB L 4 bl ∈ bls.map (lyB L 4))
      unfold lnT at ln
      omega
    rw [c1, bd_some, bo_some, if_neg one_ne]
    unfold f_X1_layOut f_X1_forget
    rw [bo_some]
    generalize hσ4 : si (si (si (si (si σ3 4801 0 0) 5602 0 0) 5605 0 0) 5613 0 0) 5614 0 0 = σ4
    have F4 : Fr [4801, 5602, 5605, 5613, 5614] σ3 σ4 := by
      rw [← hσ4]
      exact (((((Fr.refl _ _).si _ _ _ rfl).si _ _ _ rfl).si _ _ _ rfl).si _ _ _ rfl).si _ _ _ rfl
    have u01 : σ4.1 4801 0 = 0 := by rw [← hσ4]; simp only [si_rd, reduceIte, Nat.reduceEqDiff]
    have u02 : σ4.1 5602 0 = nI 0 := by rw [← hσ4]; simp only [si_rd, reduceIte, Nat.reduceEqDiff]; rfl
    have u05 : σ4.1 5605 0 = nI 0 := by rw [← hσ4]; simp only [si_rd, reduceIte, Nat.reduceEqDiff]; rfl
    have u13 : σ4.1 5613 0 = nI 0 := by rw [← hσ4]; simp only [si_rd, reduceIte, Nat.reduceEqDiff]; rfl
    have u14 : σ4.1 5614 0 = nI 0 := by rw [← hσ4]; simp only [si_rd, reduceIte, Nat.reduceEqDiff]; rfl
    clear hσ4
    have tx : TxX σ4 (cdT bls) := ⟨cl, by rw [F4.i 5202 rfl, cdx.1, Nat.min_eq_right cl], fun j hj => by rw [F4.i 22 rfl]; exact cdx.2 j (by omega)⟩
    have lay := x_lay14 (N := N) hN hL (c := cdT bls) bls N 0 0 [] σ4 (by omega) (by omega) (fun bl hb => (okall bl hb).1) (fun q => by rw [q] at l1; cases l1) rfl ⟨tx, u14, u05, u02, u13⟩ (LX_fr (Or.inl rfl) lx3 F4 rfl) (by omega)
    obtain ⟨σ5, e5, y1, y2, y3, y4⟩ := lay
    rw [e5, bo_some, ok_some, e3, bd_some, r1', if_neg one_ne]
    generalize hτ4 : si (si τ3 1035 0 (τ3.1 1011 0)) 1036 0 0 = τ4
    have G4 : Fr [1035, 1036] τ3 τ4 := by
      rw [← hτ4]
      exact ((Fr.refl _ _).si _ _ _ rfl).si _ _ _ rfl
    have v35 : τ4.1 1035 0 = nI bls.length := by rw [← hτ4]; simp only [si_rd, reduceIte, Nat.reduceEqDiff]; exact k11'
    have v36 : τ4.1 1036 0 = nI 0 := by rw [← hτ4]; simp only [si_rd, reduceIte, Nat.reduceEqDiff]; rfl
    clear hτ4
    have lay2 := m_lay53 (N := N) hN hL bls N 0 0 τ4 (by omega) (by omega) (by rw [Nat.zero_add]; exact v35) (fun j bl hj => by
      obtain ⟨q1, q2, q3, q4, q5, q6, q7⟩ := bk' j bl hj
      exact ⟨q1, q2, q3, q4, by rw [Nat.zero_add, G4.i 29 rfl]; exact q5, q6, NdB_fr (fun i _ _ => ⟨by rw [G4.i 11 rfl], by rw [G4.i 12 rfl], by rw [G4.i 13 rfl], by rw [G4.i 14 rfl], fun _ => by rw [G4.i 15 rfl], fun _ q => q⟩) q7⟩) (LM_fr lm3' G4 rfl) v36 (by omega)
    have lay2' : ok (f_X12_blocks_53 N N 0 τ4) _ := lay2
    refine lay2'.mono (fun c ⟨z1, z2, z3, z4⟩ => ?_)
    have FY : Fr VLo σ4 σ5 := y4.toFr (fun a j h => PLo_V h)
    have FZ : Fr VLw τ4 c.2 := z4.toFr (fun a j h => PLw_V h)
    rw [Nat.zero_add] at y2 y3 z1 z3
    obtain ⟨q1, q2⟩ := ld_rel hL bls 0 0 (Nat.zero_add _) y1 z2 okall
    refine ⟨by rw [z1]; exact y2, rt_zero (by rw [FY.i 4801 rfl]; exact u01) (by rw [FZ.i 1001 rfl, G4.i 1001 rfl, g3'.i 1001 rfl, G2.i 1001 rfl]; exact t1), ⟨?_, ?_⟩, Or.inr ⟨⟨bls.length, lnT L bls, l12, ln, y2, ?_, y3, z3, fun b hb => q1 b (Nat.zero_le _) (by omega), fun k hk => q2 k (Nat.zero_le _) (by omega)⟩, (((F1.wide rfl).trans (f3.wide rfl)).trans (F4.wide rfl)).trans (FY.wide rfl), (((G12.wide rfl).trans (g3'.wide rfl)).trans (G4.wide rfl)).trans (FZ.wide rfl)⟩⟩
    · show σ5.1 4811 0 = c.2.1 1008 0
      rw [FY.i 4811 rfl, F4.i 4811 rfl, f3.i 4811 rfl, a11, FZ.i 1008 rfl, G4.i 1008 rfl, g3'.i 1008 rfl, d08]
    · show σ5.1 4812 0 = c.2.1 1009 0
      rw [FY.i 4812 rfl, F4.i 4812 rfl, f3.i 4812 rfl, a12, FZ.i 1009 rfl, G4.i 1009 rfl, g3'.i 1009 rfl, d09]
    · rw [FZ.i 1035 rfl]; exact v35
