def LRule (L : Lv) (r v : Nat) : Lv := (L.n, L.w, L.h, L.k, L.c, L.d, L.nm, L.mn, if r = 0 then v else L.gap, if r = 1 then v else L.sq, if r = 2 then v else L.lst, if r = 3 then v else L.ech)
abbrev loR (r : Nat) : Nat := ([0, 8, 1, 0] : List Nat).getD r 0
abbrev hiR (r : Nat) : Nat := ([9, 99, 100, 3] : List Nat).getD r 0
theorem r_bits : ∀ b, b < 16 → ∀ r, r < 4 → ((((nI b >>> (nI r &&& 31)) &&& 1 = (1 : Int32)) ↔ ((nI (2 * b) >>> (nI (r + 1) &&& 31)) &&& 1 = (1 : Int32))) ∧ nI b ||| (1 <<< (nI r &&& 31)) = nI (b ||| (1 <<< r)) ∧ nI (2 * b) ||| (1 <<< (nI (r + 1) &&& 31)) = nI (2 * (b ||| (1 <<< r))) ∧ (b ||| (1 <<< r)) < 16) := by decide +kernel
theorem r_lims : ∀ r, r < 4 → st_1.getD r 0 = nI (loR r) ∧ st_2.getD r 0 = nI (hiR r) ∧ loR r ≤ hiR r ∧ hiR r ≤ 100 := by decide +kernel
theorem LRule_ok {L : Lv} (hL : LOk L) {r v : Nat} (hr : r < 4) (h1 : loR r ≤ v) (h2 : v ≤ hiR r) : LOk (LRule L r v) := by
  obtain ⟨a1, a2, a3, a4, a5, a6⟩ := hL
  refine ⟨a1, a2, ?_, ?_, ?_, ?_⟩
  · show (if r = 0 then v else L.gap) ≤ 9
    by_cases e : r = 0
    · subst e; rw [if_pos rfl]; exact h2
    · rw [if_neg e]; exact a3
  · show 8 ≤ (if r = 1 then v else L.sq) ∧ (if r = 1 then v else L.sq) ≤ 99
    by_cases e : r = 1
    · subst e; rw [if_pos rfl]; exact ⟨h1, h2⟩
    · rw [if_neg e]; exact a4
  · show 1 ≤ (if r = 2 then v else L.lst) ∧ (if r = 2 then v else L.lst) ≤ 100
    by_cases e : r = 2
    · subst e; rw [if_pos rfl]; exact ⟨h1, h2⟩
    · rw [if_neg e]; exact a5
  · show (if r = 3 then v else L.ech) ≤ 3
    by_cases e : r = 3
    · subst e; rw [if_pos rfl]; exact h2
    · rw [if_neg e]; exact a6
def PXr (r : Nat) (a j : Nat) : Prop := VC.contains a = true ∨ (a = 18 ∧ j = r) ∨ (a = 1409 ∧ j = 0)
def PMr (r : Nat) (a j : Nat) : Prop := VCM.contains a = true ∨ (a = 2 ∧ j = 4 + r) ∨ (a = 1021 ∧ j = 0)
theorem DX_rule {σ σ' : St} {L : Lv} {b b' r v : Nat} (dx : DX σ L b) (hr : r < 4) (f : FrP (PXr r) σ σ') (h1 : σ'.1 18 r = nI v) (h2 : σ'.1 1409 0 = nI b') : DX σ' (LRule L r v) b' := by
  obtain ⟨⟨b1, b2, b3, b4, b5, b6⟩, b7⟩ := dx
  have rd : ∀ i x : Nat, σ.1 18 i = nI x → σ'.1 18 i = nI (if r = i then v else x) := by
    intro i x hx
    by_cases e : r = i
    · rw [if_pos e, ← e]; exact h1
    · rw [if_neg e, (f 18 i (by unfold PXr; simp; omega)).1]; exact hx
  refine ⟨⟨?_, fun s hs => ?_, rd 0 _ b3, rd 1 _ b4, rd 2 _ b5, rd 3 _ b6⟩, h2⟩
  · show σ'.1 1400 0 = nI L.n
    rw [(f 1400 0 (by unfold PXr; simp)).1]; exact b1
  · show σ'.2 11 s = L.nm s ∧ σ'.1 12 s = nI (L.w s) ∧ σ'.1 13 s = nI (L.h s) ∧ σ'.1 14 s = nI (L.k s) ∧ σ'.1 15 s = nI (L.c s) ∧ σ'.1 16 s = nI (sp (L.d s) (L.c s)) ∧ σ'.2 17 s = L.mn s
    rw [(f 11 s (by unfold PXr; simp)).2, (f 12 s (by unfold PXr; simp)).1, (f 13 s (by unfold PXr; simp)).1, (f 14 s (by unfold PXr; simp)).1, (f 15 s (by unfold PXr; simp)).1, (f 16 s (by unfold PXr; simp)).1, (f 17 s (by unfold PXr; simp)).2]
    exact b2 s hs
theorem DM_rule {τ τ' : St} {L : Lv} {b b' r v : Nat} (dm : DM τ L b) (hr : r < 4) (f : FrP (PMr r) τ τ') (h1 : τ'.1 2 (4 + r) = nI v) (h2 : τ'.1 1021 0 = nI (2 * b')) : DM τ' (LRule L r v) b' := by
  obtain ⟨b1, b2, b3, b4, b5, b6, b7⟩ := dm
  have rd : ∀ i x : Nat, i < 4 → τ.1 2 (4 + i) = nI x → τ'.1 2 (4 + i) = nI (if r = i then v else x) := by
    intro i x hi hx
    by_cases e : r = i
    · rw [if_pos e, ← e]; exact h1
    · rw [if_neg e, (f 2 (4 + i) (by unfold PMr; simp; omega)).1]; exact hx
  refine ⟨?_, fun s hs => ?_, rd 0 _ (by omega) b3, rd 1 _ (by omega) b4, rd 2 _ (by omega) b5, rd 3 _ (by omega) b6, h2⟩
  · show τ'.1 3 1 = nI L.n
    rw [(f 3 1 (by unfold PMr; simp)).1]; exact b1
  · show τ'.2 4 (40 + s) = L.nm s ∧ τ'.1 5 (40 + s) = nI (L.w s) ∧ τ'.1 6 (40 + s) = nI (L.h s) ∧ τ'.1 7 (40 + s) = nI (L.k s) ∧ τ'.1 8 (40 + s) = nI (L.c s) ∧ (∀ i, i < L.c s → τ'.1 9 (3 * (40 + s) + i) = nI (L.d s i)) ∧ τ'.2 10 (40 + s) = L.mn s
    rw [(f 4 (40 + s) (by unfold PMr; simp)).2, (f 5 (40 + s) (by unfold PMr; simp)).1, (f 6 (40 + s) (by unfold PMr; simp)).1, (f 7 (40 + s) (by unfold PMr; simp)).1, (f 8 (40 + s) (by unfold PMr; simp)).1, (f 10 (40 + s) (by unfold PMr; simp)).2]
    obtain ⟨c1, c2, c3, c4, c5, c6, c7⟩ := b2 s hs
    refine ⟨c1, c2, c3, c4, c5, fun i hi => ?_, c7⟩
    rw [(f 9 _ (by unfold PMr; simp)).1]; exact c6 i hi
theorem rule_go {N n : Nat} {B : Nat → Nat} {p b r : Nat} {L : Lv} {σ τ : St} (hN : 802 < N) (hp : p ≤ n) (hr : r < 4) (hk : tk B n p ≠ 0) (hX : TapeX σ n B) (hM : TapeM τ n B) (hK : TokX σ n B p) (mK : TokM τ n B p) (hL : LOk L) (dx : DX σ L b) (dm : DM τ L b) (hb : b < 16) (rf : RFault σ τ) :
    ok (bd (f_X6_takeNumber N (nI (loR r)) (nI (hiR r)) (si σ 1409 0 (nI (b ||| (1 <<< r))))) (fun r6_ σ6 => (if r6_ = 0 then some ((0 : Int32), σ6) else grd (ib (nI r) 4) (bo (f_X8_next N (si σ6 18 (nI r).toNatClampNeg (σ6.1 4809 0))) (fun σ9 => (if (f_X8_isMarked 59 σ9) = 0 then bd (f_X8_refuse 1 σ9) (fun r11_ σ11 => (if r11_ = 0 then some (0, σ11) else some (1, σ11))) else some (1, σ9)))))))
    (fun a => ok (bo (f_X12_scan N (si τ 1021 0 (nI (2 * (b ||| (1 <<< r)))))) (fun σ5 => f_X12_readClause_150 N (nI (r + 1)) (nI (loR r)) (nI (hiR r)) σ5)) (fun c => ClPost n B p a c ∧ Fr VL σ a.2 ∧ Fr VLM τ c.2 ∧ Kp τ c.2)) := by
  have hn := hX.1
  have hle := te_le (B := B) hp
  have hge := te_ge B n p
  have hgt := te_gt hk
  have hqe := tq_ge B n p
  have hlim := r_lims r hr
  have hb' := (r_bits b hb r hr).2.2.2
  generalize b ||| (1 <<< r) = b' at *
  have f1 : Fr [1409] σ (si σ 1409 0 (nI b')) := (Fr.refl _ _).si _ _ _ rfl
  have F1 : FrP (PXr r) σ (si σ 1409 0 (nI b')) := (FrP.refl _ _).si _ _ _ (Or.inr (Or.inr ⟨rfl, rfl⟩))
  have q1 : (si σ 1409 0 (nI b')).1 1409 0 = nI b' := by rw [si_rd]; rfl
  have ha1 : (si σ 1409 0 (nI b')).1 4802 0 = nI (te B n p) := by rw [f1.i 4802 rfl]; exact hK.1
  have hX1 := hX.fr f1 rfl
  generalize si σ 1409 0 (nI b') = σ1 at *
  have g1 : Fr [1021] τ (si τ 1021 0 (nI (2 * b'))) := (Fr.refl _ _).si _ _ _ rfl
  have G1 : FrP (PMr r) τ (si τ 1021 0 (nI (2 * b'))) := (FrP.refl _ _).si _ _ _ (Or.inr (Or.inr ⟨rfl, rfl⟩))
  have w1 : (si τ 1021 0 (nI (2 * b'))).1 1021 0 = nI (2 * b') := by rw [si_rd]; rfl
  have hM1 := hM.fr g1 rfl
  have hb1 : (si τ 1021 0 (nI (2 * b'))).1 1006 0 = nI (te B n p) := by rw [g1.i 1006 rfl]; exact mK.2.1
  generalize si τ 1021 0 (nI (2 * b')) = τ1 at *
  obtain ⟨τ2, m2, mK2, g2⟩ := m_scan hN hle hM1 hb1
  rw [m2, bo_some]
  unfold f_X12_readClause_150
  obtain ⟨⟨r3, σ3⟩, e3, ⟨q3, τ3⟩, m3, post3, f3, g3⟩ := num_lock (lo := loR r) (hi := hiR r) hN hle hX1 (hM1.fr g2 rfl) ha1 mK2 (by omega) (by omega)
  rw [e3, bd_some, m3, bd_some]
  dsimp only at f3 g3 post3
  have vc : ∀ a j, VC.contains a = true → PXr r a j := fun a j h => Or.inl h
  have vn : ∀ a j, VN.contains a = true → PXr r a j := fun a j h => Or.inl (csub rfl h)
  have vcm : ∀ a j, VCM.contains a = true → PMr r a j := fun a j h => Or.inl h
  have vm : ∀ a j, VM.contains a = true → PMr r a j := fun a j h => Or.inl (csub rfl h)
  have xl : ∀ a j, PXr r a j → VL.contains a = true := by
    rintro a j (h | ⟨h, _⟩ | ⟨h, _⟩)
    · exact csub rfl h
    · rw [h]; rfl
    · rw [h]; rfl
  have ml : ∀ a j, PMr r a j → VLM.contains a = true := by
    rintro a j (h | ⟨h, _⟩ | ⟨h, _⟩)
    · exact csub rfl h
    · rw [h]; rfl
    · rw [h]; rfl
  have kp : ∀ τ', FrP (PMr r) τ τ' → Kp τ τ' := by
    intro τ' f
    refine f.kp (fun t ht => ?_) (fun j hj => ?_) (fun i hi => ?_) ?_ <;> unfold PMr <;> simp <;> omega
  have F3 : FrP (PXr r) σ σ3 := F1.trans (f3.toP vc)
  have G3 : FrP (PMr r) τ τ3 := (G1.trans (g2.toP vm)).trans (g3.toP vcm)
  rcases post3 with ⟨x1, x2, x3⟩ | ⟨x1, x2, v, v1, v2, v3, v4, v5, mK3, v6, v7, ff3, gg3⟩
  · have x1 : r3 = 0 := x1
    have x2 : q3 = 0 := x2
    subst x1; subst x2
    unfold f_X12_readClause_172
    rw [if_pos rfl, if_pos rfl, if_pos rfl, ok_some, ok_some]
    exact ⟨Or.inl ⟨rfl, rfl, x3⟩, F3.toFr xl, G3.toFr ml, kp _ G3⟩
  have x1 : r3 = 1 := x1
  have x2 : q3 = 1 := x2
  subst x1; subst x2
  have e41 : 4 + nI (r + 1) - 1 = nI (4 + r) := by
    rw [show (4 : Int32) = nI 4 from rfl, nadd, show (1 : Int32) = nI 1 from rfl, nsub (by omega)]
    congr 1
  rw [if_neg one_ne, if_neg one_ne, e41, ncl (a := r) (by omega), ncl (a := 4 + r) (by omega), ib_n (a := r) (by omega), decide_eq_true hr, ib_n (a := 4 + r) (by omega), decide_eq_true (show 4 + r < 8 by omega), grd_true, grd_true, v3, v4]
  have f4 : FrP (PXr r) σ3 (si σ3 18 r (nI v)) := (FrP.refl _ _).si _ _ _ (Or.inr (Or.inl ⟨rfl, rfl⟩))
  have fF : Fr [18] σ3 (si σ3 18 r (nI v)) := (Fr.refl _ _).si _ _ _ rfl
  have q18 : (si σ3 18 r (nI v)).1 18 r = nI v := by rw [si_rd, if_pos rfl, if_pos rfl]
  have q09 : (si σ3 18 r (nI v)).1 1409 0 = nI b' := by rw [fF.i 1409 rfl, ff3.i 1409 rfl]; exact q1
  have ha4 : (si σ3 18 r (nI v)).1 4802 0 = nI (te B n (te B n p)) := by rw [fF.i 4802 rfl]; exact v5
  have hX4 := (hX1.fr f3 rfl).fr fF rfl
  generalize si σ3 18 r (nI v) = σ4 at *
  have g4 : FrP (PMr r) τ3 (si τ3 2 (4 + r) (nI v)) := (FrP.refl _ _).si _ _ _ (Or.inr (Or.inl ⟨rfl, rfl⟩))
  have gF : Fr [2] τ3 (si τ3 2 (4 + r) (nI v)) := (Fr.refl _ _).si _ _ _ rfl
  have t2 : (si τ3 2 (4 + r) (nI v)).1 2 (4 + r) = nI v := by rw [si_rd, if_pos rfl, if_pos rfl]
  have t21 : (si τ3 2 (4 + r) (nI v)).1 1021 0 = nI (2 * b') := by rw [gF.i 1021 rfl, gg3.i 1021 rfl, g2.i 1021 rfl]; exact w1
  have mK4 := mK3.fr gF rfl
  have hM4 := ((hM1.fr g2 rfl).fr g3 rfl).fr gF rfl
  generalize si τ3 2 (4 + r) (nI v) = τ4 at *
  obtain ⟨σ5, e5, hK5, f5⟩ := x_next (N := N) (by omega) v7 hX4 ha4
  rw [e5, bo_some]
  have rf5 : RFault σ5 τ4 := rf.fr (V := [4802, 4803, 4804, 4805, 4806, 4807, 4808, 4809, 4810, 18, 1409]) (W := [1011, 1003, 1004, 1005, 1006, 1007, 1010, 2, 1021]) ((((f1.wide rfl).trans (ff3.wide rfl)).trans (fF.wide rfl)).trans (f5.wide rfl)) ((((g1.wide rfl).trans (g2.wide rfl)).trans (gg3.wide rfl)).trans (gF.wide rfl)) rfl rfl
  have DXn : DX σ5 (LRule L r v) b' := DX_rule dx hr ((F3.trans f4).trans (f5.toP vn)) (by rw [f5.i 18 rfl]; exact q18) (by rw [f5.i 1409 rfl]; exact q09)
  have DMn : DM τ4 (LRule L r v) b' := DM_rule dm hr (G3.trans g4) t2 t21
  refine (semi_lock (p0 := p) hN v7 (by omega) (hX4.fr f5 rfl) hM4 hK5 mK4 (LRule_ok hL hr v1 v2) DXn DMn hb' rf5).mono (fun a ha => ha.mono (fun c hc => ⟨hc.1, ?_, ?_, ?_⟩))
  · exact (((F3.trans f4).trans (f5.toP vn)).toFr xl).trans (hc.2.1.wide rfl)
  · exact ((G3.trans g4).toFr ml).trans (hc.2.2.wide rfl)
  · exact (kp _ (G3.trans g4)).trans (VCM_kp hc.2.2)
