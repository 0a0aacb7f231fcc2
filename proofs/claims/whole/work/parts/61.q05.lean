/-! blocks: the whole text -/
abbrev Bl4 : Type := List (List (It 4))
abbrev cdT (bls : List Bl4) : List Int32 := itc (-45) (bls.map (cdB 4))
abbrev lnT (L : Lv) (bls : List Bl4) : Nat := (bxs (bls.map (lyB L 4))).length
def BkL (L : Lv) (τ : St) (bls : List Bl4) : Prop := ∀ j bl, bls[j]? = some bl → okB L 4 bl ∧ ∃ root lo hi, τ.1 29 j = nI root ∧ hi ≤ 400 ∧ NdB τ QT L 4 bl root lo hi
theorem BkL_snoc {L : Lv} {τ : St} {bls : List Bl4} {bl : Bl4} (h : BkL L τ bls) (hb : okB L 4 bl) {root lo hi : Nat} (h1 : τ.1 29 bls.length = nI root) (h2 : hi ≤ 400) (h3 : NdB τ QT L 4 bl root lo hi) : BkL L τ (bls ++ [bl]) := by
  intro j x hx
  by_cases e : j < bls.length
  · rw [List.getElem?_append_left e] at hx; exact h j x hx
  · rw [List.getElem?_append_right (by omega)] at hx
    have ej : j = bls.length := by
      cases q : j - bls.length with
      | zero => omega
      | succ m => rw [q] at hx; cases hx
    rw [ej, Nat.sub_self] at hx
    have ex : bl = x := by simpa using hx
    rw [ej, ← ex]
    exact ⟨hb, root, lo, hi, h1, h2, h3⟩
theorem BkL_fr {L : Lv} {τ τ' : St} {bls : List Bl4} {lo : Nat} (h : BkL L τ bls) (hh : ∀ j bl, bls[j]? = some bl → ∃ root a m, τ.1 29 j = nI root ∧ m ≤ lo ∧ NdB τ QT L 4 bl root a m) : True := trivial
def BkI (L : Lv) (τ : St) (bls : List Bl4) (top : Nat) : Prop := ∀ j bl, bls[j]? = some bl → okB L 4 bl ∧ ∃ root lo hi, τ.1 29 j = nI root ∧ hi ≤ top ∧ NdB τ QT L 4 bl root lo hi
theorem BkI_fr {L : Lv} {τ τ' : St} {bls : List Bl4} {top : Nat} (h : BkI L τ bls top) (e29 : ∀ j, j < bls.length → τ'.1 29 j = τ.1 29 j) (e : ∀ j, j < top → ∀ a, ([11, 12, 13, 14, 15] : List Nat).contains a = true → τ'.1 a j = τ.1 a j) : BkI L τ' bls top := by
  intro j bl hj
  obtain ⟨h1, root, lo, hi, h2, h3, h4⟩ := h j bl hj
  have hjl : j < bls.length := (List.getElem?_eq_some_iff.mp hj).1
  exact ⟨h1, root, lo, hi, by rw [e29 j hjl]; exact h2, h3, NdB_fr (fun i i1 i2 => ⟨e i (by omega) 11 rfl, e i (by omega) 12 rfl, e i (by omega) 13 rfl, e i (by omega) 14 rfl, fun _ => e i (by omega) 15 rfl, fun _ q => q⟩) h4⟩
theorem BkI_up {L : Lv} {τ : St} {bls : List Bl4} {top top' : Nat} (h : BkI L τ bls top) (ht : top ≤ top') : BkI L τ bls top' := fun j bl hj => by
  obtain ⟨h1, root, lo, hi, h2, h3, h4⟩ := h j bl hj
  exact ⟨h1, root, lo, hi, h2, by omega, h4⟩
theorem BkI_snoc {L : Lv} {τ : St} {bls : List Bl4} {bl : Bl4} {top : Nat} (h : BkI L τ bls top) (hb : okB L 4 bl) {root lo hi : Nat} (h1 : τ.1 29 bls.length = nI root) (h2 : hi ≤ top) (h3 : NdB τ QT L 4 bl root lo hi) : BkI L τ (bls ++ [bl]) top := by
  intro j x hx
  by_cases e : j < bls.length
  · rw [List.getElem?_append_left e] at hx; exact h j x hx
  · rw [List.getElem?_append_right (by omega)] at hx
    have ej : j = bls.length := by
      cases q : j - bls.length with
      | zero => omega
      | succ m => rw [q] at hx; cases hx
    rw [ej, Nat.sub_self] at hx
    have ex : bl = x := by simpa using hx
    rw [ej, ← ex]
    exact ⟨hb, root, lo, hi, h1, h2, h3⟩
abbrev VRc : List Nat := [1003, 1004, 1005, 1006, 1007, 1010, 1031, 1032, 1033, 1034, 11, 12, 13, 14, 15, 29, 1011]
abbrev VRb : List Nat := [1003, 1004, 1005, 1006, 1007, 1010, 1031, 1032, 1033, 1034, 1008, 1009, 11, 12, 13, 14, 15, 29, 1011]
def RbPost (L : Lv) (n : Nat) (B : Nat → Nat) (σ0 τ0 : St) (Cl : Option (Int32 × St)) (a : Int32 × St) : Prop :=
  (a.1 = 0 ∧ ∃ σ', Cl = some (0, σ') ∧ RFault σ' a.2 ∧ Fr VPX σ0 σ' ∧ Fr VRb τ0 a.2) ∨ (a.1 = 1 ∧ ∃ bls σ', Cl = some (1, σ') ∧ 1 ≤ bls.length ∧ bls.length ≤ 12 ∧ lnT L bls ≤ 24 ∧ (cdT bls).length ≤ 240 ∧ Cd σ' (cdT bls) ∧ a.2.1 1011 0 = nI bls.length ∧ BkI L a.2 bls 400 ∧ (∃ top, τ0.1 4811 0 = τ0.1 4811 0 ∧ top = 0) ∧ LX 1 σ' L ∧ LM a.2 L ∧ (∀ V : List Nat, True) ∧ Fr VPY σ0 σ' ∧ Fr VRc τ0 a.2)
theorem itc_nil_app (c : List Int32) : [] ++ c = c := rfl
theorem lk_blocks {N : Nat} (hN : 802 < N) {L : Lv} (hL : LOk L) {n : Nat} {B : Nat → Nat} {σ0 τ0 : St} {Cl : Option (Int32 × St)} :
    ∀ (k fuel : Nat) (σ τ : St) (p i fuelC sc lo : Nat) (bls : List Bl4) (c : List Int32), 13 - bls.length = k → k < fuel → bls.length ≤ 12 → c = (if bls = [] then [] else cdT bls ++ [-45]) → CX L σ n B p c 0 0 bls.length sc → MX L τ n B p 0 sc lo → i ≤ p → 801 - i < fuelC → sc = lnT L bls → c.length ≤ 10 * sc → lo ≤ 2 * sc → BkI L τ bls lo → Cl = f_X0_take_27 N fuelC (nI i) σ → Fr VPY σ0 σ → Fr VRc τ0 τ →
    ok (f_X12_readBlocks_2 N fuel (nI bls.length) τ) (RbPost L n B σ0 τ0 Cl) := by
  intro k
  induction k with
  | zero => intro fuel σ τ p i fuelC sc lo bls c hk _ h12; omega
  | succ k ih =>
    intro fuel σ τ p i fuelC sc lo bls c hk hf h12 hcc cx mx hip hfC hsc hcl hlo bk hCl f0 g0
    obtain ⟨fuel, rfl⟩ : ∃ f, fuel = f + 1 := ⟨fuel - 1, by omega⟩
    have hp := cx.2.2.1
    have n800 := cx.1.1
    have s24 := cx.2.2.2.2.2.2.2.2.2.2.2.2
    obtain ⟨fuelC, rfl⟩ : ∃ f, fuelC = f + 1 := ⟨fuelC - 1, by omega⟩
    have z0 : zbb 0 = true := rfl
    have failB : ∀ (kk : Int32) (σ' : St), f_X0_take_27 N (fuelC + 1) (nI i) σ = some (0, σ') → Bad σ σ' kk (tq B n p) → RbPost L n B σ0 τ0 Cl (0, si (si τ 1008 0 kk) 1009 0 (τ.1 1005 0)) := by
      intro kk σ' h1 h2
      obtain ⟨σ'', y1, y2, y3, y4⟩ := fail_of (σ := σ) (lo := 0) (τ0 := τ) h1 h2 mx.2.1 (FrP.refl _ _)
      exact Or.inl ⟨rfl, σ'', by rw [hCl]; exact y1, y2, (f0.wide rfl).trans y3, (g0.wide rfl).trans ((y4.toFr (V := VRg) (fun a j h => PRe_V h)).wide rfl)⟩
    by_cases start : tk B n p = 1 ∨ (tk B n p = 3 ∧ B (tq B n p) = 40)
    · have e25 : f_X12_readBlocks_2 N (fuel + 1) (nI bls.length) τ = f_X12_readBlocks_25 N (f_X12_readBlocks_2 N fuel) (nI bls.length) τ := by
        rw [f_X12_readBlocks_2]
        rcases start with h | h
        · rw [if_pos ((srt_is1 mx.2.1).mpr h)]
        · rw [if_neg (fun q => by have := (srt_is1 mx.2.1).mp q; omega), if_pos ((srt_3 mx).2.2.2.2.1.mpr h)]
      rw [e25]
      unfold f_X12_readBlocks_25 f_X12_fails
      by_cases full : bls.length = 12
      · rw [full] at cx
        obtain ⟨σ', a2, a3⟩ := xs_full (fuel := fuelC) (i := i) hN cx (by omega) start
        rw [if_pos (show nI bls.length = (12 : Int32) by rw [full]; rfl), bd_some, z0, grd_true, ok_some]
        exact failB 4 σ' a2 a3
      · rw [if_neg (show ¬ nI bls.length = (12 : Int32) from fun q => full ((neq (b := 12) (by omega) (by omega)).mp q))]
        unfold f_X12_readBlock
        have cb := lk_block (n := n) (B := B) hN hL 4 20 (by omega) (by omega) σ τ p c 0 bls.length sc lo i (fuelC + 1) cx (Or.inl rfl) (fun _ => by omega) mx hip hfC (by omega) hlo
        have wrap := zb_wrap cb (fun a h => h.imp (fun q => q.1) (fun q => q.1))
        refine ok_bd_of wrap (fun r τ1 h => ?_)
        rcases h with ⟨r1, r2⟩ | ⟨r1, bl, σ2, p2, i2, fuel2, sc2, m1, root, st2, e3, a1, a2, a3, a4, cx2, mx2, a5, a6, a7, a8, a9, a10, a11, a12, a13, a14, f3, g3⟩
        · have r1' : r = 0 := r1
          obtain ⟨σ', z1, z2, z3, z4⟩ := r2
          have z4' : FrP (PRe lo) τ τ1 := z4
          rw [r1', if_pos rfl, ok_some]
          exact Or.inl ⟨rfl, σ', by rw [hCl]; exact z1, z2, (f0.wide rfl).trans z3, (g0.wide rfl).trans ((z4'.toFr (V := VRg) (fun a j h => PRe_V h)).wide rfl)⟩
        · have r1' : r = 1 := r1
          have g3' : FrP (PRf lo) τ τ1 := g3
          have mx2' : MX L τ1 n B p2 0 sc2 m1 := mx2
          have a6' : NdB τ1 QT L 4 bl root lo m1 := a6
          have a7' : τ1.1 1034 0 = nI root := a7
          have a9' : sc2 = sc + (lyB L 4 bl).2.2.length := a9
          have hp2 := cx2.2.2.1
          have s24' := cx2.2.2.2.2.2.2.2.2.2.2.2.2
          have cx2' : CX L σ2 n B p2 (c ++ cdB 4 bl) st2 0 (bls.length + 1) sc2 := cx2
          have a10' : (c ++ cdB 4 bl).length + 0 + 1 ≤ 10 * sc2 := a10
          have ecd : c ++ cdB 4 bl = cdT (bls ++ [bl]) := by
            rw [hcc]
            unfold cdT
            rw [List.map_append, List.map_cons, List.map_nil]
            by_cases e : bls = []
            · rw [if_pos e, e]; rfl
            · rw [if_neg e, itc_snoc _ _ _ (fun q => e (List.map_eq_nil_iff.mp q))]; simp
          have esc : sc2 = lnT L (bls ++ [bl]) := by
            unfold lnT
            rw [List.map_append, List.map_cons, List.map_nil, bxs_snoc, List.length_append]
            rw [a9', hsc]
          have el : (bls ++ [bl]).length = bls.length + 1 := by rw [List.length_append, List.length_singleton]
          have nne : bls ++ [bl] ≠ [] := fun q => by have := congrArg List.length q; rw [el] at this; simp at this
          rw [r1', if_neg one_ne, ib_n (a := bls.length) (by omega), decide_eq_true (show bls.length < 12 by omega), grd_true, ncl (a := bls.length) (by omega), a7', nI_1]
          have G1 : Fr VRc τ0 τ1 := g0.trans ((g3'.toFr (V := VRh) (fun a j h => PRf_W h)).wide rfl)
          have f4 : Fr [29] τ1 (si τ1 29 bls.length (nI root)) := (Fr.refl _ _).si _ _ _ rfl
          have w29 : ∀ j, (si τ1 29 bls.length (nI root)).1 29 j = if j = bls.length then nI root else τ1.1 29 j := fun j => by rw [si_rd, if_pos rfl]
          have bk2 : BkI L (si τ1 29 bls.length (nI root)) (bls ++ [bl]) m1 := by
            refine BkI_snoc (BkI_up (BkI_fr bk (fun j hj => ?_) (fun j hj a ha => ?_)) a12) a5 (by rw [w29, if_pos rfl]) (Nat.le_refl _) (NdB_fr (fun j _ _ => ⟨by rw [f4.i 11 rfl], by rw [f4.i 12 rfl], by rw [f4.i 13 rfl], by rw [f4.i 14 rfl], fun _ => by rw [f4.i 15 rfl], fun _ q => q⟩) a6')
            · rw [w29, if_neg (by omega), (g3' 29 j (fun q => by have := PRf_W q; cases this)).1]
            · have key : ∀ a, a ∈ ([11, 12, 13, 14, 15] : List Nat) → ([29] : List Nat).contains a = false := by decide
              rw [f4.i a (key a (List.contains_iff_mem.mp ha))]
              exact PRf_nd g3' hj a ha
          have mx4 := mx2'.fr f4 rfl
          have G4 : Fr VRc τ0 (si τ1 29 bls.length (nI root)) := G1.trans (f4.wide rfl)
          generalize si τ1 29 bls.length (nI root) = τ4 at *
          have e03 : τ1.1 1003 0 = τ4.1 1003 0 := by rw [f4.i 1003 rfl]
          rw [e03]
          obtain ⟨fuel2, rfl⟩ : ∃ f, fuel2 = f + 1 := ⟨fuel2 - 1, by omega⟩
          by_cases ke : tk B n p2 = 0
          · obtain ⟨σ3, e5, cx3, f5⟩ := xs_end (fuel := fuel2) (i := i2) hN cx2' (by omega) ke a4
            rw [if_pos ((m_srt mx4.2.1).2.mpr ke), ok_some]
            have f6 : Fr [1011] τ4 (si τ4 1011 0 (nI (bls.length + 1))) := (Fr.refl _ _).si _ _ _ rfl
            rw [ecd] at a10'
            have cd3 : Cd σ3 (cdT (bls ++ [bl])) := by rw [← ecd]; exact cx3.2.2.2.2.1
            refine Or.inr ⟨rfl, bls ++ [bl], σ3, by rw [hCl, e3]; exact e5, by omega, by omega, by omega, by omega, cd3, by rw [si_rd, if_pos rfl, if_pos rfl, el], BkI_up (BkI_fr bk2 (fun j _ => by rw [f6.i 29 rfl]) (fun j _ a ha => ?_)) (by omega), ⟨0, rfl, rfl⟩, cx3.2.2.2.1, LM_fr mx4.2.2.1 f6 rfl, fun _ => trivial, (f0.trans f3).trans (f5.wide rfl), G4.trans (f6.wide rfl)⟩
            have key : ∀ a, a ∈ ([11, 12, 13, 14, 15] : List Nat) → ([1011] : List Nat).contains a = false := by decide
            rw [f6.i a (key a (List.contains_iff_mem.mp ha))]
          · rw [if_neg (fun q => ke ((m_srt mx4.2.1).2.mp q))]
            by_cases kl : tk B n p2 = 3 ∧ B (tq B n p2) = 45
            · have t2 := te_le (B := B) hp2
              have adv2 := tok_adv (B := B) (n := n) (p := p2) (by omega)
              obtain ⟨σ3, e5, cx3, f5⟩ := xs_mark (fuel := fuel2) (i := i2) (st' := 0) (d' := 0) hN cx2' (by omega) kl.1 (by rw [kl.2]; exact Or.inr (Or.inr (Or.inl ⟨rfl, a4, rfl⟩))) (by rw [kl.2]; decide) (Or.inr (Or.inl ⟨kl.2, rfl, rfl⟩))
              rw [if_pos ((srt_3 mx4).2.2.2.1.mpr kl)]
              refine ok_bo_of (MX_scan (d' := 0) (sc' := sc2) hN hp2 mx4 (Fr.refl _ _) mx4.2.2.2.1 mx4.2.2.2.2.1) (fun τ5 ⟨mx5, f6⟩ => ?_)
              rw [ecd, kl.2] at cx3
              rw [ecd] at a10'
              have hc2 : cdT (bls ++ [bl]) ++ [-nI 45] = (if bls ++ [bl] = [] then [] else cdT (bls ++ [bl]) ++ [-45]) := by rw [if_neg nne]; rfl
              have nx := ih fuel σ3 τ5 (te B n p2) (i2 + 1) fuel2 sc2 m1 (bls ++ [bl]) (cdT (bls ++ [bl]) ++ [-nI 45]) (by omega) (by omega) (by omega) hc2 (by rw [el]; exact cx3) mx5 (by omega) (by omega) esc (by rw [List.length_append, List.length_singleton]; omega) (by omega) (BkI_fr bk2 (fun j _ => by rw [f6.i 29 rfl]) (fun j _ a ha => by
                have key : ∀ a, a ∈ ([11, 12, 13, 14, 15] : List Nat) → VM.contains a = false := by decide
                rw [f6.i a (key a (List.contains_iff_mem.mp ha))])) (by rw [hCl, e3]; exact e5) ((f0.trans f3).trans f5) (G4.trans (f6.wide rfl))
              rw [el] at nx
              exact nx
            · have na : ¬ acp st2 0 (tk B n p2) (B (tq B n p2)) := by
                intro q
                rcases q with ⟨_, q⟩ | ⟨q, q2⟩ | ⟨q, _⟩
                · omega
                · rcases q2 with ⟨_, q3⟩ | ⟨_, _, q3⟩ | ⟨q2, _⟩ | ⟨q2, q3⟩ | ⟨q2 | q2, _⟩
                  · omega
                  · omega
                  · exact kl ⟨q, q2⟩
                  · exact a13 q3 ⟨q, q2⟩
                  · exact a14.2 ⟨q, q2⟩
                  · exact a14.1.2 ⟨q, q2⟩
                · exact ke q
              obtain ⟨σ', z1, z2⟩ := xs_bad (fuel := fuel2) (i := i2) hN cx2' (by omega) na
              obtain ⟨σ'', y1, y2, y3, y4⟩ := fail_of (σ := σ2) (lo := 0) (τ0 := τ4) z1 z2 mx4.2.1 (FrP.refl _ _)
              rw [if_neg (fun q => kl ((srt_3 mx4).2.2.2.1.mp q)), bd_some, z0, grd_true, ok_some]
              exact Or.inl ⟨rfl, σ'', by rw [hCl, e3]; exact y1, y2, ((f0.trans f3).wide rfl).trans y3, (G4.wide rfl).trans ((y4.toFr (V := VRg) (fun a j h => PRe_V h)).wide rfl)⟩
    · have na : ¬ acp 0 0 (tk B n p) (B (tq B n p)) := by unfold acp; omega
      obtain ⟨σ', a2, a3⟩ := xs_bad (fuel := fuelC) (i := i) hN cx (by omega) na
      unfold f_X12_readBlocks_2 f_X12_fails
      rw [if_neg (fun q => start (Or.inl ((srt_is1 mx.2.1).mp q))), if_neg (fun q => start (Or.inr ((srt_3 mx).2.2.2.2.1.mp q))), bd_some, z0, grd_true, ok_some]
      exact failB 1 σ' a2 a3
