/-! term(), value() -/
theorem x_isNamed {N : Nat} {w : Int64} {σ : St} {m : Nat} (hN : 802 < N) (hm : m ≤ 40) (h : σ.1 7600 0 = nI m) : f_X9_isNamed N w σ = some (if fndN (σ.2 34) w m 0 = -1 then 0 else 1) := by
  unfold f_X9_isNamed
  have key : ∀ (k fuel i : Nat), m - i = k → k < fuel → i ≤ m → f_X9_isNamed_2 N fuel w (nI i) σ = some (if fndN (σ.2 34) w k i = -1 then 0 else 1) := by
    intro k
    induction k with
    | zero =>
      intro fuel i hk hf hi
      obtain ⟨fuel, rfl⟩ : ∃ f, fuel = f + 1 := ⟨fuel - 1, by omega⟩
      rw [f_X9_isNamed_2, h, if_pos (nI_le (by omega) (by omega))]; rfl
    | succ k ih =>
      intro fuel i hk hf hi
      obtain ⟨fuel, rfl⟩ : ∃ f, fuel = f + 1 := ⟨fuel - 1, by omega⟩
      rw [f_X9_isNamed_2, h, if_neg (nI_ge (by omega) (by omega)), ib_n (by omega), decide_eq_true (by omega), grd_true, ncl (by omega)]
      unfold fndN
      by_cases e : σ.2 34 i = w
      · rw [if_pos (lg_cmp0.mpr e), if_pos e, if_neg (nneg i (by omega))]
      · rw [if_neg (fun k => e (lg_cmp0.mp k)), if_neg e, nI_1]
        exact ih fuel (i + 1) (by omega) (by omega) (by omega)
  exact key m N 0 rfl (by omega) (by omega)
theorem m_term_101 {N : Nat} {w kd : Int64} {x3 x4 : Int32} {τ : St} {m : Nat} (hN : 802 < N) (hm : m ≤ 40) (h : τ.1 1049 0 = nI m) : f_X12_term_101 N N w x3 x4 kd 0 τ = if fndN (τ.2 30) w m 0 = -1 then (if m = 40 then some (-3, τ) else f_X12_term_167 N N x3 x4 kd 0 (si (sl τ 30 m w) 31 m x4)) else some (-4, τ) := by
  have key : ∀ (k fuel i : Nat), m - i = k → k < fuel → i ≤ m → f_X12_term_101 N fuel w x3 x4 kd (nI i) τ = if fndN (τ.2 30) w k i = -1 then (if m = 40 then some (-3, τ) else f_X12_term_167 N N x3 x4 kd 0 (si (sl τ 30 m w) 31 m x4)) else some (-4, τ) := by
    intro k
    induction k with
    | zero =>
      intro fuel i hk hf hi
      obtain ⟨fuel, rfl⟩ : ∃ f, fuel = f + 1 := ⟨fuel - 1, by omega⟩
      rw [f_X12_term_101, h, if_pos (nI_le (by omega) (by omega)), if_pos (show fndN (τ.2 30) w 0 i = -1 from rfl)]
      by_cases e : m = 40
      · rw [if_pos e, e, if_pos (show nI 40 = (40 : Int32) from rfl)]
      · rw [if_neg e, if_neg (show ¬ nI m = (40 : Int32) from fun q => e ((neq (b := 40) (by omega) (by omega)).mp q)), ib_n (by omega), decide_eq_true (by omega), grd_true, grd_true, ncl (by omega)]
    | succ k ih =>
      intro fuel i hk hf hi
      obtain ⟨fuel, rfl⟩ : ∃ f, fuel = f + 1 := ⟨fuel - 1, by omega⟩
      rw [f_X12_term_101, h, if_neg (nI_ge (by omega) (by omega)), ib_n (a := i) (by omega), decide_eq_true (show i < 40 by omega), grd_true, ncl (a := i) (by omega)]
      unfold fndN
      by_cases e : τ.2 30 i = w
      · rw [if_pos (lg_cmp0.mpr e), if_pos e, if_neg (nneg i (by omega))]
      · rw [if_neg (fun k => e (lg_cmp0.mp k)), if_neg e, nI_1, ih fuel (i + 1) (by omega) (by omega) (by omega)]
  exact key m N 0 rfl (by omega) (by omega)
theorem m_term_167 {N n : Nat} {B : Nat → Nat} {q m t : Nat} {kd : Int64} {Q : Int32 × St → Prop} (hq : q + m ≤ n) (hm : m ≤ 8) (ht : t < 40) {τ0 : St} : ∀ (k fuel i : Nat) (τ : St), m - i = k → k < fuel → i ≤ m → TapeM τ n B → τ.1 1049 0 = nI t → (∀ j, j < i → τ.1 32 (8 * t + j) = nI (B (q + j) - 97)) → (∀ j, j < m → 97 ≤ B (q + j)) → FrP (fun a j => a = 32 ∧ 8 * t ≤ j) τ0 τ →
    (∀ τ', τ'.1 1049 0 = nI t → (∀ j, j < m → τ'.1 32 (8 * t + j) = nI (B (q + j) - 97)) → FrP (fun a j => a = 32 ∧ 8 * t ≤ j) τ0 τ' → Q (nI t, si (sl τ' 33 t kd) 1049 0 (nI (t + 1)))) → ok (f_X12_term_167 N fuel (nI q) (nI m) kd (nI i) τ) Q := by
  intro k
  induction k with
  | zero =>
    intro fuel i τ hk hf hi hT h4 hd hL hF kk
    obtain ⟨fuel, rfl⟩ : ∃ f, fuel = f + 1 := ⟨fuel - 1, by omega⟩
    rw [f_X12_term_167, if_pos (nI_le (by omega) (by omega)), h4, ib_n (by omega), decide_eq_true ht, grd_true, ok_some, nI_1, nI_pred, ncl (by omega)]
    exact kk τ h4 (fun j hj => hd j (by omega)) hF
  | succ k ih =>
    intro fuel i τ hk hf hi hT h4 hd hL hF kk
    obtain ⟨fuel, rfl⟩ : ∃ f, fuel = f + 1 := ⟨fuel - 1, by omega⟩
    have hn := hT.1
    have hb := (hT.2.2 (q + i) (by omega)).1
    have hl := hL i (by omega)
    have e97 : nI (B (q + i)) - 97 = nI (B (q + i) - 97) := nsub (b := 97) hl
    have e8 : 8 * nI t + nI i = nI (8 * t + i) := by rw [show (8 : Int32) = nI 8 from rfl, nmul, nadd]
    rw [f_X12_term_167, if_neg (nI_ge (by omega) (by omega)), nadd, m_see hT (by omega), bo_some, see_in (by omega), e97, h4, e8, ib_n (by omega), decide_eq_true (by omega), grd_true, ncl (by omega), nI_1]
    have f1 : FrP (fun a j => a = 32 ∧ 8 * t ≤ j) τ (si τ 32 (8 * t + i) (nI (B (q + i) - 97))) := (FrP.refl _ _).si _ _ _ ⟨rfl, by omega⟩
    refine ih fuel (i + 1) _ (by omega) (by omega) (by omega) (hT.frP f1 (by simp) (by simp)) ?_ ?_ hL (hF.trans f1) kk
    · rw [(f1 1049 0 (by simp)).1]; exact h4
    · intro j hj
      rw [si_rd, if_pos rfl]
      by_cases e : j = i
      · rw [if_pos (by omega), e]
      · rw [if_neg (by omega)]; exact hd j (by omega)
abbrev VTX : List Nat := [4801, 4802, 4803, 4804, 4805, 4806, 4807, 4808, 4809, 4810, 7600, 34, 35, 36, 37]
abbrev VTM : List Nat := [1001, 1002, 1003, 1004, 1005, 1006, 1007, 1010, 1049, 30, 31, 32, 33]
def TermPost (σ τ : St) (nt : Nat) (T : Nat → Tv) (a c : Int32 × St) : Prop := a.1 = c.1 ∧ RTape a.2 c.2 ∧ ((Fr VNX σ a.2 ∧ Fr VT τ c.2) ∨ (∃ v : Tv, RTerms a.2 c.2 (nt + 1) (up T nt v) ∧ Fr VTX σ a.2 ∧ Fr VTM τ c.2))
theorem c_term {N : Nat} (hN : 802 < N) {σ τ : St} {nt : Nat} {T : Nat → Tv} (rt : RTape σ τ) (rl : RTerms σ τ nt T) : ok (f_X11_term N σ) (fun a => ok (f_X12_term N τ) (fun c => TermPost σ τ nt T a c)) := by
  obtain ⟨n, B, hX, hn, h1, hB⟩ := tape_B rt
  obtain ⟨τ1, m1, hM1, mK1, t1, g1⟩ := m_take (N := N) hN hn h1 hB
  unfold f_X11_term f_X12_term f_X8_rewind f_X9_take
  rw [bo_some, m1, bo_some]
  have f1 : Fr [4802] σ (si σ 4802 0 0) := (Fr.refl _ _).si _ _ _ rfl
  have a1 : (si σ 4802 0 0).1 4802 0 = nI 0 := by simp only [si_rd, reduceIte]; rfl
  have hX1 := hX.fr f1 rfl
  generalize si σ 4802 0 0 = σ1 at *
  -- what is not a TERM
  have fin : ∀ (r : Int32) (σ' τ' : St), Fr VNX σ σ' → Fr VT τ τ' → τ'.1 1001 0 = 0 → ok (some (r, σ')) (fun b => ok (bo (f_X8_drain b.2) (fun σ3 => some (b.1, σ3))) (fun a => ok (some (r, τ')) (fun c => TermPost σ τ nt T a c))) := by
    intro r σ' τ' x1 x2 x3
    unfold f_X8_drain
    rw [ok_some, bo_some, ok_some, ok_some]
    exact ⟨rfl, rt_zero (by simp only [si_rd, reduceIte]) x3, Or.inl ⟨x1.si _ _ _ rfl, x2⟩⟩
  obtain ⟨σ2, e2, hK2, f2⟩ := x_next (N := N) (by omega) (Nat.zero_le n) hX1 a1
  have hX2 := hX1.fr f2 rfl
  have F2 : Fr VNX σ σ2 := (f1.wide rfl).trans (f2.wide rfl)
  rw [e2, bo_some, ok_bd]
  by_cases e : tk B n 0 = 1
  · rw [if_pos ((knd1 hK2).mpr e), if_pos ((srt_is1 mK1).mpr e)]
    have hle := te_le (B := B) (Nat.zero_le n)
    obtain ⟨σ3, e3, hK3, f3⟩ := x_next (N := N) (by omega) hle hX2 hK2.1
    have hX3 := hX2.fr f3 rfl
    have F3 : Fr VNX σ σ3 := F2.trans (f3.wide rfl)
    obtain ⟨τ3, m3, mK3, g3⟩ := m_scan hN hle hM1 mK1.2.1
    have hM3 := hM1.fr g3 rfl
    have G3 : Fr VT τ τ3 := g1.trans (g3.wide rfl)
    have t3 : τ3.1 1001 0 = 0 := by rw [g3.i 1001 rfl]; exact t1
    rw [e3, bo_some, m3, bo_some, m_isRow hN hM3 hle mK3, bo_some, show (8 : Int32) = nI 8 from rfl, x_isRow hn (by omega) hle hK3, mK3.2.1, mK3.1, nsub (te_ge _ _ _), hK2.2.2.2.1 e |>.2.1, mK1.2.2.2.1 e]
    generalize hnm : nmf B (tq B n 0) (te B n 0 - tq B n 0) = nm
    by_cases hr : tk B n (te B n 0) = 1 ∧ isS B (tq B n (te B n 0)) (te B n (te B n 0) - tq B n (te B n 0)) = true ∧ te B n (te B n 0) - tq B n (te B n 0) ≤ 8
    · obtain ⟨b1, b2, b3, b4⟩ := hK3.2.2.2.1 hr.1
      rw [i10 hr, if_neg one_ne, i10 ⟨hr.1, hr.2.1⟩, if_neg one_ne, if_pos (nI_le hr.2.2 (by omega)), b1, b4 hr.2.1 hr.2.2]
      have hlet := tok_let hr.1
      have hgt1 := te_gt (B := B) (n := n) (p := te B n 0) (by omega)
      generalize hp1 : te B n 0 = p1 at *
      have hle2 := te_le (B := B) hle
      have hge2 := te_ge B n p1
      generalize hq : tq B n p1 = q at *
      generalize hm : te B n p1 - q = m at *
      generalize hp2 : te B n p1 = p2 at *
      obtain ⟨σ4, e4, hK4, f4⟩ := x_next (N := N) (by omega) hle2 hX3 (by rw [hK3.1, hp2])
      have hX4 := hX3.fr f4 rfl
      have F4 : Fr VNX σ σ4 := F3.trans (f4.wide rfl)
      obtain ⟨τ4, m4, mK4, g4⟩ := m_scan hN hle2 hM3 (by rw [mK3.2.1, hp2])
      have hM4 := hM3.fr g4 rfl
      have G4 : Fr VT τ τ4 := G3.trans (g4.wide rfl)
      have t4 : τ4.1 1001 0 = 0 := by rw [g4.i 1001 rfl]; exact t3
      rw [e4, bo_some, m4, bo_some]
      -- the last TOKEN, the KIND
      have last : ∀ (σ5 τ5 : St) (p : Nat) (kd : Int64), p ≤ n → TokX σ5 n B p → TokM τ5 n B p → TapeM τ5 n B → Fr VNX σ σ5 → Fr VT τ τ5 → τ5.1 1001 0 = 0 → ok (f_X9_take_71 N nm (nI (sp (fun i => B (q + i) - 97) m)) (nI m) kd σ5) (fun b => ok (bo (f_X8_drain b.2) (fun σ3 => some (b.1, σ3))) (fun a => ok (f_X12_term_87 N nm (nI q) (nI m) kd τ5) (fun c => TermPost σ τ nt T a c))) := by
        intro σ5 τ5 p kd hp kX kM hM5 F5 G5 t5
        unfold f_X9_take_71 f_X12_term_87
        by_cases e0 : tk B n p = 0
        · have hnt : nt ≤ 40 := rl.1.1
          have c1 : σ5.1 7600 0 = nI nt := by rw [F5.i 7600 rfl]; exact rl.2.1.1
          have c2 : τ5.1 1049 0 = nI nt := by rw [G5.i 1049 rfl]; exact rl.2.2.1
          rw [if_pos ((knd0 kX).mpr e0), if_pos ((m_srt kM).2.mpr e0), x_isNamed hN hnt c1, bo_some, m_term_101 hN hnt c2]
          have en : fndN (σ5.2 34) nm nt 0 = fndN (τ5.2 30) nm nt 0 := fndN_congr nm nt 0 (fun j _ hj => by
            rw [(F5 34 rfl).2, (G5 30 rfl).2, (rl.2.2.2 j (by omega)).1]; exact (rl.2.1.2 j (by omega)).1)
          rw [en]
          by_cases hnew : fndN (τ5.2 30) nm nt 0 = -1
          · rw [if_pos hnew, if_pos rfl, if_pos hnew, c1]
            by_cases h40 : nt = 40
            · rw [if_neg (show ¬ nI nt < (40 : Int32) by rw [h40]; decide), if_pos h40]
              exact fin _ _ _ F5 G5 t5
            · rw [if_pos (show nI nt < (40 : Int32) from nI_lt (b := 40) (by omega) (by omega)), if_neg h40]
              unfold f_X9_put
              rw [c1, ib_n (by omega), decide_eq_true (show nt < 40 by omega), grd_true, grd_true, grd_true, grd_true, nI_1, nI_pred, ncl (by omega), bd_some, ok_some]
              unfold f_X8_drain
              rw [bo_some, ok_some, ← nI_0]
              have gs : Fr [30, 31] τ5 (si (sl τ5 30 nt nm) 31 nt (nI m)) := ((Fr.refl _ _).sl _ _ _ rfl).si _ _ _ rfl
              have gs1 : FrP (fun a j => (a = 30 ∨ a = 31) ∧ j = nt) τ5 (si (sl τ5 30 nt nm) 31 nt (nI m)) := ((FrP.refl _ _).sl _ _ _ ⟨Or.inl rfl, rfl⟩).si _ _ _ ⟨Or.inr rfl, rfl⟩
              have r30 : (si (sl τ5 30 nt nm) 31 nt (nI m)).2 30 nt = nm := by simp only [si_2, sl_rd, reduceIte]
              have r31 : (si (sl τ5 30 nt nm) 31 nt (nI m)).1 31 nt = nI m := by simp only [si_rd, reduceIte]
              have r49 : (si (sl τ5 30 nt nm) 31 nt (nI m)).1 1049 0 = nI nt := by rw [gs.i 1049 rfl]; exact c2
              have hM6 := hM5.fr gs rfl
              generalize si (sl τ5 30 nt nm) 31 nt (nI m) = τ6 at *
              refine m_term_167 (q := q) (t := nt) (by omega) hr.2.2 (by omega) (τ0 := τ6) m N 0 τ6 rfl (by omega) (by omega) hM6 r49 (fun j hj => by omega) (fun j hj => (hlet.2 j hj).1) (FrP.refl _ _) (fun τ7 y1 y2 y3 => ?_)
              have gF : Fr [32] τ6 τ7 := y3.toFr (fun a j h => by rw [h.1]; rfl)
              refine ⟨rfl, rt_zero (by simp only [si_rd, reduceIte]; rfl) ?_, Or.inr ⟨(nm, m, fun i => B (q + i) - 97, kd), ⟨?_, ?_, ?_⟩, ?_, ?_⟩⟩
              · show (si (sl τ7 33 nt kd) 1049 0 (nI (nt + 1))).1 1001 0 = 0
                rw [si_rd, if_neg (by decide), sl_1, gF.i 1001 rfl, gs.i 1001 rfl]; exact t5
              · refine ⟨by omega, fun t ht => ?_⟩
                by_cases et : t = nt
                · subst et
                  rw [up_is]
                  refine ⟨by show 1 ≤ m; omega, hr.2.2, fun i hi => ?_⟩
                  have := isS_at.mp hr.2.1 i hi
                  show B (q + i) - 97 < 16
                  omega
                · rw [up_ne _ _ et]; exact rl.1.2 t (by omega)
              · refine ⟨by simp only [si_rd, reduceIte, Nat.reduceEqDiff], fun t ht => ?_⟩
                simp only [si_rd, sl_rd, si_2, sl_1, reduceIte, Nat.reduceEqDiff]
                by_cases et : t = nt
                · subst et
                  simp only [reduceIte, up_is]
                  exact ⟨trivial, trivial, trivial, trivial⟩
                · simp only [if_neg et, up_ne _ _ et]
                  rw [F5.l 34 rfl, F5.i 35 rfl, F5.i 36 rfl, F5.l 37 rfl]
                  exact rl.2.1.2 t (by omega)
              · refine ⟨by simp only [si_rd, reduceIte], fun t ht => ?_⟩
                simp only [si_rd, sl_rd, si_2, sl_1, reduceIte, Nat.reduceEqDiff]
                by_cases et : t = nt
                · subst et
                  simp only [reduceIte, up_is]
                  refine ⟨by rw [gF.l 30 rfl]; exact r30, y2, by rw [gF.i 31 rfl]; exact r31, trivial⟩
                · simp only [if_neg et, up_ne _ _ et]
                  obtain ⟨d1, d2, d3, d4⟩ := rl.2.2.2 t (by omega)
                  obtain ⟨_, dn, _⟩ := rl.1.2 t (by omega)
                  refine ⟨?_, fun i hi => ?_, ?_, ?_⟩
                  · rw [gF.l 30 rfl, (gs1 30 t (by simp; exact et)).2, G5.l 30 rfl]; exact d1
                  · rw [(y3 32 (8 * t + i) (by simp; omega)).1, gs.i 32 rfl, G5.i 32 rfl]; exact d2 i hi
                  · rw [gF.i 31 rfl, (gs1 31 t (by simp; exact et)).1, G5.i 31 rfl]; exact d3
                  · rw [gF.l 33 rfl, gs.l 33 rfl, G5.l 33 rfl]; exact d4
              · exact ((((((F5.wide rfl).sl _ _ _ rfl).si _ _ _ rfl).si _ _ _ rfl).sl _ _ _ rfl).si _ _ _ rfl).si _ _ _ rfl
              · exact ((((G5.wide rfl).trans (gs.wide rfl)).trans (gF.wide rfl)).sl _ _ _ rfl).si _ _ _ rfl
          · rw [if_neg hnew, if_neg one_ne, if_neg hnew]
            exact fin _ _ _ F5 G5 t5
        · rw [if_neg (fun h => e0 ((knd0 kX).mp h)), if_neg (fun h => e0 ((m_srt kM).2.mp h))]
          exact fin _ _ _ F5 G5 t5
      by_cases ek : tk B n p2 = 1
      · rw [if_pos ((knd1 hK4).mpr ek), if_pos ((srt_is1 mK4).mpr ek)]
        have hle3 := te_le (B := B) hle2
        obtain ⟨σ5, e5, hK5, f5⟩ := x_next (N := N) (by omega) hle3 hX4 hK4.1
        obtain ⟨τ5, m5, mK5, g5⟩ := m_scan hN hle3 hM4 mK4.2.1
        rw [e5, bo_some, m5, bo_some, (hK4.2.2.2.1 ek).2.1, mK4.2.2.2.1 ek]
        exact last σ5 τ5 _ _ hle3 hK5 mK5 (hM4.fr g5 rfl) (F4.trans (f5.wide rfl)) (G4.trans (g5.wide rfl)) (by rw [g5.i 1001 rfl]; exact t4)
      · rw [if_neg (fun h => ek ((knd1 hK4).mp h)), if_neg (fun h => ek ((srt_is1 mK4).mp h))]
        exact last σ4 τ4 _ _ hle2 hK4 mK4 hM4 F4 G4 t4
    · rw [i00 hr, if_pos rfl]
      have F3' := F3
      by_cases h2 : tk B n (te B n 0) = 1 ∧ isS B (tq B n (te B n 0)) (te B n (te B n 0) - tq B n (te B n 0)) = true
      · have h8 : ¬ te B n (te B n 0) - tq B n (te B n 0) ≤ 8 := fun h => hr ⟨h2.1, h2.2, h⟩
        have := tok_let h2.1
        rw [i10 h2, if_neg one_ne, if_neg (nI_ge (by omega) (by omega))]
        exact fin _ _ _ F3 G3 t3
      · rw [i00 h2, if_pos rfl]
        exact fin _ _ _ F3 G3 t3
  · rw [if_neg (fun h => e ((knd1 hK2).mp h)), if_neg (fun h => e ((srt_is1 mK1).mp h))]
    exact fin _ _ _ F2 g1 t1
