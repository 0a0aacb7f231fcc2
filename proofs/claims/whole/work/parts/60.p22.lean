/-! a place in a row; days; VALUES -/
theorem ix {x : Int32} {n : Nat} (hn : n < 2147483648) : ((x < 0 ∨ nI n ≤ x) ∧ ¬ (0 ≤ x ∧ x ≤ nI n - 1)) ∨ (∃ j, j < n ∧ x = nI j ∧ ¬ x < 0 ∧ ¬ nI n ≤ x ∧ x < nI n ∧ (0 ≤ x ∧ x ≤ nI n - 1)) := by
  rcases pk_ix x hn with h | h | ⟨j, h1, h2⟩
  · exact Or.inl ⟨Or.inl h, fun k => absurd h (Int32.not_lt.mpr k.1)⟩
  · refine Or.inl ⟨Or.inr h, fun k => ?_⟩
    cases n with
    | zero =>
      have h2 := Int32.le_iff_toInt_le.mp k.2
      have h1 := Int32.le_iff_toInt_le.mp k.1
      rw [show (nI 0 - 1 : Int32).toInt = -1 from rfl] at h2
      rw [show (0 : Int32).toInt = 0 from rfl] at h1
      omega
    | succ m =>
      rw [nI_pred] at k
      have h2 := Int32.le_iff_toInt_le.mp k.2
      have h1 := Int32.le_iff_toInt_le.mp h
      rw [nint (by omega)] at h1 h2
      omega
  · refine Or.inr ⟨j, h1, h2, ?_, ?_, ?_, ?_, ?_⟩
    · rw [h2]; exact nI_pos (by omega)
    · rw [h2]; exact nI_ge h1 hn
    · rw [h2]; exact nI_lt h1 hn
    · rw [h2]; exact nI_pos' (by omega)
    · rw [h2]
      cases n with
      | zero => omega
      | succ m => rw [nI_pred]; exact nI_le (by omega) (by omega)
theorem day_eq (x : Int32) (σ τ : St) : f_X12_isDay x τ = some (f_X11_isDay x σ) ∧ ((f_X11_isDay x σ = 0 ∧ ¬ (0 ≤ x ∧ x ≤ 999)) ∨ (f_X11_isDay x σ = 1 ∧ ∃ d, d ≤ 999 ∧ x = nI d)) := by
  unfold f_X12_isDay f_X11_isDay
  rw [m_in]
  by_cases h1 : x < 0
  · have : ¬ (0 ≤ x ∧ x ≤ 999) := fun k => absurd h1 (Int32.not_lt.mpr k.1)
    rw [if_pos h1, if_neg this]
    exact ⟨rfl, Or.inl ⟨rfl, this⟩⟩
  · rw [if_neg h1]
    by_cases h2 : 999 < x
    · have : ¬ (0 ≤ x ∧ x ≤ 999) := fun k => absurd h2 (Int32.not_lt.mpr k.2)
      rw [if_pos h2, if_neg this]
      exact ⟨rfl, Or.inl ⟨rfl, this⟩⟩
    · have hh : 0 ≤ x ∧ x ≤ 999 := ⟨Int32.not_lt.mp h1, Int32.not_lt.mp h2⟩
      rw [if_neg h2, if_pos hh]
      refine ⟨rfl, Or.inr ⟨rfl, ?_⟩⟩
      obtain ⟨j, j1, j2⟩ := nI_of2 (M := 999) (n := 999) rfl h1 hh.2
      exact ⟨j, j1, j2⟩
theorem m_vsounds {N n : Nat} {B : Nat → Nat} {q m t : Nat} {day : Int32} {Q : Int32 × St → Prop} (hq : q + m ≤ n) (hm : m ≤ 3) (ht : t < 60) {τ0 : St} : ∀ (k fuel i : Nat) (τ : St), m - i = k → k < fuel → i ≤ m → TapeM τ n B → τ.1 1096 0 = nI t → (∀ j, j < i → τ.1 69 (3 * t + j) = nI (B (q + j) - 97)) → (∀ j, j < m → 97 ≤ B (q + j)) → FrP (fun a j => a = 69 ∧ 3 * t ≤ j) τ0 τ →
    (∀ τ', (∀ j, j < m → τ'.1 69 (3 * t + j) = nI (B (q + j) - 97)) → FrP (fun a j => a = 69 ∧ 3 * t ≤ j) τ0 τ' → Q (nI (t + 1), si (si τ' 1097 0 day) 1096 0 (nI (t + 1)))) → ok (f_X12_value_162 N fuel day (nI q) (nI m) (nI i) τ) Q := by
  intro k
  induction k with
  | zero =>
    intro fuel i τ hk hf hi hT h4 hd hL hF kk
    obtain ⟨fuel, rfl⟩ : ∃ f, fuel = f + 1 := ⟨fuel - 1, by omega⟩
    rw [f_X12_value_162, if_pos (nI_le (by omega) (by omega)), h4, ok_some, nI_1]
    exact kk τ (fun j hj => hd j (by omega)) hF
  | succ k ih =>
    intro fuel i τ hk hf hi hT h4 hd hL hF kk
    obtain ⟨fuel, rfl⟩ : ∃ f, fuel = f + 1 := ⟨fuel - 1, by omega⟩
    have hn := hT.1
    have hb := (hT.2.2 (q + i) (by omega)).1
    have hl := hL i (by omega)
    have e97 : nI (B (q + i)) - 97 = nI (B (q + i) - 97) := nsub (b := 97) hl
    have e8 : 3 * nI t + nI i = nI (3 * t + i) := by rw [show (3 : Int32) = nI 3 from rfl, nmul, nadd]
    rw [f_X12_value_162, if_neg (nI_ge (by omega) (by omega)), nadd, m_see hT (by omega), bo_some, see_in (by omega), e97, h4, e8, ib_n (by omega), decide_eq_true (by omega), grd_true, ncl (by omega), nI_1]
    have f1 : FrP (fun a j => a = 69 ∧ 3 * t ≤ j) τ (si τ 69 (3 * t + i) (nI (B (q + i) - 97))) := (FrP.refl _ _).si _ _ _ ⟨rfl, by omega⟩
    refine ih fuel (i + 1) _ (by omega) (by omega) (by omega) (hT.frP f1 (by simp) (by simp)) ?_ ?_ hL (hF.trans f1) kk
    · rw [(f1 1096 0 (by simp)).1]; exact h4
    · intro j hj
      rw [si_rd, if_pos rfl]
      by_cases e : j = i
      · rw [if_pos (by omega), e]
      · rw [if_neg (by omega)]; exact hd j (by omega)
abbrev VVX : List Nat := [4801, 4802, 4803, 4804, 4805, 4806, 4807, 4808, 4809, 4810, 15600, 15601, 74, 75, 76, 77, 78]
abbrev VVM : List Nat := [1001, 1002, 1003, 1004, 1005, 1006, 1007, 1010, 1096, 1097, 65, 66, 67, 68, 69]
def ValuePost (σ τ : St) (ns : Nat) (a c : Int32 × St) : Prop := a.1 = c.1 ∧ RTape a.2 c.2 ∧ RVals a.2 c.2 ns ∧ Fr VVX σ a.2 ∧ Fr VVM τ c.2
theorem x_value_69 {N n : Nat} {B : Nat → Nat} (hN : 802 < N) {σ τ : St} {L : Lv} (rl : RList σ τ L) (rv : RVals σ τ L.n) (x1 x2 x3 : Int32) {p : Nat} {σ3 τ1 : St} (hp : p ≤ n) (hM : TapeM τ1 n B) (mK : TokM τ1 n B p) (t1 : τ1.1 1001 0 = 0) (F : Fr VNX σ σ3) (G : Fr VT τ τ1) {x5 x6 t0 : Int32} (h5 : t0 ≠ 0 → tk B n p = 1 ∧ isS B (tq B n p) (te B n p - tq B n p) = true ∧ te B n p - tq B n p ≤ 3 ∧ tk B n (te B n p) = 0 ∧ x5 = nI (sp (fun i => B (tq B n p + i) - 97) (te B n p - tq B n p)) ∧ x6 = nI (te B n p - tq B n p)) (h0 : t0 = 0 → ¬ (tk B n p = 1 ∧ isS B (tq B n p) (te B n p - tq B n p) = true ∧ te B n p - tq B n p ≤ 3 ∧ tk B n (te B n p) = 0)) :
    ok (f_X11_value_69 N x1 x2 x3 x5 x6 t0 σ3) (fun a => ok (grd (ib 0 2) ((if (f_X12_in x1 0 ((τ1.1 3 0) - 1) τ1) = 0 then some ((-2), τ1) else bo (f_X12_isDay x2 τ1) (fun r4_ => (if r4_ = 0 then some ((-2), τ1) else (if (f_X12_in x3 (τ1.1 1097 0) 999 τ1) = 0 then some ((-2), τ1) else bo (f_X12_isRow N τ1) (fun r7_ => (if r7_ = 0 then f_X12_value_79 N x1 x2 x3 (τ1.1 1005 0) ((τ1.1 1006 0) - (τ1.1 1005 0)) 0 τ1 else (if 4 ≤ ((τ1.1 1006 0) - (τ1.1 1005 0)) then f_X12_value_79 N x1 x2 x3 (τ1.1 1005 0) ((τ1.1 1006 0) - (τ1.1 1005 0)) 0 τ1 else f_X12_value_79 N x1 x2 x3 (τ1.1 1005 0) ((τ1.1 1006 0) - (τ1.1 1005 0)) 1 τ1))))))))) (fun c => ValuePost σ τ L.n a c)) := by
  have hn := hM.1
  have hL40 := rl.1.1
  unfold f_X11_value_69 f_X8_drain
  rw [bo_some, show ib 0 2 = true from rfl, grd_true]
  have fd : Fr [4801] σ3 (si σ3 4801 0 0) := (Fr.refl _ _).si _ _ _ rfl
  have rd : (si σ3 4801 0 0).1 4801 0 = 0 := by simp only [si_rd, reduceIte]
  generalize si σ3 4801 0 0 = σ4 at *
  have F4 : Fr VNX σ σ4 := F.trans (fd.wide rfl)
  have fail : ∀ r : Int32, ∀ τ', Fr VT τ τ' → τ'.1 1001 0 = 0 → ok (some (r, σ4)) (fun a => ok (some (r, τ')) (fun c => ValuePost σ τ L.n a c)) := by
    intro r τ' G' t'
    rw [ok_some, ok_some]
    exact ⟨rfl, rt_zero rd t', rv.fr F4 G' rfl rfl, F4.wide rfl, G'.wide rfl⟩
  have e1200 : σ4.1 1200 0 = nI L.n := by rw [F4.i 1200 rfl]; exact rl.2.1.1
  have e3 : τ1.1 3 0 = nI L.n := by rw [G.i 3 rfl]; exact rl.2.2.1
  unfold f_X6_has
  simp only [Nat.reduceMul, Nat.reduceAdd]
  rw [e1200, e3, m_in]
  rcases ix (x := x1) (n := L.n) (by omega) with ⟨hx, hy⟩ | ⟨s, hs, rfl, k1, k2, k3, k4⟩
  · rw [i00 hy, if_pos rfl]
    rcases hx with hx | hx
    · rw [if_pos hx, if_pos rfl]; exact fail _ _ G t1
    · by_cases hx0 : x1 < 0
      · rw [if_pos hx0, if_pos rfl]; exact fail _ _ G t1
      · rw [if_neg hx0, if_pos hx, if_pos rfl]; exact fail _ _ G t1
  rw [if_neg k1, if_neg k2, if_neg one_ne, i10 k4, if_neg one_ne]
  obtain ⟨dq, dc⟩ := day_eq x2 σ4 τ1
  rw [dq, bo_some]
  rcases dc with ⟨d0, _⟩ | ⟨d1, d, hd, rfl⟩
  · rw [d0, if_pos rfl, if_pos rfl]; exact fail _ _ G t1
  rw [d1, if_neg one_ne, if_neg one_ne]
  obtain ⟨nv, dl, v1, v2, v3, v4, v5, v6, v7⟩ := rv
  have e01 : σ4.1 15601 0 = nI dl := by rw [F4.i 15601 rfl]; exact v5
  have e97 : τ1.1 1097 0 = nI dl := by rw [G.i 1097 rfl]; exact v6
  have e00 : σ4.1 15600 0 = nI nv := by rw [F4.i 15600 rfl]; exact v3
  have e96 : τ1.1 1096 0 = nI nv := by rw [G.i 1096 rfl]; exact v4
  rw [e01, e97, m_in, e00]
  obtain ⟨_, dc3⟩ := day_eq x3 σ4 τ1
  have hdl : (0 : Int32) ≤ nI dl := nI_pos' (by omega)
  rcases dc3 with ⟨d0, dn⟩ | ⟨d1', dd, hdd, rfl⟩
  · rw [d0, if_pos rfl, i00 (show ¬ (nI dl ≤ x3 ∧ x3 ≤ 999) from fun k => dn ⟨Int32.le_trans hdl k.1, k.2⟩), if_pos rfl]
    exact fail _ _ G t1
  rw [d1', if_neg one_ne]
  by_cases hdd2 : dl ≤ dd
  · rw [if_pos (nI_le hdd2 (by omega)), i10 (show nI dl ≤ nI dd ∧ nI dd ≤ (999 : Int32) from ⟨nI_le hdd2 (by omega), nI_le (b := 999) hdd (by omega)⟩), if_neg one_ne, m_isRow hN hM hp mK, bo_some, mK.1, mK.2.1, nsub (te_ge _ _ _)]
    have hle := te_le (B := B) hp
    have hge := te_ge B n p
    unfold f_X12_value_79
    by_cases hr : tk B n p = 1 ∧ isS B (tq B n p) (te B n p - tq B n p) = true
    · have hlet := tok_let hr.1
      have hgt := te_gt (B := B) (n := n) (p := p) (by omega)
      rw [i10 hr, if_neg one_ne]
      by_cases h3 : te B n p - tq B n p ≤ 3
      · rw [if_neg (show ¬ (4 : Int32) ≤ nI (te B n p - tq B n p) from nI_ge (b := 4) (by omega) (by omega)), if_neg one_ne]
        obtain ⟨τ2, m2, mK2, g2⟩ := m_scan hN hle hM mK.2.1
        have G2 : Fr VT τ τ2 := G.trans (g2.wide rfl)
        have t2 : τ2.1 1001 0 = 0 := by rw [g2.i 1001 rfl]; exact t1
        rw [m2, bo_some]
        unfold f_X12_value_90
        rw [if_neg one_ne]
        by_cases e0 : tk B n (te B n p) = 0
        · have ht0 : t0 ≠ 0 := fun h => h0 h ⟨hr.1, hr.2, h3, e0⟩
          obtain ⟨_, _, _, _, rfl, rfl⟩ := h5 ht0
          have e96' : τ2.1 1096 0 = nI nv := by rw [g2.i 1096 rfl]; exact e96
          rw [if_neg ht0, if_pos ((m_srt mK2).2.mpr e0), e96']
          by_cases h60 : nv = 60
          · rw [h60, if_neg (show ¬ nI 60 < (60 : Int32) by decide), if_pos (show nI 60 = (60 : Int32) from rfl)]
            exact fail _ _ G2 t2
          · have hnv : nv < 60 := by omega
            rw [if_pos (show nI nv < (60 : Int32) from nI_lt (b := 60) hnv (by omega)), if_neg (show ¬ nI nv = (60 : Int32) from fun q => h60 ((neq (b := 60) (by omega) (by omega)).mp q))]
            unfold f_X10_put f_X10_putSounds
            rw [e00, if_pos (show nI nv < (60 : Int32) from nI_lt (b := 60) hnv (by omega)), ncl (a := nv) (by omega), ib_n (a := nv) (by omega), decide_eq_true hnv]
            simp only [grd_true, bo_some]
            generalize hs5 : si (si (si (si (si σ4 74 nv (nI s)) 75 nv (nI d)) 76 nv (nI dd)) 15601 0 (nI dd)) 15600 0 (nI nv + 1) = σ5
            have f5 : Fr [15600, 15601, 74, 75, 76] σ4 σ5 := by
              rw [← hs5]
              exact (((((Fr.refl _ _).si _ _ _ rfl).si _ _ _ rfl).si _ _ _ rfl).si _ _ _ rfl).si _ _ _ rfl
            have q00 : σ5.1 15600 0 = nI (nv + 1) := by rw [← hs5]; simp only [si_rd, reduceIte, nI_1]
            have q01 : σ5.1 15601 0 = nI dd := by rw [← hs5]; simp only [si_rd, reduceIte, Nat.reduceEqDiff]
            have q74 : ∀ v, σ5.1 74 v = if v = nv then nI s else σ4.1 74 v := fun v => by rw [← hs5]; simp only [si_rd, reduceIte, Nat.reduceEqDiff]
            have q75 : ∀ v, σ5.1 75 v = if v = nv then nI d else σ4.1 75 v := fun v => by rw [← hs5]; simp only [si_rd, reduceIte, Nat.reduceEqDiff]
            have q76 : ∀ v, σ5.1 76 v = if v = nv then nI dd else σ4.1 76 v := fun v => by rw [← hs5]; simp only [si_rd, reduceIte, Nat.reduceEqDiff]
            clear hs5
            rw [q00, if_neg (nI_nle (by omega) (by omega)), nI_pred, ncl (a := nv) (by omega), ib_n (a := nv) (by omega), decide_eq_true hnv]
            simp only [grd_true, bo_some]
            rw [ok_some, ← nI_0]
            generalize ht5 : si (si (si (si τ2 65 nv (nI s)) 66 nv (nI d)) 67 nv (nI dd)) 68 nv (nI (te B n p - tq B n p)) = τ5
            have g5 : Fr [65, 66, 67, 68] τ2 τ5 := by
              rw [← ht5]
              exact ((((Fr.refl _ _).si _ _ _ rfl).si _ _ _ rfl).si _ _ _ rfl).si _ _ _ rfl
            have r65 : ∀ v, τ5.1 65 v = if v = nv then nI s else τ2.1 65 v := fun v => by rw [← ht5]; simp only [si_rd, reduceIte, Nat.reduceEqDiff]
            have r66 : ∀ v, τ5.1 66 v = if v = nv then nI d else τ2.1 66 v := fun v => by rw [← ht5]; simp only [si_rd, reduceIte, Nat.reduceEqDiff]
            have r67 : ∀ v, τ5.1 67 v = if v = nv then nI dd else τ2.1 67 v := fun v => by rw [← ht5]; simp only [si_rd, reduceIte, Nat.reduceEqDiff]
            have r68 : ∀ v, τ5.1 68 v = if v = nv then nI (te B n p - tq B n p) else τ2.1 68 v := fun v => by rw [← ht5]; simp only [si_rd, reduceIte, Nat.reduceEqDiff]
            clear ht5
            refine m_vsounds (q := tq B n p) (m := te B n p - tq B n p) (t := nv) (day := nI dd) (by omega) h3 hnv (τ0 := τ5) _ N 0 τ5 rfl (by omega) (by omega) ((hM.fr g2 rfl).fr g5 rfl) (by rw [g5.i 1096 rfl]; exact e96') (fun j hj => by omega) (fun j hj => (hlet.2 j hj).1) (FrP.refl _ _) (fun τ6 y1 y2 => ?_)
            have gF : Fr [69] τ5 τ6 := y2.toFr (fun a j h => by rw [h.1]; rfl)
            refine ⟨?_, rt_zero ?_ ?_, ⟨nv + 1, dd, by omega, hdd, ?_, ?_, ?_, ?_, fun v hv => ?_⟩, ?_, ?_⟩
            · simp only [si_rd, reduceIte, Nat.reduceEqDiff]; exact q00
            · simp only [si_rd, reduceIte, Nat.reduceEqDiff]; rw [f5.i 4801 rfl]; exact rd
            · simp only [si_rd, reduceIte, Nat.reduceEqDiff]; rw [gF.i 1001 rfl, g5.i 1001 rfl]; exact t2
            · simp only [si_rd, reduceIte, Nat.reduceEqDiff]; exact q00
            · simp only [si_rd, reduceIte, Nat.reduceEqDiff]
            · simp only [si_rd, reduceIte, Nat.reduceEqDiff]; exact q01
            · simp only [si_rd, reduceIte, Nat.reduceEqDiff]
            · simp only [si_rd, reduceIte, Nat.reduceEqDiff]
              rw [q74, q75, q76, gF.i 65 rfl, gF.i 66 rfl, gF.i 67 rfl, gF.i 68 rfl, r65, r66, r67, r68]
              by_cases ev : v = nv
              · subst ev
                simp only [reduceIte]
                refine ⟨trivial, trivial, trivial, _, _, by omega, h3, fun i hi => ⟨?_, y1 i hi⟩, rfl, rfl, rfl⟩
                have := isS_at.mp hr.2 i hi
                omega
              · simp only [if_neg ev]
                obtain ⟨z1, z2, z3, mm, ff, z4, z5, z6, z7, z8, z9⟩ := v7 v (by omega)
                rw [F4.i 74 rfl, F4.i 75 rfl, F4.i 76 rfl, f5.i 77 rfl, f5.i 78 rfl, F4.i 77 rfl, F4.i 78 rfl, G2.i 65 rfl, G2.i 66 rfl, G2.i 67 rfl, G2.i 68 rfl]
                refine ⟨z1, z2, z3, mm, ff, z4, z5, fun i hi => ⟨(z6 i hi).1, ?_⟩, z7, z8, z9⟩
                rw [(y2 69 (3 * v + i) (by simp; omega)).1, g5.i 69 rfl, G2.i 69 rfl]; exact (z6 i hi).2
            · exact (((F4.wide rfl).trans (f5.wide rfl)).si _ _ _ rfl).si _ _ _ rfl
            · exact ((((G2.wide rfl).trans (g5.wide rfl)).trans (gF.wide rfl)).si _ _ _ rfl).si _ _ _ rfl
        · have ht0 : t0 = 0 := by
            by_cases h : t0 = 0
            · exact h
            · exact absurd (h5 h).2.2.2.1 e0
          rw [if_pos ht0, if_neg (fun h => e0 ((m_srt mK2).2.mp h))]
          exact fail _ _ G2 t2
      · have ht0 : t0 = 0 := by
          by_cases h : t0 = 0
          · exact h
          · exact absurd (h5 h).2.2.1 h3
        unfold f_X12_value_90
        rw [if_pos ht0, if_pos (show (4 : Int32) ≤ nI (te B n p - tq B n p) from nI_le (a := 4) (by omega) (by omega)), if_pos rfl, if_pos rfl]
        exact fail _ _ G t1
    · have ht0 : t0 = 0 := by
        by_cases h : t0 = 0
        · exact h
        · exact absurd ⟨(h5 h).1, (h5 h).2.1⟩ hr
      unfold f_X12_value_90
      rw [if_pos ht0, i00 hr, if_pos rfl, if_pos rfl, if_pos rfl]
      exact fail _ _ G t1
  · rw [if_neg (nI_ge (by omega) (by omega)), i00 (show ¬ (nI dl ≤ nI dd ∧ nI dd ≤ (999 : Int32)) from fun k => nI_ge (by omega) (by omega) k.1), if_pos rfl]
    exact fail _ _ G t1
theorem c_value {N : Nat} (hN : 802 < N) {σ τ : St} {L : Lv} (rt : RTape σ τ) (rl : RList σ τ L) (rv : RVals σ τ L.n) (x1 x2 x3 : Int32) : ok (f_X11_value N x1 x2 x3 σ) (fun a => ok (f_X12_value N x1 x2 x3 τ) (fun c => ValuePost σ τ L.n a c)) := by
  obtain ⟨n, B, hX, hn, h1, hB⟩ := tape_B rt
  obtain ⟨τ1, m1, hM1, mK1, t1, g1⟩ := m_take (N := N) hN hn h1 hB
  unfold f_X11_value f_X12_value f_X8_rewind
  rw [bo_some, m1, bo_some]
  have f1 : Fr [4802] σ (si σ 4802 0 0) := (Fr.refl _ _).si _ _ _ rfl
  have a1 : (si σ 4802 0 0).1 4802 0 = nI 0 := by simp only [si_rd, reduceIte]; rfl
  have hX1 := hX.fr f1 rfl
  generalize si σ 4802 0 0 = σ1 at *
  obtain ⟨σ2, e2, hK2, f2⟩ := x_next (N := N) (by omega) (Nat.zero_le n) hX1 a1
  have hX2 := hX1.fr f2 rfl
  have hle := te_le (B := B) (Nat.zero_le n)
  obtain ⟨σ3, e3, hK3, f3⟩ := x_next (N := N) (by omega) hle hX2 hK2.1
  have F3 : Fr VNX σ σ3 := ((f1.wide rfl).trans (f2.wide rfl)).trans (f3.wide rfl)
  rw [e2, bo_some, e3, bo_some, show (3 : Int32) = nI 3 from rfl, x_isRow hn (by omega) (Nat.zero_le n) hK2]
  by_cases hr : tk B n 0 = 1 ∧ isS B (tq B n 0) (te B n 0 - tq B n 0) = true ∧ te B n 0 - tq B n 0 ≤ 3
  · obtain ⟨b1, b2, b3, b4⟩ := hK2.2.2.2.1 hr.1
    rw [i10 hr, if_neg one_ne, b1, b4 hr.2.1 (by omega)]
    by_cases e0 : tk B n (te B n 0) = 0
    · rw [if_pos ((knd0 hK3).mpr e0)]
      exact x_value_69 hN rl rv x1 x2 x3 (Nat.zero_le n) hM1 mK1 t1 F3 g1 (fun _ => ⟨hr.1, hr.2.1, hr.2.2, e0, rfl, rfl⟩) (fun h => absurd h one_ne)
    · rw [if_neg (fun h => e0 ((knd0 hK3).mp h))]
      exact x_value_69 hN rl rv x1 x2 x3 (Nat.zero_le n) hM1 mK1 t1 F3 g1 (fun h => absurd rfl h) (fun _ h => e0 h.2.2.2)
  · rw [i00 hr, if_pos rfl]
    exact x_value_69 hN rl rv x1 x2 x3 (Nat.zero_le n) hM1 mK1 t1 F3 g1 (fun h => absurd rfl h) (fun _ h => hr ⟨h.1, h.2.1, h.2.2.1⟩)
