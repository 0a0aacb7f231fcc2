/-! fill, the class: the whole plan -/
def PlanR (σ : St) (W : Nat → Nat → Nat) (n i : Nat) : Prop := ∀ x, x ≤ 144 → σ.1 69 (i * 145 + x) = nI (gx (fl W (n - i) i x))
theorem x_plan {N : Nat} (hN : 802 < N) {σ0 : St} {n : Nat} {u : Nat → Nat} {W : Nat → Nat → Nat} (w51 : W51 σ0 n u W) (hW : ∀ i b, W i b ≤ 36000) (hn : n ≤ 12) (hu : ∀ i, i < n → u i < 40 ∧ σ0.1 68 i = nI (u i)) (h02 : σ0.1 14402 0 = nI n) (h04 : σ0.1 14404 0 = 0 ∨ (σ0.1 14404 0 = 1 ∧ ∀ i, i ≤ n → PlanR σ0 W n i)) : ok (f_X4_plan N σ0) (fun σ' => (∀ i, i ≤ n → PlanR σ' W n i) ∧ σ'.1 14404 0 = 1 ∧ Fr [69, 14404] σ0 σ') := by
  have p61 : ∀ i, i < n → ∀ (k55 : Int32 → St → Option St) (σ1 : St), Fr [69] σ0 σ1 → PlanR σ1 W n (i + 1) → ∀ (k fuel m : Nat) (σ : St), 145 - m = k → k < fuel → m ≤ 145 → (∀ x, x < m → σ.1 69 (i * 145 + x) = nI (gx (fl W (n - i) i x))) → FrP (fun a j => a = 69 ∧ i * 145 ≤ j ∧ j < i * 145 + 145) σ1 σ → ∃ σ', f_X4_plan_61 N k55 fuel (nI i) (nI m) σ = k55 (nI i + -1) σ' ∧ PlanR σ' W n i ∧ FrP (fun a j => a = 69 ∧ i * 145 ≤ j ∧ j < i * 145 + 145) σ1 σ' := by
    intro i hi k55 σ1 g1 pr k
    induction k with
    | zero =>
      intro fuel m σ hk hf hm h f
      obtain ⟨fuel, rfl⟩ : ∃ f, fuel = f + 1 := ⟨fuel - 1, by omega⟩
      have e : m = 145 := by omega
      subst e
      refine ⟨σ, ?_, fun x hx => h x (by omega), f⟩
      rw [f_X4_plan_61, if_pos (show (145 : Int32) ≤ nI 145 by decide)]
    | succ k ih =>
      intro fuel m σ hk hf hm h f
      obtain ⟨fuel, rfl⟩ : ∃ f, fuel = f + 1 := ⟨fuel - 1, by omega⟩
      have F : Fr [69] σ0 σ := g1.trans (f.toFr (fun a j h => by rw [h.1]; rfl))
      have ea : nI i * 145 + nI m = nI (i * 145 + m) := by rw [show (145 : Int32) = nI 145 from rfl, nmul, nadd]
      have ek : n - i = (n - (i + 1)) + 1 := by omega
      have lf := x_leastFrom (N := N) (σ := σ) (rest := fl W (n - (i + 1)) (i + 1)) hN (fun i' h1 b h2 => by rw [F.i 51 rfl]; exact w51 i' h1 b h2) hW hn hi (hu i hi).1 (by rw [F.i 68 rfl]; exact (hu i hi).2) (fun x => (fl_le (fun i b _ => hW i b) (n - (i + 1)) (i + 1) x).imp id (fun h => by omega)) (fun x hx => by rw [(f 69 _ (fun q => by have := q.2; omega)).1]; exact pr x hx) (m := m) (by omega)
      rw [f_X4_plan_61, if_neg (show ¬ (145 : Int32) ≤ nI m from nI_ge (b := 145) (by omega) (by omega)), lf, bo_some, ea, ib_n (by omega), decide_eq_true (show i * 145 + m < 1885 by omega), grd_true, ncl (by omega), nI_1]
      refine ih fuel (m + 1) _ (by omega) (by omega) (by omega) (fun x hx => ?_) (f.si _ _ _ ⟨rfl, by omega, by omega⟩)
      rw [si_rd, if_pos rfl]
      by_cases e : x = m
      · rw [if_pos (by omega), e, ek, fl]
      · rw [if_neg (by omega)]; exact h x (by omega)
  have p55 : ∀ (m fuel : Nat) (σ : St), m ≤ n → m < fuel → (∀ i, m ≤ i → i ≤ n → PlanR σ W n i) → Fr [69] σ0 σ → ok (f_X4_plan_55 N fuel (nI m + -1) σ) (fun σ' => (∀ i, i ≤ n → PlanR σ' W n i) ∧ σ'.1 14404 0 = 1 ∧ Fr [69, 14404] σ0 σ') := by
    intro m
    induction m with
    | zero =>
      intro fuel σ hm hf h f
      obtain ⟨fuel, rfl⟩ : ∃ f, fuel = f + 1 := ⟨fuel - 1, by omega⟩
      rw [f_X4_plan_55, if_pos (show nI 0 + -1 < (0 : Int32) by decide), ok_some]
      refine ⟨fun i hi x hx => ?_, by rw [si_rd, if_pos rfl, if_pos rfl], (f.wide rfl).si _ _ _ rfl⟩
      rw [si_rd, if_neg (by decide)]; exact h i (by omega) hi x hx
    | succ m ih =>
      intro fuel σ hm hf h f
      obtain ⟨fuel, rfl⟩ : ∃ f, fuel = f + 1 := ⟨fuel - 1, by omega⟩
      obtain ⟨σ1, e1, t1, f1⟩ := p61 m (by omega) (f_X4_plan_55 N fuel) σ f (h (m + 1) (Nat.le_refl _) (by omega)) 145 N 0 σ (by omega) (by omega) (by omega) (fun x hx => absurd hx (by omega)) (FrP.refl _ _)
      have e1' : f_X4_plan_61 N (f_X4_plan_55 N fuel) N (nI m) 0 σ = f_X4_plan_55 N fuel (nI m + -1) σ1 := e1
      rw [nI_back, f_X4_plan_55, if_neg (show ¬ nI m < (0 : Int32) from nI_nlt (b := 0) (by omega) (by omega)), e1']
      refine ih fuel σ1 (by omega) (by omega) (fun i h1 h2 => ?_) (f.trans (f1.toFr (fun a j h => by rw [h.1]; rfl)))
      by_cases e : i = m
      · rw [e]; exact t1
      · intro x hx
        rw [(f1 69 _ (fun q => by have := q.2; omega)).1]
        exact h i (by omega) h2 x hx
  have p10 : ∀ (k fuel m : Nat) (σ : St), 145 - m = k → k < fuel → m ≤ 145 → (∀ x, x < m → σ.1 69 (n * 145 + x) = nI (gx (fl W 0 n x))) → Fr [69] σ0 σ → ok (f_X4_plan_10 N fuel (nI m) σ) (fun σ' => (∀ i, i ≤ n → PlanR σ' W n i) ∧ σ'.1 14404 0 = 1 ∧ Fr [69, 14404] σ0 σ') := by
    intro k
    induction k with
    | zero =>
      intro fuel m σ hk hf hm h f
      obtain ⟨fuel, rfl⟩ : ∃ f, fuel = f + 1 := ⟨fuel - 1, by omega⟩
      have e : m = 145 := by omega
      subst e
      rw [f_X4_plan_10, if_pos (show (145 : Int32) ≤ nI 145 by decide), f.i 14402 rfl, h02, Int32.sub_eq_add_neg]
      exact p55 n N σ (Nat.le_refl _) (by omega) (fun i h1 h2 x hx => by
        have : i = n := by omega
        subst this
        rw [Nat.sub_self]; exact h x (by omega)) f
    | succ k ih =>
      intro fuel m σ hk hf hm h f
      obtain ⟨fuel, rfl⟩ : ∃ f, fuel = f + 1 := ⟨fuel - 1, by omega⟩
      have ea : nI n * 145 + nI m = nI (n * 145 + m) := by rw [show (145 : Int32) = nI 145 from rfl, nmul, nadd]
      have fin : ∀ v, v = nI (gx (fl W 0 n m)) → ok (f_X4_plan_10 N fuel (nI (m + 1)) (si σ 69 (n * 145 + m) v)) (fun σ' => (∀ i, i ≤ n → PlanR σ' W n i) ∧ σ'.1 14404 0 = 1 ∧ Fr [69, 14404] σ0 σ') := by
        intro v hv
        refine ih fuel (m + 1) _ (by omega) (by omega) (by omega) (fun x hx => ?_) (f.si _ _ _ rfl)
        rw [si_rd, if_pos rfl]
        by_cases e : x = m
        · rw [if_pos (by omega), e]; exact hv
        · rw [if_neg (by omega)]; exact h x (by omega)
      rw [f_X4_plan_10, if_neg (show ¬ (145 : Int32) ≤ nI m from nI_ge (b := 145) (by omega) (by omega)), f.i 14402 rfl, h02, ea]
      unfold f_X4_plan_41
      rw [ib_n (by omega), decide_eq_true (show n * 145 + m < 1885 by omega), grd_true, grd_true, ncl (by omega), nI_1]
      by_cases e : m = 0
      · rw [if_pos (by rw [e]; rfl)]
        refine fin _ ?_
        rw [fl, if_pos e]; rfl
      · rw [if_neg (nI_ne0 (by omega) (by omega))]
        refine fin _ ?_
        rw [fl, if_neg e]; rfl
  unfold f_X4_plan
  rcases h04 with h | ⟨h1, h2⟩
  · rw [if_pos h]
    exact p10 145 N 0 σ0 (by omega) (by omega) (by omega) (fun x hx => absurd hx (by omega)) (Fr.refl _ _)
  · rw [if_neg (by rw [h1]; decide), ok_some]
    exact ⟨h2, h1, Fr.refl _ _⟩
/-! fills -/
def RPlan (σ : St) (L : Lv) (nt : Nat) (T : Nat → Tv) : Prop := σ.1 14404 0 = 0 ∨ (σ.1 14404 0 = 1 ∧ ∃ (n : Nat) (u : Nat → Nat) (W : Nat → Nat → Nat), n ≤ 12 ∧ σ.1 14402 0 = nI n ∧ (∀ i, i < n → u i < nt ∧ σ.1 68 i = nI (u i)) ∧ (∀ i b, W i b ≤ 36000) ∧ (∀ i, i < n → ∀ b, b < 13 → WOk L (T (u i)) (W i b) b) ∧ ∀ i, i ≤ n → PlanR σ W n i)
theorem RPlan.fr {σ σ' : St} {L : Lv} {nt : Nat} {T : Nat → Tv} {V : List Nat} (h : RPlan σ L nt T) (f : Fr V σ σ') (hv : ([14404, 14402, 68, 69] : List Nat).all (fun a => !V.contains a) = true) : RPlan σ' L nt T := by
  have e := f.at hv
  unfold RPlan PlanR at *
  rw [(e 14404 (by decide)).1, (e 14402 (by decide)).1, (e 68 (by decide)).1, (e 69 (by decide)).1]
  exact h
theorem RPlan.term {σ : St} {L : Lv} {nt : Nat} {T : Nat → Tv} (h : RPlan σ L nt T) (v : Tv) : RPlan σ L (nt + 1) (up T nt v) := by
  rcases h with h | ⟨h1, n, u, W, a1, a2, a3, a4, a5, a6⟩
  · exact Or.inl h
  · refine Or.inr ⟨h1, n, u, W, a1, a2, fun i hi => ⟨by have := (a3 i hi).1; omega, (a3 i hi).2⟩, a4, fun i hi b hb => ?_, a6⟩
    rw [up_ne _ _ (by have := (a3 i hi).1; omega)]
    exact a5 i hi b hb
theorem pass_u {σ τ : St} {nt : Nat} (h40 : nt ≤ 40) (h : RPass σ τ nt) : ∃ (n : Nat) (u : Nat → Nat), n ≤ 12 ∧ σ.1 14402 0 = nI n ∧ τ.1 1085 0 = nI n ∧ ∀ i, i < n → u i < nt ∧ σ.1 68 i = nI (u i) ∧ τ.1 57 i = nI (u i) := by
  obtain ⟨n, h1, h2, h3, h4⟩ := h
  refine ⟨n, fun i => (τ.1 57 i).toNatClampNeg, h1, h2, h3, fun i hi => ?_⟩
  obtain ⟨a, t, b, c⟩ := h4 i hi
  show (τ.1 57 i).toNatClampNeg < nt ∧ σ.1 68 i = nI (τ.1 57 i).toNatClampNeg ∧ τ.1 57 i = nI (τ.1 57 i).toNatClampNeg
  rw [a, c, ncl (by omega)]; exact ⟨b, rfl, rfl⟩
def FxPost (L : Lv) (nt n : Nat) (T : Nat → Tv) (u : Nat → Nat) (σ : St) (σ' : St) : Prop := RCache σ' L nt T ∧ RPlan σ' L nt T ∧ (∀ i, i < n → SlotX σ' (u i) L (T (u i))) ∧ ∃ W, W51 σ' n u W ∧ (∀ i b, W i b ≤ 36000) ∧ (∀ i, i < n → ∀ b, b < 13 → WOk L (T (u i)) (W i b) b) ∧ (∀ i, i ≤ n → PlanR σ' W n i) ∧ Fr [69, 14404] σ σ'
theorem x_ready {N : Nat} (hN : 802 < N) {σ : St} {L : Lv} (hL : LOk L) {nt n : Nat} {T : Nat → Tv} (hT : TOk nt T) {u : Nat → Nat} (hn : n ≤ 12) (h02 : σ.1 14402 0 = nI n) (hu : ∀ i, i < n → u i < nt ∧ σ.1 68 i = nI (u i)) (rc : RCache σ L nt T) (rp : RPlan σ L nt T) (sl : ∀ i, i < n → SlotX σ (u i) L (T (u i))) : ok (f_X4_plan N σ) (FxPost L nt n T u σ) := by
  have h40 := hT.1
  obtain ⟨W, w1, w2, w3⟩ := W51_of hL hT (fun i hi => (hu i hi).1) sl
  refine (x_plan hN w1 w2 hn (fun i hi => ⟨by have := (hu i hi).1; omega, (hu i hi).2⟩) h02 ?_).mono (fun σ' ⟨y1, y2, y3⟩ => ?_)
  · rcases rp with h | ⟨h1, n', u', W', a1, a2, a3, a4, a5, a6⟩
    · exact Or.inl h
    · refine Or.inr ⟨h1, fun i hi x hx => ?_⟩
      have en : n = n' := (neq (by omega) (by omega)).mp (h02.symm.trans a2)
      subst en
      rw [a6 i hi x hx, fl_congr (W := W') (W' := W) (n - i) i x (fun i' q1 q2 b q3 q4 => by
        have hi' : i' < n := by omega
        have p := hu i' hi'
        have p' := a3 i' hi'
        have eu : u i' = u' i' := (neq (by omega) (by omega)).mp (p.2.symm.trans p'.2)
        have k1 := a5 i' hi' b (by omega)
        rw [← eu] at k1
        exact WOk_uni hL (TOk_t hT p.1) k1 (w3 i' hi' b (by omega)))]
  · refine ⟨rc.fr y3 rfl, Or.inr ⟨y2, n, u, W, hn, by rw [y3.i 14402 rfl]; exact h02, fun i hi => ⟨(hu i hi).1, by rw [y3.i 68 rfl]; exact (hu i hi).2⟩, w2, w3, y1⟩, fun i hi => (sl i hi).eq (fun b _ => ⟨by rw [y3.i 51 rfl], by rw [y3.l 52 rfl]⟩), W, fun i hi b hb => by rw [y3.i 51 rfl]; exact w1 i hi b hb, w2, w3, y1, y3⟩
def MfPost (L : Lv) (n : Nat) (T : Nat → Tv) (u : Nat → Nat) (τ : St) (a : Int32 × St) : Prop := ((a.1 = -3 ∧ ∃ i, i < n ∧ 500 < (sps L (T (u i))).length) ∨ (a.1 = 0 ∧ (∀ i, i < n → (sps L (T (u i))).length ≤ 500) ∧ (∀ i, i < n → FitRow a.2 L (T (u i)) i) ∧ ∃ W, W58 a.2 n W ∧ (∀ i b, W i b ≤ 36000) ∧ (∀ i, i < n → ∀ b, b < 13 → WOk L (T (u i)) (W i b) b) ∧ ∀ i, i ≤ n → Tb61 a.2 W n i)) ∧ Fr (61 :: VMf) τ a.2
theorem m_makeFits {N : Nat} (hN : 802 < N) {L : Lv} (hL : LOk L) {nt n : Nat} {T : Nat → Tv} (hT : TOk nt T) (hn : n ≤ 12) (hn1 : 1 ≤ n) {u : Nat → Nat} {τ : St} (lm : LM τ L) (tm : TM τ nt T) (h85 : τ.1 1085 0 = nI n) (hu : ∀ i, i < n → u i < nt ∧ τ.1 57 i = nI (u i)) : ok (f_X12_makeFits N τ) (MfPost L n T u τ) := by
  unfold f_X12_makeFits
  rw [h85, if_neg (nI_ne0 (by omega) (by omega))]
  have := m_mf14 hN hL hT hn lm tm h85 hu (Q := MfPost L n T u τ) (fun τ' h f => ⟨Or.inl ⟨rfl, h⟩, f.wide rfl⟩) (fun τ' h f => ?_) n N 0 0 τ (by omega) (by omega) (by omega) (Or.inr ⟨rfl, fun i' h => absurd h (by omega)⟩) (Fr.refl _ _)
  · exact this
  · obtain ⟨W, w1, w2, w3⟩ := W58_of hL hT (fun i hi => (hu i hi).1) (fun i hi => (h i hi).2)
    refine (m_mf100 hN (fun i b _ => w2 i b) hn (by rw [f.i 1085 rfl]; exact h85) w1).mono (fun a ⟨y1, y2, y3⟩ => ⟨Or.inr ⟨y1, fun i hi => (h i hi).1, fun i hi b hb => ((h i hi).2 b hb).eq (by rw [y3.i 58 rfl]) (by rw [y3.i 59 rfl]) (fun j _ => by rw [y3.i 60 rfl]), W, fun i hi b hb => by rw [y3.i 58 rfl]; exact w1 i hi b hb, w2, w3, y2⟩, (f.wide rfl).trans (y3.wide rfl)⟩)
def cfn (F : Nat → Nat) : Nat → Nat
  | 0 => 0
  | c + 1 => cfn F c + (if F (c + 1) = 1000000000 then 0 else 1)
theorem cfn_le (F : Nat → Nat) : ∀ c, cfn F c ≤ c := by
  intro c
  induction c with
  | zero => exact Nat.le_refl _
  | succ c ih => rw [cfn]; by_cases h : F (c + 1) = 1000000000
                 · rw [if_pos h]; omega
                 · rw [if_neg h]; omega
theorem x_cf8 {N : Nat} {F : Nat → Nat} (hF : ∀ x, F x = 1000000000 ∨ F x ≤ 1000000) {σ : St} (tb : ∀ x, x ≤ 144 → σ.1 69 x = nI (gx (F x))) : ∀ (k fuel c : Nat), 144 - c = k → k < fuel → c ≤ 144 → f_X4_countFills_8 N fuel (nI (cfn F c)) (nI (c + 1)) σ = some (nI (cfn F 144), σ) := by
  intro k
  induction k with
  | zero =>
    intro fuel c hk hf hc
    obtain ⟨fuel, rfl⟩ : ∃ f, fuel = f + 1 := ⟨fuel - 1, by omega⟩
    have e : c = 144 := by omega
    subst e
    rw [f_X4_countFills_8, if_pos (show (145 : Int32) ≤ nI (144 + 1) by decide)]
  | succ k ih =>
    intro fuel c hk hf hc
    obtain ⟨fuel, rfl⟩ : ∃ f, fuel = f + 1 := ⟨fuel - 1, by omega⟩
    have nx := ih fuel (c + 1) (by omega) (by omega) (by omega)
    rw [cfn] at nx
    rw [f_X4_countFills_8, if_neg (show ¬ (145 : Int32) ≤ nI (c + 1) from nI_ge (b := 145) (by omega) (by omega)), ib_n (by omega), decide_eq_true (show c + 1 < 1885 by omega), grd_true, ncl (by omega), tb (c + 1) (by omega), nI_1, nI_1]
    rcases hF (c + 1) with h | h
    · rw [if_pos h] at nx
      rw [gx_is _ h, if_pos (show nI 2147483647 = (2147483647 : Int32) from rfl), show nI (cfn F c) + (0 : Int32) = nI (cfn F c + 0) by rw [show (0 : Int32) = nI 0 from rfl, nadd]]
      exact nx
    · rw [if_neg (by omega)] at nx
      rw [gx_no _ (by omega), if_neg (fun q => by
        have q' : nI (F (c + 1)) = nI 2147483647 := q
        have := (neq (by omega) (by omega)).mp q'
        omega)]
      exact nx
theorem m_cf15 {N : Nat} {F : Nat → Nat} (hF : ∀ x, F x = 1000000000 ∨ F x ≤ 1000000) {τ : St} (tb : ∀ x, x ≤ 144 → τ.1 61 x = nI (F x)) : ∀ (k fuel c : Nat), 144 - c = k → k < fuel → c ≤ 144 → f_X12_fills_15 N fuel (nI (cfn F c)) (nI (c + 1)) τ = some (nI (cfn F 144), τ) := by
  intro k
  induction k with
  | zero =>
    intro fuel c hk hf hc
    obtain ⟨fuel, rfl⟩ : ∃ f, fuel = f + 1 := ⟨fuel - 1, by omega⟩
    have e : c = 144 := by omega
    subst e
    rw [f_X12_fills_15, if_pos (show (144 : Int32) < nI (144 + 1) by decide)]
  | succ k ih =>
    intro fuel c hk hf hc
    obtain ⟨fuel, rfl⟩ : ∃ f, fuel = f + 1 := ⟨fuel - 1, by omega⟩
    have nx := ih fuel (c + 1) (by omega) (by omega) (by omega)
    rw [cfn] at nx
    rw [f_X12_fills_15, if_neg (show ¬ (144 : Int32) < nI (c + 1) from nI_nlt (a := 144) (by omega) (by omega)), ib_n (by omega), decide_eq_true (show c + 1 < 1885 by omega), grd_true, ncl (by omega), tb (c + 1) (by omega), nI_1, nI_1]
    rcases hF (c + 1) with h | h
    · rw [if_pos h] at nx
      rw [h, if_pos (show (1000000000 : Int32) ≤ nI 1000000000 by decide), show nI (cfn F c) + (0 : Int32) = nI (cfn F c + 0) by rw [show (0 : Int32) = nI 0 from rfl, nadd]]
      exact nx
    · rw [if_neg (by omega)] at nx
      rw [if_neg (show ¬ (1000000000 : Int32) ≤ nI (F (c + 1)) from nI_ge (b := 1000000000) (by omega) (by omega))]
      exact nx
abbrev VFlX : List Nat := [47, 8601, 8602, 8603, 8604, 8605, 8606, 39, 48, 10213, 55, 53, 54, 56, 51, 52, 69, 14404]
theorem c_fills {N : Nat} (hN : 802 < N) {σ τ : St} {L : Lv} {nt : Nat} {T : Nat → Tv} (rl : RList σ τ L) (rT : RTerms σ τ nt T) (rc : RCache σ L nt T) (rp : RPass σ τ nt) (rq : RPlan σ L nt T) : ok (f_X11_fills N σ) (fun a => ok (f_X12_fills N τ) (fun c => a.1 = c.1 ∧ RCache a.2 L nt T ∧ RPlan a.2 L nt T ∧ Fr VFlX σ a.2 ∧ Fr (61 :: VMf) τ c.2)) := by
  have hL := rl.1
  have h40 : nt ≤ 40 := rT.1.1
  obtain ⟨n, u, hn, h1, h2, hu⟩ := pass_u h40 rp
  unfold f_X11_fills f_X12_fills
  rw [h1]
  by_cases n0 : n = 0
  · unfold f_X12_makeFits
    rw [h2, n0, if_pos (show nI 0 = (0 : Int32) from rfl), if_pos (show nI 0 = (0 : Int32) from rfl), bd_some, if_neg (by decide), ok_some, ok_some]
    exact ⟨rfl, rc, rq, Fr.refl _ _, Fr.refl _ _⟩
  rw [if_neg (nI_ne0 (by omega) (by omega))]
  obtain ⟨⟨r1, σ1⟩, e1, rc1, s1, f1⟩ := x_settle hN hL rT.1 hn rl.2.1 rT.2.1 rc (fun i hi => ⟨(hu i hi).1, (hu i hi).2.1⟩)
  obtain ⟨⟨r2, τ1⟩, e2, m1, g1⟩ := m_makeFits hN hL rT.1 hn (by omega) rl.2.2 rT.2.2 h2 (fun i hi => ⟨(hu i hi).1, (hu i hi).2.2⟩)
  rw [e1, bd_some, e2, bd_some]
  have rq1 : RPlan σ1 L nt T := rq.fr f1 rfl
  rcases s1 with ⟨a1, a2, a3⟩ | ⟨a1, i, a2, a3⟩
  · have a1' : r1 = 1 := a1
    rcases m1 with ⟨b1, i, b2', b3⟩ | ⟨b1, b2', b3, W, b4, b5, b6, b7⟩
    · have := a2 i b2'; omega
    · have b1' : r2 = 0 := b1
      obtain ⟨σ2, e3, rc2, rq2, sl2, W2, w1, w2, w3, w4, f2⟩ := x_ready (N := N) (u := u) hN hL rT.1 hn (by rw [f1.i 14402 rfl]; exact h1) (fun i hi => ⟨(hu i hi).1, by rw [f1.i 68 rfl]; exact (hu i hi).2.1⟩) rc1 rq1 a3
      unfold f_X4_countFills
      rw [a1', if_neg one_ne, e3, bo_some, b1', if_pos rfl]
      have fe : ∀ x, fl W2 n 0 x = fl W n 0 x := fun x => fl_congr n 0 x (fun i' q1 q2 b q3 q4 => WOk_uni hL (TOk_t rT.1 (hu i' (by omega)).1) (w3 i' (by omega) b (by omega)) (b6 i' (by omega) b (by omega)))
      have fb : ∀ x, fl W n 0 x = 1000000000 ∨ fl W n 0 x ≤ 1000000 := fun x => (fl_le (fun i b _ => b5 i b) n 0 x).imp id (fun h => by omega)
      have c1 := x_cf8 (N := N) (F := fl W n 0) (σ := σ2) fb (fun x hx => by
        have := w4 0 (by omega) x hx
        rw [Nat.zero_mul, Nat.zero_add, Nat.sub_zero, fe] at this
        exact this) 144 N 0 (by omega) (by omega) (by omega)
      have c2 := m_cf15 (N := N) (F := fl W n 0) (τ := τ1) fb (fun x hx => by
        have := b7 0 (by omega) x hx
        rw [Nat.mul_zero, Nat.zero_add, Nat.sub_zero] at this
        exact this) 144 N 0 (by omega) (by omega) (by omega)
      have c1' : f_X4_countFills_8 N N 0 1 σ2 = _ := c1
      have c2' : f_X12_fills_15 N N 0 1 τ1 = _ := c2
      rw [c1', c2', bd_some, ok_some, ok_some]
      exact ⟨rfl, rc2, rq2, (f1.wide rfl).trans (f2.wide rfl), g1⟩
  · have a1' : r1 = 0 := a1
    rcases m1 with ⟨b1, _⟩ | ⟨b1, b2', _⟩
    · have b1' : r2 = -3 := b1
      rw [a1', if_pos rfl, b1', if_neg (by decide), ok_some, ok_some]
      exact ⟨rfl, rc1, rq1, f1.wide rfl, g1⟩
    · have := b2' i a2; omega
