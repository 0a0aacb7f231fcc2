/-! fill, the reference: the table of squares -/
theorem lsb_stop {W rest : Nat → Nat} {m c : Nat} (h : m ≤ c) : ∀ d, lsb W rest m (c + d) = lsb W rest m c := by
  intro d
  induction d with
  | zero => rfl
  | succ d ih =>
    show lsb W rest m (c + d + 1) = _
    rw [lsb, if_neg (fun q => by have := q.1; omega), ih]
theorem lsb_at {W rest : Nat → Nat} {m b : Nat} (hb : 1 ≤ b) : lsb W rest m b = if b ≤ m ∧ W b ≠ 0 ∧ rest (m - b) < 1000000000 then min (lsb W rest m (b - 1)) (W b + rest (m - b)) else lsb W rest m (b - 1) := by
  cases b with
  | zero => omega
  | succ b => rw [lsb]; rfl
def W58 (τ : St) (n : Nat) (W : Nat → Nat → Nat) : Prop := ∀ i, i < n → ∀ b, b < 13 → τ.1 58 (13 * i + b) = nI (W i b)
theorem m_mf151 {N : Nat} {W : Nat → Nat → Nat} (hW : ∀ i b, b ≤ 12 → W i b ≤ 36000) {n i m : Nat} (hn : n ≤ 12) (hi : i < n) (hm : m ≤ 144) {rest : Nat → Nat} (hr : ∀ x, rest x = 1000000000 ∨ rest x ≤ 1000000) {k100 : Int32 → St → Option (Int32 × St)} {k106 : Int32 → Int32 → St → Option (Int32 × St)} {τ0 : St} (h85 : τ0.1 1085 0 = nI n) (w58 : W58 τ0 n W) (tb : ∀ x, x ≤ 144 → τ0.1 61 (145 * (i + 1) + x) = nI (rest x)) :
    ∀ (k fuel b : Nat) (τ : St), 13 - b = k → k < fuel → 1 ≤ b → b ≤ 13 → τ.1 61 (145 * i + m) = nI (lsb (W i) rest m (b - 1)) → FrP (fun a j => a = 61 ∧ j = 145 * i + m) τ0 τ →
    ∃ τ', f_X12_makeFits_151 N k100 k106 fuel (nI i) (nI m) (nI (145 * i + m)) (nI b) τ = k106 (nI i) (nI (m + 1)) τ' ∧ τ'.1 61 (145 * i + m) = nI (lsb (W i) rest m 12) ∧ FrP (fun a j => a = 61 ∧ j = 145 * i + m) τ0 τ' := by
  have bl := fun c (hc : c ≤ 12) => lsb_le (m := m) (hW i) hr c hc
  intro k
  induction k with
  | zero =>
    intro fuel b τ hk hf hb1 hb e f
    obtain ⟨fuel, rfl⟩ : ∃ f, fuel = f + 1 := ⟨fuel - 1, by omega⟩
    have eb : b = 13 := by omega
    subst eb
    refine ⟨τ, ?_, e, f⟩
    rw [f_X12_makeFits_151, if_pos (show (12 : Int32) < nI 13 by decide), nI_1]
  | succ k ih =>
    intro fuel b τ hk hf hb1 hb e f
    obtain ⟨fuel, rfl⟩ : ∃ f, fuel = f + 1 := ⟨fuel - 1, by omega⟩
    rw [f_X12_makeFits_151, if_neg (show ¬ (12 : Int32) < nI b from nI_nlt (a := 12) (by omega) (by omega)), nI_1]
    by_cases c : m < b
    · refine ⟨τ, ?_, ?_, f⟩
      · rw [if_pos (nI_lt c (by omega))]
      · rw [e]
        have := lsb_stop (W := W i) (rest := rest) (m := m) (c := b - 1) (by omega) (12 - (b - 1))
        rw [show b - 1 + (12 - (b - 1)) = 12 by omega] at this
        rw [this]
    · have n61 : ∀ a j, ¬ (a = 61 ∧ j = 145 * i + m) → τ.1 a j = τ0.1 a j := fun a j h => (f a j h).1
      have i1 : 145 * (nI i + 1) + nI m - nI b = nI (145 * (i + 1) + (m - b)) := by
        rw [nI_1, show (145 : Int32) = nI 145 from rfl, nmul, nadd, nsub (by omega)]
        congr 1; omega
      have i2 : 13 * nI i + nI b = nI (13 * i + b) := by rw [show (13 : Int32) = nI 13 from rfl, nmul, nadd]
      have w := w58 i hi b (by omega)
      have wb := hW i b (by omega)
      have rb := hr (m - b)
      have lb := bl (b - 1) (by omega)
      have step := lsb_at (W := W i) (rest := rest) (m := m) hb1
      rw [if_neg (nI_nlt (by omega) (by omega)), n61 1085 0 (fun q => (nomatch q.1)), h85, if_neg (nI_ge hi (by omega)), i1, i2, ib_n (a := 145 * (i + 1) + (m - b)) (by omega), decide_eq_true (show 145 * (i + 1) + (m - b) < 1885 by omega), ncl (a := 145 * (i + 1) + (m - b)) (by omega), ib_n (a := 13 * i + b) (by omega), decide_eq_true (show 13 * i + b < 156 by omega), ncl (a := 13 * i + b) (by omega), ib_n (a := 145 * i + m) (by omega), decide_eq_true (show 145 * i + m < 1885 by omega), ncl (a := 145 * i + m) (by omega), n61 58 _ (fun q => (nomatch q.1)), w, n61 61 (145 * (i + 1) + (m - b)) (fun q => by have := q.2; omega), tb (m - b) (by omega), e, nadd, nI_1]
      simp only [grd_true]
      have skip : lsb (W i) rest m b = lsb (W i) rest m (b - 1) → _ := fun q => ih fuel (b + 1) τ (by omega) (by omega) (by omega) (by omega) (by rw [show b + 1 - 1 = b by omega, q]; exact e) f
      by_cases c1 : W i b = 0
      · rw [c1, if_pos (show nI 0 = (0 : Int32) from rfl)]
        exact skip (by rw [step, if_neg (fun q => q.2.1 c1)])
      · rw [if_neg (nI_ne0 (by omega) (by omega))]
        by_cases c2 : 1000000000 ≤ rest (m - b)
        · rw [if_pos (show (1000000000 : Int32) ≤ nI (rest (m - b)) from nI_le (a := 1000000000) c2 (by omega))]
          exact skip (by rw [step, if_neg (fun q => by have := q.2.2; omega)])
        · rw [if_neg (show ¬ (1000000000 : Int32) ≤ nI (rest (m - b)) from nI_ge (b := 1000000000) (by omega) (by omega))]
          have st2 : lsb (W i) rest m b = min (lsb (W i) rest m (b - 1)) (W i b + rest (m - b)) := by rw [step, if_pos ⟨by omega, c1, by omega⟩]
          by_cases c3 : W i b + rest (m - b) < lsb (W i) rest m (b - 1)
          · rw [if_pos (nI_lt c3 (by omega))]
            refine ih fuel (b + 1) _ (by omega) (by omega) (by omega) (by omega) ?_ (f.si _ _ _ ⟨rfl, rfl⟩)
            rw [si_rd, if_pos rfl, if_pos rfl, show b + 1 - 1 = b by omega, st2, Nat.min_eq_right (by omega)]
          · rw [if_neg (nI_nlt (by omega) (by omega))]
            exact skip (by rw [st2, Nat.min_eq_left (by omega)])
def Tb61 (τ : St) (W : Nat → Nat → Nat) (n i : Nat) : Prop := ∀ x, x ≤ 144 → τ.1 61 (145 * i + x) = nI (fl W (n - i) i x)
theorem m_mf106 {N : Nat} (hN : 802 < N) {W : Nat → Nat → Nat} (hW : ∀ i b, b ≤ 12 → W i b ≤ 36000) {n i : Nat} (hn : n ≤ 12) (hi : i ≤ n) {k100 : Int32 → St → Option (Int32 × St)} {τ0 : St} (h85 : τ0.1 1085 0 = nI n) (w58 : W58 τ0 n W) (tb : i < n → Tb61 τ0 W n (i + 1)) :
    ∀ (k fuel m : Nat) (τ : St), 145 - m = k → k < fuel → m ≤ 145 → (∀ x, x < m → τ.1 61 (145 * i + x) = nI (fl W (n - i) i x)) → FrP (fun a j => a = 61 ∧ 145 * i ≤ j ∧ j < 145 * i + 145) τ0 τ →
    ∃ τ', f_X12_makeFits_106 N k100 fuel (nI i) (nI m) τ = k100 (nI i + -1) τ' ∧ Tb61 τ' W n i ∧ FrP (fun a j => a = 61 ∧ 145 * i ≤ j ∧ j < 145 * i + 145) τ0 τ' := by
  intro k
  induction k with
  | zero =>
    intro fuel m τ hk hf hm h f
    obtain ⟨fuel, rfl⟩ : ∃ f, fuel = f + 1 := ⟨fuel - 1, by omega⟩
    have e : m = 145 := by omega
    subst e
    refine ⟨τ, ?_, fun x hx => h x (by omega), f⟩
    rw [f_X12_makeFits_106, if_pos (show (144 : Int32) < nI 145 by decide)]
  | succ k ih =>
    intro fuel m τ hk hf hm h f
    obtain ⟨fuel, rfl⟩ : ∃ f, fuel = f + 1 := ⟨fuel - 1, by omega⟩
    have n61 : ∀ a j, ¬ (a = 61 ∧ 145 * i ≤ j ∧ j < 145 * i + 145) → τ.1 a j = τ0.1 a j := fun a j h => (f a j h).1
    have o1 : 145 - (m + 1) = k ∧ k < fuel ∧ m + 1 ≤ 145 := by omega
    have ia : 145 * nI i + nI m = nI (145 * i + m) := by rw [show (145 : Int32) = nI 145 from rfl, nmul, nadd]
    rw [f_X12_makeFits_106, if_neg (show ¬ (144 : Int32) < nI m from nI_nlt (a := 144) (by omega) (by omega)), n61 1085 0 (fun q => (nomatch q.1)), h85, ia]
    have sub : ∀ (τ1 τ2 : St), FrP (fun a j => a = 61 ∧ j = 145 * i + m) τ1 τ2 → FrP (fun a j => a = 61 ∧ 145 * i ≤ j ∧ j < 145 * i + 145) τ1 τ2 := fun _ _ g => g.wide (fun a j h => ⟨h.1, by omega, by omega⟩)
    have fin : ∀ τ1, FrP (fun a j => a = 61 ∧ j = 145 * i + m) τ τ1 → τ1.1 61 (145 * i + m) = nI (fl W (n - i) i m) → ∃ τ', f_X12_makeFits_106 N k100 fuel (nI i) (nI (m + 1)) τ1 = k100 (nI i + -1) τ' ∧ Tb61 τ' W n i ∧ FrP (fun a j => a = 61 ∧ 145 * i ≤ j ∧ j < 145 * i + 145) τ0 τ' := by
      intro τ1 g e
      refine ih fuel (m + 1) τ1 o1.1 o1.2.1 o1.2.2 (fun x hx => ?_) (f.trans (sub _ _ g))
      by_cases ex : x = m
      · rw [ex]; exact e
      · rw [(g 61 _ (fun q => by have := q.2; omega)).1]; exact h x (by omega)
    have w1 : ∀ v, FrP (fun a j => a = 61 ∧ j = 145 * i + m) τ (si τ 61 (145 * i + m) v) := fun v => (FrP.refl _ _).si _ _ _ ⟨rfl, rfl⟩
    have r1 : ∀ v, (si τ 61 (145 * i + m) v).1 61 (145 * i + m) = v := fun v => by rw [si_rd, if_pos rfl, if_pos rfl]
    unfold f_X12_makeFits_147
    rw [ib_n (a := 145 * i + m) (by omega), decide_eq_true (show 145 * i + m < 1885 by omega), ncl (a := 145 * i + m) (by omega)]
    simp only [grd_true]
    by_cases ei : i = n
    · have quick : ∀ v, f_X12_makeFits_151 N k100 (f_X12_makeFits_106 N k100 fuel) N (nI i) (nI m) (nI (145 * i + m)) 1 (si τ 61 (145 * i + m) v) = f_X12_makeFits_106 N k100 fuel (nI i) (nI (m + 1)) (si τ 61 (145 * i + m) v) := by
        intro v
        obtain ⟨M, rfl⟩ : ∃ M, N = M + 1 := ⟨N - 1, by omega⟩
        rw [f_X12_makeFits_151, if_neg (show ¬ (12 : Int32) < 1 by decide), nI_1, (w1 v 1085 0 (fun q => (nomatch q.1))).1, n61 1085 0 (fun q => (nomatch q.1)), h85, if_pos (show nI n ≤ nI i from nI_le (by omega) (by omega))]
        by_cases q : nI m < 1
        · rw [if_pos q]
        · rw [if_neg q]
      rw [if_pos (show nI i = nI n by rw [ei])]
      by_cases em : m = 0
      · rw [if_pos (by rw [em]; rfl), quick]
        refine fin _ (w1 _) ?_
        rw [r1, show n - i = 0 by omega, fl, if_pos em]; rfl
      · rw [if_neg (nI_ne0 (by omega) (by omega)), quick]
        refine fin _ (w1 _) ?_
        rw [r1, show n - i = 0 by omega, fl, if_neg em]; rfl
    · rw [if_neg (fun q => ei ((neq (by omega) (by omega)).mp q))]
      have ek : n - i = (n - (i + 1)) + 1 := by omega
      have b61 := tb (by omega)
      obtain ⟨τ2, e2, v2, f2⟩ := m_mf151 (N := N) (rest := fl W (n - (i + 1)) (i + 1)) hW hn (show i < n by omega) (show m ≤ 144 by omega) (fun x => (fl_le hW (n - (i + 1)) (i + 1) x).imp id (fun h => by omega)) (k100 := k100) (k106 := f_X12_makeFits_106 N k100 fuel) (τ0 := si τ 61 (145 * i + m) 1000000000) (by rw [(w1 _ 1085 0 (fun q => (nomatch q.1))).1, n61 1085 0 (fun q => (nomatch q.1))]; exact h85) (fun i' h1 b h2 => by rw [(w1 _ 58 _ (fun q => (nomatch q.1))).1, n61 58 _ (fun q => (nomatch q.1))]; exact w58 i' h1 b h2) (fun x hx => by rw [(w1 _ 61 _ (fun q => by have := q.2; omega)).1, n61 61 _ (fun q => by have := q.2; omega)]; exact b61 x hx) 12 N 1 _ (by omega) (by omega) (by omega) (by omega) (by rw [r1]; rfl) (FrP.refl _ _)
      have e2' : f_X12_makeFits_151 N k100 (f_X12_makeFits_106 N k100 fuel) N (nI i) (nI m) (nI (145 * i + m)) 1 (si τ 61 (145 * i + m) 1000000000) = _ := e2
      rw [e2']
      refine fin τ2 ((w1 _).trans f2) ?_
      rw [v2, ek, fl]
theorem m_mf100 {N : Nat} (hN : 802 < N) {W : Nat → Nat → Nat} (hW : ∀ i b, b ≤ 12 → W i b ≤ 36000) {n : Nat} (hn : n ≤ 12) {τ0 : St} (h85 : τ0.1 1085 0 = nI n) (w58 : W58 τ0 n W) : ok (f_X12_makeFits_100 N N (nI n) τ0) (fun a => a.1 = 0 ∧ (∀ i, i ≤ n → Tb61 a.2 W n i) ∧ Fr [61] τ0 a.2) := by
  have key : ∀ (m fuel : Nat) (τ : St), m ≤ n + 1 → m < fuel → (∀ i, m ≤ i → i ≤ n → Tb61 τ W n i) → Fr [61] τ0 τ → ok (f_X12_makeFits_100 N fuel (nI m + -1) τ) (fun a => a.1 = 0 ∧ (∀ i, i ≤ n → Tb61 a.2 W n i) ∧ Fr [61] τ0 a.2) := by
    intro m
    induction m with
    | zero =>
      intro fuel τ hm hf h f
      obtain ⟨fuel, rfl⟩ : ∃ f, fuel = f + 1 := ⟨fuel - 1, by omega⟩
      rw [f_X12_makeFits_100, if_pos (show nI 0 + -1 < (0 : Int32) by decide), ok_some]
      exact ⟨rfl, fun i hi => h i (by omega) hi, f⟩
    | succ m ih =>
      intro fuel τ hm hf h f
      obtain ⟨fuel, rfl⟩ : ∃ f, fuel = f + 1 := ⟨fuel - 1, by omega⟩
      obtain ⟨τ1, e1, t1, f1⟩ := m_mf106 (N := N) hN hW hn (show m ≤ n by omega) (k100 := f_X12_makeFits_100 N fuel) (τ0 := τ) (by rw [f.i 1085 rfl]; exact h85) (fun i h1 b h2 => by rw [f.i 58 rfl]; exact w58 i h1 b h2) (fun hl => h (m + 1) (Nat.le_refl _) (by omega)) 145 N 0 τ (by omega) (by omega) (by omega) (fun x hx => absurd hx (by omega)) (FrP.refl _ _)
      have e1' : f_X12_makeFits_106 N (f_X12_makeFits_100 N fuel) N (nI m) 0 τ = f_X12_makeFits_100 N fuel (nI m + -1) τ1 := e1
      rw [nI_back, f_X12_makeFits_100, if_neg (show ¬ nI m < (0 : Int32) from nI_nlt (b := 0) (by omega) (by omega)), e1']
      refine ih fuel τ1 (by omega) (by omega) (fun i h1 h2 => ?_) (f.trans (f1.toFr (fun a j h => by rw [h.1]; rfl)))
      by_cases e : i = m
      · rw [e]; exact t1
      · intro x hx
        rw [(f1 61 _ (fun q => by have := q.2; omega)).1]
        exact h i (by omega) h2 x hx
  have := key (n + 1) N τ0 (Nat.le_refl _) (by omega) (fun i h1 h2 => absurd h1 (by omega)) (Fr.refl _ _)
  rw [nI_back] at this
  exact this
