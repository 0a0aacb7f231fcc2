/-! fill -/
def gdB (W rest : Nat → Nat) (m v b : Nat) : Prop := 1 ≤ b ∧ b ≤ m ∧ W b ≠ 0 ∧ rest (m - b) < 1000000000 ∧ W b + rest (m - b) = v
theorem lsb_good {W rest : Nat → Nat} {m : Nat} : ∀ c, lsb W rest m c < 1000000000 → ∃ b, b ≤ c ∧ gdB W rest m (lsb W rest m c) b := by
  intro c
  induction c with
  | zero => intro h; exact absurd h (by show ¬ 1000000000 < 1000000000; omega)
  | succ c ih =>
    intro h
    rw [lsb] at h ⊢
    by_cases q : c + 1 ≤ m ∧ W (c + 1) ≠ 0 ∧ rest (m - (c + 1)) < 1000000000
    · rw [if_pos q] at h ⊢
      by_cases r : lsb W rest m c ≤ W (c + 1) + rest (m - (c + 1))
      · rw [Nat.min_eq_left r] at h ⊢
        obtain ⟨b, h1, h2⟩ := ih h
        exact ⟨b, by omega, h2⟩
      · rw [Nat.min_eq_right (by omega)] at h ⊢
        exact ⟨c + 1, Nat.le_refl _, by omega, q.1, q.2.1, q.2.2, rfl⟩
    · rw [if_neg q] at h ⊢
      obtain ⟨b, h1, h2⟩ := ih h
      exact ⟨b, by omega, h2⟩
theorem least_nat {P : Nat → Prop} : ∀ c, P c → ∃ b, b ≤ c ∧ P b ∧ ∀ b', b' < b → ¬ P b' := by
  intro c
  induction c using Nat.strongRecOn with
  | ind c ih =>
    intro h
    by_cases q : ∃ b, b < c ∧ P b
    · obtain ⟨b, q1, q2⟩ := q
      obtain ⟨b', r1, r2⟩ := ih b q1 q2
      exact ⟨b', by omega, r2⟩
    · exact ⟨c, Nat.le_refl _, h, fun b' h1 h2 => q ⟨b', h1, h2⟩⟩
theorem x_fw32 {N : Nat} {σ : St} {n : Nat} {u : Nat → Nat} {W : Nat → Nat → Nat} (w51 : W51 σ n u W) (hW : ∀ i b, W i b ≤ 36000) {i m v b0 : Nat} (hn : n ≤ 12) (hi : i < n) (hu : u i < 40) (h68 : σ.1 68 i = nI (u i)) {rest : Nat → Nat} (hr : ∀ x, rest x = 1000000000 ∨ rest x ≤ 1000000) (tb : ∀ x, x ≤ 144 → σ.1 69 ((i + 1) * 145 + x) = nI (gx (rest x))) (hm : m ≤ 144) (hv : v < 1000000000) (h69 : σ.1 69 (i * 145 + m) = nI (gx v)) (hb0 : b0 ≤ 12) (g0 : gdB (W i) rest m v b0) (gl0 : ∀ b, b < b0 → ¬ gdB (W i) rest m v b) {k21 : Int32 → Int32 → Int32 → St → Option (Int32 × St)} {x1 : Int32} : ∀ (k fuel b : Nat), b0 - b = k → k < fuel → 1 ≤ b → b ≤ b0 → f_X4_fillWith_32 N k21 fuel x1 (nI m) (nI i) (nI b) σ = f_X4_fillWith_74 N k21 x1 (nI m) (nI i) (nI b0) σ := by
  have gm := g0.2.1
  have ea : nI i * 145 + nI m = nI (i * 145 + m) := by rw [show (145 : Int32) = nI 145 from rfl, nmul, nadd]
  intro k
  induction k with
  | zero =>
    intro fuel b hk hf h1 h2
    obtain ⟨fuel, rfl⟩ : ∃ f, fuel = f + 1 := ⟨fuel - 1, by omega⟩
    have e : b = b0 := by omega
    subst e
    rw [f_X4_fillWith_32]
    by_cases c1 : 12 ≤ b
    · rw [if_pos (show (12 : Int32) ≤ nI b from nI_le (a := 12) c1 (by omega))]
    · rw [if_neg (show ¬ (12 : Int32) ≤ nI b from nI_ge (b := 12) (by omega) (by omega))]
      by_cases c2 : m ≤ b
      · rw [if_pos (nI_le c2 (by omega))]
      · rw [if_neg (nI_ge (by omega) (by omega)), x_paintWith w51 hW hn hi hu h68 hr tb hm hb0 gm, bo_some, ea, ib_n (by omega), decide_eq_true (show i * 145 + m < 1885 by omega), grd_true, ncl (by omega), h69, if_pos]
        unfold pw
        rw [if_pos ⟨g0.2.2.1, g0.2.2.2.1⟩, g0.2.2.2.2]
  | succ k ih =>
    intro fuel b hk hf h1 h2
    obtain ⟨fuel, rfl⟩ : ∃ f, fuel = f + 1 := ⟨fuel - 1, by omega⟩
    have wb := hW i b
    have rb := hr (m - b)
    rw [f_X4_fillWith_32, if_neg (show ¬ (12 : Int32) ≤ nI b from nI_ge (b := 12) (by omega) (by omega)), if_neg (nI_ge (by omega) (by omega)), x_paintWith w51 hW hn hi hu h68 hr tb hm (by omega) (by omega), bo_some, ea, ib_n (by omega), decide_eq_true (show i * 145 + m < 1885 by omega), grd_true, ncl (by omega), h69, nI_1, if_neg]
    · exact ih fuel (b + 1) (by omega) (by omega) (by omega) (by omega)
    · intro q
      unfold pw at q
      rw [gx_no v (by omega)] at q
      by_cases c : W i b ≠ 0 ∧ rest (m - b) < 1000000000
      · rw [if_pos c, gx_no _ (by omega)] at q
        exact gl0 b (by omega) ⟨h1, by omega, c.1, c.2, (neq (by omega) (by omega)).mp q⟩
      · rw [if_neg c, gx_is _ rfl] at q
        have := (neq (by omega) (by omega)).mp q
        omega
theorem m_fw56 {N : Nat} {τ : St} {n : Nat} {W : Nat → Nat → Nat} (w58 : W58 τ n W) (hW : ∀ i b, W i b ≤ 36000) {i m v b0 : Nat} (hn : n ≤ 12) (hi : i < n) {rest : Nat → Nat} (hr : ∀ x, rest x = 1000000000 ∨ rest x ≤ 1000000) (tb : ∀ x, x ≤ 144 → τ.1 61 (145 * (i + 1) + x) = nI (rest x)) (hm : m ≤ 144) (hv : v < 1000000000) (h61 : τ.1 61 (145 * i + m) = nI v) (hb0 : b0 ≤ 12) (g0 : gdB (W i) rest m v b0) (gl0 : ∀ b, b < b0 → ¬ gdB (W i) rest m v b) {k44 : Int32 → Int32 → Int32 → St → Option (Int32 × St)} {x1 : Int32} : ∀ (k fuel b : Nat), b0 - b = k → k < fuel → 1 ≤ b → b ≤ b0 → f_X12_fill_56 N k44 fuel x1 (nI m) (nI i) (nI b) τ = f_X12_fill_188 N k44 N x1 (nI m) (nI i) (nI b0) 0 (si (si τ 62 i (nI b0)) 63 i (τ.1 59 (13 * i + b0))) := by
  have gm := g0.2.1
  have e1 : ∀ b, b ≤ m → 145 * (nI i + 1) + nI m - nI b = nI (145 * (i + 1) + (m - b)) := fun b hb => by
    rw [nI_1, show (145 : Int32) = nI 145 from rfl, nmul, nadd, nsub (by omega)]
    congr 1; omega
  have e2 : ∀ b, 13 * nI i + nI b = nI (13 * i + b) := fun b => by rw [show (13 : Int32) = nI 13 from rfl, nmul, nadd]
  have e3 : 145 * nI i + nI m = nI (145 * i + m) := by rw [show (145 : Int32) = nI 145 from rfl, nmul, nadd]
  intro k
  induction k with
  | zero =>
    intro fuel b hk hf h1 h2
    obtain ⟨fuel, rfl⟩ : ∃ f, fuel = f + 1 := ⟨fuel - 1, by omega⟩
    have e : b = b0 := by omega
    subst e
    obtain ⟨q1, q2, q3, q4, q5⟩ := g0
    have wb := hW i b
    rw [f_X12_fill_56, if_neg (nI_nlt q2 (by omega)), e2, e1 b q2, e3, ib_n (a := 13 * i + b) (by omega), decide_eq_true (show 13 * i + b < 156 by omega), ncl (a := 13 * i + b) (by omega), ib_n (a := 145 * (i + 1) + (m - b)) (by omega), decide_eq_true (show 145 * (i + 1) + (m - b) < 1885 by omega), ncl (a := 145 * (i + 1) + (m - b)) (by omega), ib_n (a := 145 * i + m) (by omega), decide_eq_true (show 145 * i + m < 1885 by omega), ncl (a := 145 * i + m) (by omega), ib_n (a := i) (by omega), decide_eq_true (show i < 12 by omega), ncl (a := i) (by omega), w58 i hi b (by omega), tb (m - b) (by omega), h61, nadd, q5]
    simp only [grd_true]
    rw [if_neg (nI_ne0 (by omega) (by omega)), if_neg (show ¬ (1000000000 : Int32) ≤ nI (rest (m - b)) from nI_ge (b := 1000000000) q4 (by omega)), if_pos trivial]
  | succ k ih =>
    intro fuel b hk hf h1 h2
    obtain ⟨fuel, rfl⟩ : ∃ f, fuel = f + 1 := ⟨fuel - 1, by omega⟩
    have wb := hW i b
    have rb := hr (m - b)
    have nx := ih fuel (b + 1) (by omega) (by omega) (by omega) (by omega)
    rw [f_X12_fill_56, if_neg (nI_nlt (by omega) (by omega)), e2, e1 b (by omega), e3, ib_n (a := 13 * i + b) (by omega), decide_eq_true (show 13 * i + b < 156 by omega), ncl (a := 13 * i + b) (by omega), ib_n (a := 145 * (i + 1) + (m - b)) (by omega), decide_eq_true (show 145 * (i + 1) + (m - b) < 1885 by omega), ncl (a := 145 * (i + 1) + (m - b)) (by omega), ib_n (a := 145 * i + m) (by omega), decide_eq_true (show 145 * i + m < 1885 by omega), ncl (a := 145 * i + m) (by omega), w58 i hi b (by omega), tb (m - b) (by omega), h61, nadd, nI_1]
    simp only [grd_true]
    by_cases c1 : W i b = 0
    · rw [if_pos (by rw [c1]; rfl)]; exact nx
    · rw [if_neg (nI_ne0 (by omega) (by omega))]
      by_cases c2 : 1000000000 ≤ rest (m - b)
      · rw [if_pos (show (1000000000 : Int32) ≤ nI (rest (m - b)) from nI_le (a := 1000000000) c2 (by omega))]; exact nx
      · rw [if_neg (show ¬ (1000000000 : Int32) ≤ nI (rest (m - b)) from nI_ge (b := 1000000000) (by omega) (by omega)), if_neg (fun q => gl0 b (by omega) ⟨h1, by omega, c1, by omega, (neq (by omega) (by omega)).mp q⟩)]
        exact nx
theorem m_fw188 {N : Nat} {i b : Nat} (hi : i < 12) (hb : b < 13) {x1 x3 : Int32} {k44 : Int32 → Int32 → Int32 → St → Option (Int32 × St)} {τ0 : St} : ∀ (k fuel j : Nat) (τ : St), 12 - j = k → k < fuel → j ≤ 12 → (∀ x, x < j → τ.1 64 (12 * i + x) = τ0.1 60 (12 * (13 * i + b) + x)) → FrP (fun a x => a = 64 ∧ 12 * i ≤ x ∧ x < 12 * i + 12) τ0 τ → ∃ τ', f_X12_fill_188 N k44 fuel x1 x3 (nI i) (nI b) (nI j) τ = k44 x1 (x3 - nI b) (nI (i + 1)) τ' ∧ (∀ x, x < 12 → τ'.1 64 (12 * i + x) = τ0.1 60 (12 * (13 * i + b) + x)) ∧ FrP (fun a x => a = 64 ∧ 12 * i ≤ x ∧ x < 12 * i + 12) τ0 τ' := by
  have e1 : ∀ j, 12 * (13 * nI i + nI b) + nI j = nI (12 * (13 * i + b) + j) := fun j => by rw [show (13 : Int32) = nI 13 from rfl, show (12 : Int32) = nI 12 from rfl, nmul, nadd, nmul, nadd]
  have e2 : ∀ j, 12 * nI i + nI j = nI (12 * i + j) := fun j => by rw [show (12 : Int32) = nI 12 from rfl, nmul, nadd]
  intro k
  induction k with
  | zero =>
    intro fuel j τ hk hf hj h f
    obtain ⟨fuel, rfl⟩ : ∃ f, fuel = f + 1 := ⟨fuel - 1, by omega⟩
    have e : j = 12 := by omega
    subst e
    refine ⟨τ, ?_, h, f⟩
    rw [f_X12_fill_188, if_pos (show (12 : Int32) ≤ nI 12 by decide), nI_1]
  | succ k ih =>
    intro fuel j τ hk hf hj h f
    obtain ⟨fuel, rfl⟩ : ∃ f, fuel = f + 1 := ⟨fuel - 1, by omega⟩
    rw [f_X12_fill_188, if_neg (show ¬ (12 : Int32) ≤ nI j from nI_ge (b := 12) (by omega) (by omega)), e1, e2, ib_n (a := 12 * (13 * i + b) + j) (by omega), decide_eq_true (show 12 * (13 * i + b) + j < 1872 by omega), ncl (a := 12 * (13 * i + b) + j) (by omega), ib_n (a := 12 * i + j) (by omega), decide_eq_true (show 12 * i + j < 144 by omega), ncl (a := 12 * i + j) (by omega), nI_1, (f 60 _ (fun q => (nomatch q.1))).1]
    simp only [grd_true]
    refine ih fuel (j + 1) _ (by omega) (by omega) (by omega) (fun x hx => ?_) (f.si _ _ _ ⟨rfl, by omega, by omega⟩)
    rw [si_rd, if_pos rfl]
    by_cases e : x = j
    · rw [if_pos (by omega), e]
    · rw [if_neg (by omega)]; exact h x (by omega)
def RF1 (σ τ : St) (i : Nat) : Prop := σ.1 70 i = τ.1 62 i ∧ ∃ m f, m ≤ 10 ∧ (∀ j, j < m → f j < 64 ∧ τ.1 64 (12 * i + j) = nI (f j)) ∧ σ.1 71 i = nI m ∧ τ.1 63 i = nI m ∧ σ.2 72 i = lN (sp6 f m)
theorem fl_loop {N : Nat} (hN : 802 < N) {L : Lv} (hL : LOk L) {nt n M : Nat} {T : Nat → Tv} (hT : TOk nt T) {u : Nat → Nat} (hn : n ≤ 12) (hM : M ≤ 144) {W : Nat → Nat → Nat} (hW : ∀ i b, W i b ≤ 36000) {σ0 τ0 : St} (h02 : σ0.1 14402 0 = nI n) (h85 : τ0.1 1085 0 = nI n) (hu : ∀ i, i < n → u i < nt ∧ σ0.1 68 i = nI (u i)) (sls : ∀ i, i < n → SlotX σ0 (u i) L (T (u i))) (w51 : W51 σ0 n u W) (pl : ∀ i, i ≤ n → PlanR σ0 W n i) (ft : ∀ i, i < n → FitRow τ0 L (T (u i)) i) (w58 : W58 τ0 n W) (tb : ∀ i, i ≤ n → Tb61 τ0 W n i) :
    ∀ (k fx fm i m : Nat) (σ τ : St), n - i = k → k < fx → k < fm → i ≤ n → m ≤ 144 → fl W (n - i) i m < 1000000000 → (∀ i', i' < i → RF1 σ τ i') → Fr [70, 71, 72] σ0 σ → Fr [62, 63, 64] τ0 τ →
    ok (f_X4_fillWith_21 N fx (nI M) (nI m) (nI i) σ) (fun a => ok (f_X12_fill_44 N fm (nI M) (nI m) (nI i) τ) (fun c => a.1 = nI (gx (fl W n 0 M)) ∧ c.1 = nI (fl W n 0 M) ∧ a.2.1 14405 0 = nI n ∧ c.2.1 1086 0 = nI n ∧ (∀ i', i' < n → RF1 a.2 c.2 i') ∧ Fr [70, 71, 72, 14405] σ0 a.2 ∧ Fr [62, 63, 64, 1086] τ0 c.2)) := by
  have h40 := hT.1
  intro k
  induction k with
  | zero =>
    intro fx fm i m σ τ hk hfx hfm hi hm hfin rf f g
    obtain ⟨fx, rfl⟩ : ∃ f, fx = f + 1 := ⟨fx - 1, by omega⟩
    obtain ⟨fm, rfl⟩ : ∃ f, fm = f + 1 := ⟨fm - 1, by omega⟩
    have e : i = n := by omega
    subst e
    have p := pl 0 (by omega) M hM
    have q := tb 0 (by omega) M hM
    rw [Nat.zero_mul, Nat.zero_add, Nat.sub_zero] at p
    rw [Nat.mul_zero, Nat.zero_add, Nat.sub_zero] at q
    rw [f_X4_fillWith_21, f_X12_fill_44, f.i 14402 rfl, h02, g.i 1085 rfl, h85, if_pos (nI_le (Nat.le_refl _) (by omega)), if_pos (nI_le (Nat.le_refl _) (by omega)), ib_n (a := M) (by omega), decide_eq_true (show M < 1885 by omega), ncl (a := M) (by omega), grd_true, grd_true, ok_some, ok_some, f.i 69 rfl, g.i 61 rfl, p, q]
    refine ⟨rfl, rfl, by rw [si_rd, if_pos rfl, if_pos rfl], by rw [si_rd, if_pos rfl, if_pos rfl], fun i' hi' => ?_, (f.wide rfl).si _ _ _ rfl, (g.wide rfl).si _ _ _ rfl⟩
    have r := rf i' hi'
    unfold RF1 at r ⊢
    simp only [si_rd, si_2, reduceIte, Nat.reduceEqDiff]
    exact r
  | succ k ih =>
    intro fx fm i m σ τ hk hfx hfm hi hm hfin rf f g
    obtain ⟨fx, rfl⟩ : ∃ f, fx = f + 1 := ⟨fx - 1, by omega⟩
    obtain ⟨fm, rfl⟩ : ∃ f, fm = f + 1 := ⟨fm - 1, by omega⟩
    have hi' : i < n := by omega
    have o12 : i < 12 := by omega
    have ek : n - i = (n - (i + 1)) + 1 := by omega
    have hv : lsb (W i) (fl W (n - (i + 1)) (i + 1)) m 12 < 1000000000 := by rw [ek, fl] at hfin; exact hfin
    obtain ⟨bb, bb1, bb2⟩ := lsb_good 12 hv
    obtain ⟨b0, c1, g0, gl0⟩ := least_nat (P := gdB (W i) (fl W (n - (i + 1)) (i + 1)) m (lsb (W i) (fl W (n - (i + 1)) (i + 1)) m 12)) bb bb2
    have hb0 : b0 ≤ 12 := by omega
    have hr : ∀ x, fl W (n - (i + 1)) (i + 1) x = 1000000000 ∨ fl W (n - (i + 1)) (i + 1) x ≤ 1000000 := fun x => (fl_le (fun i b _ => hW i b) (n - (i + 1)) (i + 1) x).imp id (fun h => by omega)
    have w51' : W51 σ n u W := fun i hi b hb => by rw [f.i 51 rfl]; exact w51 i hi b hb
    have w58' : W58 τ n W := fun i hi b hb => by rw [g.i 58 rfl]; exact w58 i hi b hb
    have u40 : u i < 40 := by have := (hu i hi').1; omega
    have h68 : σ.1 68 i = nI (u i) := by rw [f.i 68 rfl]; exact (hu i hi').2
    have p69 := pl i hi m hm
    rw [ek, fl] at p69
    have p61 := tb i hi m hm
    rw [ek, fl] at p61
    have l1 := x_fw32 (N := N) w51' hW hn hi' u40 h68 hr (fun x hx => by rw [f.i 69 rfl]; exact pl (i + 1) (by omega) x hx) hm hv (by rw [f.i 69 rfl]; exact p69) hb0 g0 gl0 (k21 := f_X4_fillWith_21 N fx) (x1 := nI M) (b0 - 1) N 1 (by omega) (by omega) (by omega) g0.1
    have l2 := m_fw56 (N := N) w58' hW hn hi' hr (fun x hx => by rw [g.i 61 rfl]; exact tb (i + 1) (by omega) x hx) hm hv (by rw [g.i 61 rfl]; exact p61) hb0 g0 gl0 (k44 := f_X12_fill_44 N fm) (x1 := nI M) (b0 - 1) N 1 (by omega) (by omega) (by omega) g0.1
    have l1' : f_X4_fillWith_32 N (f_X4_fillWith_21 N fx) N (nI M) (nI m) (nI i) 1 σ = _ := l1
    have l2' : f_X12_fill_56 N (f_X12_fill_44 N fm) N (nI M) (nI m) (nI i) 1 τ = _ := l2
    obtain ⟨_, g02, g03, g04, g05⟩ := g0
    rw [f_X4_fillWith_21, f_X12_fill_44, f.i 14402 rfl, h02, g.i 1085 rfl, h85, if_neg (nI_ge hi' (by omega)), if_neg (nI_ge hi' (by omega)), l1', l2']
    have ea : nI (u i) * 13 + nI b0 = nI (u i * 13 + b0) := by rw [show (13 : Int32) = nI 13 from rfl, nmul, nadd]
    rcases sls i hi' b0 (by omega) with ⟨s1, s2⟩ | ⟨l, s1, s2, s3, s4, s5⟩
    · exfalso
      rcases w51 i hi' b0 (by omega) with ⟨_, q⟩ | ⟨c, q1, q2, q3⟩
      · exact g03 q
      · rw [s1] at q3
        have wb := hW i b0
        have q4 : nI 2147483647 = nI (W i b0 * 16 + c) := q3
        have := (neq (by omega) (by omega)).mp q4
        omega
    · rcases ft i hi' b0 (by omega) with ⟨t1, t2⟩ | ⟨l', t1, t2, t3, t4, t5, t6, t7⟩
      · exact absurd s1 (t2 l)
      · have el : l = l' := kle_anti hL s2 t2 (s5 l' t1) (t7 l s1)
        subst el
        have mm := sps_mem hL (TOk_t hT (hu i hi').1) s1.1
        have plr := pnt_le hL s2.2
        have cc := c16 (a := pnt L l) (b := l.length) (by omega) (by omega)
        unfold f_X4_fillWith_74 f_X2_slotLength f_X2_slotRow
        rw [ib_n (a := i) (by omega), decide_eq_true o12, ncl (a := i) (by omega), h68, ea, ib_n (a := u i * 13 + b0) (by omega), decide_eq_true (show u i * 13 + b0 < 520 by omega), ncl (a := u i * 13 + b0) (by omega)]
        simp only [grd_true, bo_some, sl_1, si_2]
        rw [si_rd, if_neg (by decide), f.i 51 rfl, f.l 52 rfl, s3, s4, cst_eq, cc.2.1, nsub g02, nI_1]
        have F1 : Fr [70, 71, 72] σ (sl (si (si σ 70 i (nI b0)) 71 i (nI l.length)) 72 i (lN (cde l))) := (((Fr.refl _ _).si _ _ _ rfl).si _ _ _ rfl).sl _ _ _ rfl
        have r70 : ∀ j, (sl (si (si σ 70 i (nI b0)) 71 i (nI l.length)) 72 i (lN (cde l))).1 70 j = if j = i then nI b0 else σ.1 70 j := fun j => by simp only [sl_1, si_rd, reduceIte, Nat.reduceEqDiff]
        have r71 : ∀ j, (sl (si (si σ 70 i (nI b0)) 71 i (nI l.length)) 72 i (lN (cde l))).1 71 j = if j = i then nI l.length else σ.1 71 j := fun j => by simp only [sl_1, si_rd, reduceIte, Nat.reduceEqDiff]
        have r72 : ∀ j, (sl (si (si σ 70 i (nI b0)) 71 i (nI l.length)) 72 i (lN (cde l))).2 72 j = if j = i then lN (cde l) else σ.2 72 j := fun j => by rw [sl_rd, if_pos rfl]; rfl
        generalize sl (si (si σ 70 i (nI b0)) 71 i (nI l.length)) 72 i (lN (cde l)) = σ1 at *
        have G1 : Fr [62, 63, 64] τ (si (si τ 62 i (nI b0)) 63 i (τ.1 59 (13 * i + b0))) := ((Fr.refl _ _).si _ _ _ rfl).si _ _ _ rfl
        have r62 : ∀ j, (si (si τ 62 i (nI b0)) 63 i (τ.1 59 (13 * i + b0))).1 62 j = if j = i then nI b0 else τ.1 62 j := fun j => by simp only [si_rd, reduceIte, Nat.reduceEqDiff]
        have r63 : ∀ j, (si (si τ 62 i (nI b0)) 63 i (τ.1 59 (13 * i + b0))).1 63 j = if j = i then τ.1 59 (13 * i + b0) else τ.1 63 j := fun j => by simp only [si_rd, reduceIte, Nat.reduceEqDiff]
        have r64 : ∀ j, (si (si τ 62 i (nI b0)) 63 i (τ.1 59 (13 * i + b0))).1 64 j = τ.1 64 j := fun j => by simp only [si_rd, reduceIte, Nat.reduceEqDiff]
        have r60 : ∀ j, (si (si τ 62 i (nI b0)) 63 i (τ.1 59 (13 * i + b0))).1 60 j = τ.1 60 j := fun j => by simp only [si_rd, reduceIte, Nat.reduceEqDiff]
        generalize si (si τ 62 i (nI b0)) 63 i (τ.1 59 (13 * i + b0)) = τ1 at *
        obtain ⟨τ2, e5, z1, z2⟩ := m_fw188 (N := N) (x1 := nI M) (x3 := nI m) (k44 := f_X12_fill_44 N fm) o12 (show b0 < 13 by omega) 12 N 0 τ1 (by omega) (by omega) (by omega) (fun x hx => absurd hx (by omega)) (FrP.refl _ _)
        have e5' : f_X12_fill_188 N (f_X12_fill_44 N fm) N (nI M) (nI m) (nI i) (nI b0) 0 τ1 = _ := e5
        rw [e5', nsub g02]
        refine ih fx fm (i + 1) (m - b0) σ1 τ2 (by omega) (by omega) (by omega) (by omega) (by omega) g04 (fun i' h' => ?_) (f.trans F1) (g.trans (G1.trans (z2.toFr (fun a j h => by rw [h.1]; rfl))))
        by_cases e : i' = i
        · rw [e]
          refine ⟨?_, l.length, gl l, s2.1, fun j hj => ⟨by have := s2.2 _ (gl_mem hj); have := hL.1; omega, ?_⟩, ?_, ?_, ?_⟩
          · rw [r70, if_pos rfl, (z2 62 i (fun q => (nomatch q.1))).1, r62, if_pos rfl]
          · rw [z1 j (by omega), r60, g.i 60 rfl]; exact t6 j hj
          · rw [r71, if_pos rfl]
          · rw [(z2 63 i (fun q => (nomatch q.1))).1, r63, if_pos rfl, g.i 59 rfl]; exact t5
          · rw [r72, if_pos rfl, cde_sp6 _ l rfl]
        · have r := rf i' (by omega)
          unfold RF1 at r ⊢
          rw [r70, if_neg e, r71, if_neg e, r72, if_neg e, (z2 62 i' (fun q => (nomatch q.1))).1, r62, if_neg e, (z2 63 i' (fun q => (nomatch q.1))).1, r63, if_neg e]
          refine ⟨r.1, ?_⟩
          obtain ⟨mm', ff, q1, q2, q3⟩ := r.2
          refine ⟨mm', ff, q1, fun j hj => ⟨(q2 j hj).1, ?_⟩, q3⟩
          rw [(z2 64 _ (fun q => by have := q.2; omega)).1, r64]
          exact (q2 j hj).2
theorem x_in {τ : St} {x : Int32} : (f_X12_in x 1 144 τ = 0 ∧ (x < 1 ∨ ¬ x ≤ 144)) ∨ (∃ m, 1 ≤ m ∧ m ≤ 144 ∧ x = nI m ∧ f_X12_in x 1 144 τ = 1) := by
  rw [m_in]
  rcases pk_ix x (n := 145) (by omega) with q | q | ⟨k, q1, q2⟩
  · have h : x < 1 := Int32.lt_of_lt_of_le q (show (0 : Int32) ≤ 1 by decide)
    exact Or.inl ⟨i00 (fun h' => absurd h (Int32.not_lt.mpr h'.1)), Or.inl h⟩
  · have h : ¬ x ≤ 144 := fun h => by
      have := Int32.le_trans q h
      exact nI_ge (a := 144) (b := 145) (by omega) (by omega) this
    exact Or.inl ⟨i00 (fun h' => h h'.2), Or.inr h⟩
  · by_cases k0 : k = 0
    · subst k0
      have h : x < 1 := by rw [q2]; decide
      exact Or.inl ⟨i00 (fun h' => absurd h (Int32.not_lt.mpr h'.1)), Or.inl h⟩
    · refine Or.inr ⟨k, by omega, by omega, q2, if_pos ?_⟩
      rw [q2]
      exact ⟨nI_le (a := 1) (by omega) (by omega), nI_le (b := 144) (by omega) (by omega)⟩
abbrev VFiX : List Nat := [47, 8601, 8602, 8603, 8604, 8605, 8606, 39, 48, 10213, 55, 53, 54, 56, 51, 52, 69, 14404, 70, 71, 72, 14405]
abbrev VFiM : List Nat := [61, 34, 35, 36, 38, 1062, 1063, 37, 39, 1060, 1061, 52, 53, 54, 58, 59, 60, 1091, 62, 63, 64, 1086]
theorem c_fill {N : Nat} (hN : 802 < N) {σ τ : St} {L : Lv} {nt : Nat} {T : Nat → Tv} (rl : RList σ τ L) (rT : RTerms σ τ nt T) (rc : RCache σ L nt T) (rp : RPass σ τ nt) (rq : RPlan σ L nt T) (rf : RFill σ τ) (x : Int32) : ok (f_X11_fill N x σ) (fun a => ok (f_X12_fill N x τ) (fun c => a.1 = c.1 ∧ RCache a.2 L nt T ∧ RPlan a.2 L nt T ∧ RFill a.2 c.2 ∧ Fr VFiX σ a.2 ∧ Fr VFiM τ c.2)) := by
  have hL := rl.1
  have h40 : nt ≤ 40 := rT.1.1
  obtain ⟨n, u, hn, h1, h2, hu⟩ := pass_u h40 rp
  have same : ∀ r : Int32, ok (some (r, σ)) (fun a => ok (some (r, τ)) (fun c => a.1 = c.1 ∧ RCache a.2 L nt T ∧ RPlan a.2 L nt T ∧ RFill a.2 c.2 ∧ Fr VFiX σ a.2 ∧ Fr VFiM τ c.2)) := by
    intro r; rw [ok_some, ok_some]; exact ⟨rfl, rc, rq, rf, Fr.refl _ _, Fr.refl _ _⟩
  unfold f_X11_fill f_X12_fill
  rcases x_in (τ := τ) (x := x) with ⟨q1, q2⟩ | ⟨M, M1, M2, rfl, q1⟩
  · rw [q1, if_pos rfl]
    by_cases c : x < 1
    · rw [if_pos c]; exact same _
    · rw [if_neg c, if_neg (q2.elim (fun h => absurd h c) id)]; exact same _
  rw [q1, if_neg one_ne, if_neg (show ¬ nI M < (1 : Int32) from nI_nlt (b := 1) (by omega) (by omega)), if_pos (show nI M ≤ (144 : Int32) from nI_le (b := 144) (by omega) (by omega)), h1]
  by_cases n0 : n = 0
  · unfold f_X12_makeFits
    rw [h2, n0, if_pos (show nI 0 = (0 : Int32) from rfl), if_pos (show nI 0 = (0 : Int32) from rfl), bd_some, if_neg (by decide)]
    exact same _
  rw [if_neg (nI_ne0 (by omega) (by omega))]
  obtain ⟨⟨r1, σ1⟩, e1, rc1, s1, f1⟩ := x_settle hN hL rT.1 hn rl.2.1 rT.2.1 rc (fun i hi => ⟨(hu i hi).1, (hu i hi).2.1⟩)
  obtain ⟨⟨r2, τ1⟩, e2, m1, g1⟩ := m_makeFits hN hL rT.1 hn (by omega) rl.2.2 rT.2.2 h2 (fun i hi => ⟨(hu i hi).1, (hu i hi).2.2⟩)
  rw [e1, bd_some, e2, bd_some]
  have rq1 : RPlan σ1 L nt T := rq.fr f1 rfl
  rcases s1 with ⟨a1, a2, a3⟩ | ⟨a1, i, a2, a3⟩
  · have a1' : r1 = 1 := a1
    rcases m1 with ⟨b1, i, b2', b3⟩ | ⟨b1, b2', b3, W, b4, b5, b6, b7⟩
    · have := a2 i b2'; omega
    · have b1' : r2 = 0 := b1
      obtain ⟨σ2, e3, rc2, rq2, sl2, W2, w1, w2, w3, w4, f2⟩ := x_ready (N := N) (u := u) hN hL rT.1 hn (by rw [f1.i 14402 rfl]; exact h1) (fun i hi => ⟨(hu i hi).1, by rw [f1.i 68 rfl]; exact (hu i hi).2.1⟩) rc1 rq1 a3
      have F2 : Fr VFiX σ σ2 := (f1.wide rfl).trans (f2.wide rfl)
      have we : ∀ i, i < n → ∀ b, b < 13 → W2 i b = W i b := fun i hi b hb => WOk_uni hL (TOk_t rT.1 (hu i hi).1) (w3 i hi b hb) (b6 i hi b hb)
      have fe : ∀ i, i ≤ n → ∀ x, fl W2 (n - i) i x = fl W (n - i) i x := fun i hi x => fl_congr (n - i) i x (fun i' q1 q2 b q3 q4 => we i' (by omega) b (by omega))
      have pl : ∀ i, i ≤ n → PlanR σ2 W n i := fun i hi x hx => by rw [← fe i hi]; exact w4 i hi x hx
      have w51 : W51 σ2 n u W := fun i hi b hb => by rw [← we i hi b hb]; exact w1 i hi b hb
      have fb := fl_le (fun i b _ => b5 i b) n 0 M
      have p69 := pl 0 (by omega) M M2
      have p61 := b7 0 (by omega) M M2
      rw [Nat.zero_mul, Nat.zero_add, Nat.sub_zero] at p69
      rw [Nat.mul_zero, Nat.zero_add, Nat.sub_zero] at p61
      have p61' : τ1.1 61 M = nI (fl W n 0 M) := p61
      unfold f_X4_fillWith
      rw [a1', if_neg one_ne, e3, bo_some, b1', if_pos rfl, ib_n (a := M) (by omega), decide_eq_true (show M < 1885 by omega), grd_true, grd_true, ncl (a := M) (by omega), p69, p61']
      by_cases c : fl W n 0 M = 1000000000
      · rw [c, gx_is _ rfl, if_pos (show nI 2147483647 = (2147483647 : Int32) from rfl), if_neg (show ¬ nI 1000000000 < (1000000000 : Int32) by decide), bd_some, ok_some, ok_some]
        exact ⟨rfl, rc2, rq2, rf.fr (show Fr [47, 8601, 8602, 8603, 8604, 8605, 8606, 39, 48, 10213, 55, 53, 54, 56, 51, 52, 69, 14404] σ σ2 from (f1.wide rfl).trans (f2.wide rfl)) g1 rfl rfl, F2, g1.wide rfl⟩
      · rw [gx_no _ c, if_neg (fun q => by
          have q' : nI (fl W n 0 M) = nI 2147483647 := q
          have := (neq (by omega) (by omega)).mp q'
          omega), if_pos (show nI (fl W n 0 M) < (1000000000 : Int32) from nI_lt (b := 1000000000) (by omega) (by omega))]
        obtain ⟨⟨ra, σ3⟩, l1, ⟨rb, τ3⟩, l2, z1, z2, z3, z4, z5, z6, z7⟩ := fl_loop (N := N) (M := M) hN hL rT.1 (u := u) hn M2 b5 (σ0 := σ2) (τ0 := τ1) (by rw [f2.i 14402 rfl, f1.i 14402 rfl]; exact h1) (by rw [g1.i 1085 rfl]; exact h2) (fun i hi => ⟨(hu i hi).1, by rw [f2.i 68 rfl, f1.i 68 rfl]; exact (hu i hi).2.1⟩) sl2 w51 pl b3 b4 b7 n N N 0 M σ2 τ1 (by omega) (by omega) (by omega) (by omega) M2 (by rw [Nat.sub_zero]; omega) (fun i' h => absurd h (by omega)) (Fr.refl _ _) (Fr.refl _ _)
        have l1' : f_X4_fillWith_21 N N (nI M) (nI M) 0 σ2 = some (ra, σ3) := l1
        have l2' : f_X12_fill_44 N N (nI M) (nI M) 0 τ1 = some (rb, τ3) := l2
        rw [l1', l2', bd_some, ok_some, ok_some]
        have z1' : ra = nI (gx (fl W n 0 M)) := z1
        have z2' : rb = nI (fl W n 0 M) := z2
        refine ⟨by show ra = rb; rw [z1', z2', gx_no _ c], rc2.fr z6 rfl, rq2.fr z6 rfl, ⟨n, hn, z3, z4, z5⟩, F2.trans (z6.wide rfl), (g1.wide rfl).trans (z7.wide rfl)⟩
  · have a1' : r1 = 0 := a1
    rcases m1 with ⟨b1, _⟩ | ⟨b1, b2', _⟩
    · have b1' : r2 = -3 := b1
      rw [a1', if_pos rfl, b1', if_neg (by decide), ok_some, ok_some]
      exact ⟨rfl, rc1, rq1, rf.fr f1 g1 rfl rfl, f1.wide rfl, g1.wide rfl⟩
    · have := b2' i a2; omega
