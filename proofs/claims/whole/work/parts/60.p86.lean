/-! fill, the reference: fits of all TERMS that are said -/
def FitRow (τ : St) (L : Lv) (T : Tv) (i : Nat) : Prop := ∀ b, b < 13 → FitP τ (13 * i + b) L (fun l => l ∈ sps L T ∧ Bk L l b)
abbrev VMf : List Nat := [34, 35, 36, 38, 1062, 1063, 37, 39, 1060, 1061, 52, 53, 54, 58, 59, 60, 1091]
theorem m_mf29 {N : Nat} (hN : 802 < N) {L : Lv} (hL : LOk L) {nt i : Nat} {T : Nat → Tv} (hT : TOk nt T) (hi : i < 12) {t : Nat} (ht : t < nt) {τ0 : St} (lm0 : LM τ0 L) (tm0 : TM τ0 nt T) (h57 : τ0.1 57 i = nI t) (h91 : τ0.1 1091 0 = nI i) {x1 : Int32} (hx1 : x1 = 0 ∨ x1 = 1) {k14 : Int32 → Int32 → St → Option (Int32 × St)} {Q : Int32 × St → Prop}
    (kk : ∀ x' τ', ((x' = 1 ∧ (x1 = 1 ∨ 500 < (sps L (T t)).length)) ∨ (x' = 0 ∧ x1 = 0 ∧ (sps L (T t)).length ≤ 500 ∧ FitRow τ' L (T t) i ∧ ∀ q, q < 13 * i → τ'.1 58 q = τ0.1 58 q ∧ τ'.1 59 q = τ0.1 59 q ∧ ∀ j, j < 12 → τ'.1 60 (12 * q + j) = τ0.1 60 (12 * q + j))) → Fr VMf τ0 τ' → ok (k14 x' (nI (i + 1)) τ') Q) :
    ∀ (k fuel b : Nat) (τ : St), 13 - b = k → k < fuel → b ≤ 13 → (∀ j, j < b → τ.1 58 (13 * i + j) = 0) → FrP (fun a j => a = 58 ∧ 13 * i ≤ j) τ0 τ → ok (f_X12_makeFits_29 N k14 fuel x1 (nI i) (nI b) τ) Q := by
  have h40 := hT.1
  have ea : ∀ b, 13 * nI i + nI b = nI (13 * i + b) := fun b => by rw [show (13 : Int32) = nI 13 from rfl, nmul, nadd]
  intro k
  induction k with
  | zero =>
    intro fuel b τ hk hf hb hz f
    obtain ⟨fuel, rfl⟩ : ∃ f, fuel = f + 1 := ⟨fuel - 1, by omega⟩
    have e : b = 13 := by omega
    subst e
    have F : Fr [58] τ0 τ := f.toFr (fun a j h => by rw [h.1]; rfl)
    rw [f_X12_makeFits_29, if_pos (show (13 : Int32) ≤ nI 13 by decide), ib_n (a := i) (by omega), decide_eq_true hi, grd_true, ncl (a := i) (by omega), F.i 57 rfl, h57]
    have go := m_goThrough (N := N) (L := L) (T := T t) (t := t) (most := 500) (kp := true) (K := KF L i τ) hN hL (TOk_t hT ht) (fun _ => KF_ok hN hL hi τ) (by omega) (LM_fr lm0 F rfl) (TM_t (tm0.fr F rfl) h40 ht) (fun _ τ' g => ⟨by rw [g.i 1091 rfl, F.i 1091 rfl]; exact h91, fun b hb => Or.inl ⟨by rw [g.i 58 rfl]; exact hz b (by omega), fun l h => absurd h.1 List.not_mem_nil⟩, fun q _ => ⟨by rw [g.i 58 rfl], by rw [g.i 59 rfl], fun j _ => by rw [g.i 60 rfl]⟩⟩)
    have go' : ok (f_X12_goThrough N (nI t) 500 1 τ) (GoPost L (T t) (KF L i τ) true 500 τ) := go
    refine ok_bd_of go' (fun r τ1 ⟨y1, y2⟩ => ?_)
    have FF : Fr VMf τ0 τ1 := (F.wide rfl).trans (y2.wide rfl)
    unfold f_X12_makeFits_76
    rw [nI_1]
    rcases y1 with ⟨a1, a2, a3⟩ | ⟨a1, a2⟩
    · have a1' : r = nI (sps L (T t)).length := a1
      have ne : ¬ r = -3 := by
        rw [a1']
        intro q
        have := congrArg Int32.toInt q
        rw [nint (by omega)] at this
        simp at this
      rw [if_neg ne]
      rcases hx1 with q | q
      · rw [if_pos q]
        have kf := a3 rfl
        refine kk 0 τ1 (Or.inr ⟨rfl, q, a2, kf.2.1, fun j hj => ?_⟩) FF
        obtain ⟨c1, c2, c3⟩ := kf.2.2 j hj
        have n58 : ∀ a x, ¬ (a = 58 ∧ 13 * i ≤ x) → τ.1 a x = τ0.1 a x := fun a x h => (f a x h).1
        refine ⟨by rw [c1, n58 58 j (by omega)], by rw [c2, n58 59 j (by omega)], fun x hx => ?_⟩
        have := c3 x hx
        rw [this, n58 60 _ (by omega)]
      · rw [if_neg (by rw [q]; decide)]
        exact kk 1 τ1 (Or.inl ⟨rfl, Or.inl q⟩) FF
    · have a1' : r = -3 := a1
      rw [if_pos a1']
      exact kk 1 τ1 (Or.inl ⟨rfl, Or.inr a2⟩) FF
  | succ k ih =>
    intro fuel b τ hk hf hb hz f
    obtain ⟨fuel, rfl⟩ : ∃ f, fuel = f + 1 := ⟨fuel - 1, by omega⟩
    rw [f_X12_makeFits_29, if_neg (show ¬ (13 : Int32) ≤ nI b from nI_ge (b := 13) (by omega) (by omega)), ea, ib_n (by omega), decide_eq_true (show 13 * i + b < 156 by omega), grd_true, ncl (by omega), nI_1]
    refine ih fuel (b + 1) _ (by omega) (by omega) (by omega) (fun j hj => ?_) (f.si _ _ _ ⟨rfl, by omega⟩)
    rw [si_rd, if_pos rfl]
    by_cases e : j = b
    · rw [if_pos (by omega)]
    · rw [if_neg (by omega)]; exact hz j (by omega)
theorem m_mf14 {N : Nat} (hN : 802 < N) {L : Lv} (hL : LOk L) {nt n : Nat} {T : Nat → Tv} (hT : TOk nt T) (hn : n ≤ 12) {u : Nat → Nat} {τ0 : St} (lm0 : LM τ0 L) (tm0 : TM τ0 nt T) (h85 : τ0.1 1085 0 = nI n) (hu : ∀ i, i < n → u i < nt ∧ τ0.1 57 i = nI (u i)) {Q : Int32 × St → Prop}
    (k1 : ∀ τ', (∃ i, i < n ∧ 500 < (sps L (T (u i))).length) → Fr VMf τ0 τ' → Q (-3, τ'))
    (k0 : ∀ τ', (∀ i, i < n → (sps L (T (u i))).length ≤ 500 ∧ FitRow τ' L (T (u i)) i) → Fr VMf τ0 τ' → ok (f_X12_makeFits_100 N N (nI n) τ') Q) :
    ∀ (k fuel i : Nat) (x1 : Int32) (τ : St), n - i = k → k < fuel → i ≤ n → ((x1 = 1 ∧ ∃ i, i < n ∧ 500 < (sps L (T (u i))).length) ∨ (x1 = 0 ∧ ∀ i', i' < i → (sps L (T (u i'))).length ≤ 500 ∧ FitRow τ L (T (u i')) i')) → Fr VMf τ0 τ → ok (f_X12_makeFits_14 N fuel x1 (nI i) τ) Q := by
  intro k
  induction k with
  | zero =>
    intro fuel i x1 τ hk hf hi h f
    obtain ⟨fuel, rfl⟩ : ∃ f, fuel = f + 1 := ⟨fuel - 1, by clear h; omega⟩
    rw [f_X12_makeFits_14, f.i 1085 rfl, h85, if_pos (nI_le (by clear h; omega) (by clear h; omega))]
    rcases h with ⟨h1, h2⟩ | ⟨h1, h2⟩
    · rw [if_neg (by rw [h1]; decide), ok_some]; exact k1 τ h2 f
    · rw [if_pos h1]; exact k0 τ (fun i' hi' => h2 i' (by omega)) f
  | succ k ih =>
    intro fuel i x1 τ hk hf hi h f
    obtain ⟨fuel, rfl⟩ : ∃ f, fuel = f + 1 := ⟨fuel - 1, by clear h; omega⟩
    obtain ⟨u1, u2⟩ := hu i (by clear h; omega)
    have o1 : n - (i + 1) = k ∧ k < fuel ∧ i + 1 ≤ n ∧ i < 12 ∧ i < n := by clear h; omega
    rw [f_X12_makeFits_14, f.i 1085 rfl, h85, if_neg (nI_ge o1.2.2.2.2 (by clear h; omega))]
    have f1 : Fr VMf τ (si τ 1091 0 (nI i)) := (Fr.refl _ _).si _ _ _ rfl
    have F1 : Fr [1091] τ (si τ 1091 0 (nI i)) := (Fr.refl _ _).si _ _ _ rfl
    have ff := f.trans f1
    have w91 : (si τ 1091 0 (nI i)).1 1091 0 = nI i := by rw [si_rd, if_pos rfl, if_pos rfl]
    generalize si τ 1091 0 (nI i) = τ1 at *
    have l29 := m_mf29 (N := N) hN hL hT o1.2.2.2.1 u1 (LM_fr lm0 ff rfl) (tm0.fr ff rfl) (by rw [ff.i 57 rfl]; exact u2) w91 (x1 := x1) (h.imp (fun q => q.1) (fun q => q.1) |>.symm) (k14 := f_X12_makeFits_14 N fuel) (Q := Q) (fun x' τ' q g => ?_) 13 N 0 τ1 (by clear h; omega) (by clear h; omega) (by clear h; omega) (fun j hj => absurd hj (by clear h; omega)) (FrP.refl _ _)
    · exact l29
    · refine ih fuel (i + 1) x' τ' o1.1 o1.2.1 o1.2.2.1 ?_ (ff.trans g)
      rcases q with ⟨q1, q2⟩ | ⟨q1, q2, q3, q4, q5⟩
      · refine Or.inl ⟨q1, ?_⟩
        rcases q2 with q2 | q2
        · rcases h with h | h
          · exact h.2
          · rw [h.1] at q2; exact absurd q2 (by decide)
        · exact ⟨i, o1.2.2.2.2, q2⟩
      · refine Or.inr ⟨q1, fun i' hi' => ?_⟩
        by_cases e : i' = i
        · rw [e]; exact ⟨q3, q4⟩
        · rcases h with h | h
          · rw [h.1] at q2; exact absurd q2 (by decide)
          · obtain ⟨r1, r2⟩ := h.2 i' (by clear h; omega)
            refine ⟨r1, fun b hb => ?_⟩
            have p := q5 (13 * i' + b) (by omega)
            exact (r2 b hb).eq (by rw [p.1, F1.i 58 rfl]) (by rw [p.2.1, F1.i 59 rfl]) (fun j hj => by rw [p.2.2 j hj, F1.i 60 rfl])
/-! the least PAINT with so many squares -/
def lsb (W : Nat → Nat) (rest : Nat → Nat) (m : Nat) : Nat → Nat
  | 0 => 1000000000
  | c + 1 => if c + 1 ≤ m ∧ W (c + 1) ≠ 0 ∧ rest (m - (c + 1)) < 1000000000 then min (lsb W rest m c) (W (c + 1) + rest (m - (c + 1))) else lsb W rest m c
def fl (W : Nat → Nat → Nat) : Nat → Nat → Nat → Nat
  | 0, _, m => if m = 0 then 0 else 1000000000
  | k + 1, i, m => lsb (W i) (fl W k (i + 1)) m 12
theorem lsb_le {W rest : Nat → Nat} {m M : Nat} (hW : ∀ b, b ≤ 12 → W b ≤ 36000) (hr : ∀ x, rest x = 1000000000 ∨ rest x ≤ M) : ∀ c, c ≤ 12 → lsb W rest m c = 1000000000 ∨ lsb W rest m c ≤ 36000 + M := by
  intro c
  induction c with
  | zero => intro _; exact Or.inl rfl
  | succ c ih =>
    intro hc
    rw [lsb]
    have h1 := ih (by omega)
    by_cases q : c + 1 ≤ m ∧ W (c + 1) ≠ 0 ∧ rest (m - (c + 1)) < 1000000000
    · rw [if_pos q]
      have h2 := hr (m - (c + 1))
      have h3 := hW (c + 1) hc
      right
      omega
    · rw [if_neg q]; exact h1
theorem fl_le {W : Nat → Nat → Nat} (hW : ∀ i b, b ≤ 12 → W i b ≤ 36000) : ∀ k i m, fl W k i m = 1000000000 ∨ fl W k i m ≤ 36000 * k := by
  intro k
  induction k with
  | zero =>
    intro i m
    rw [fl]
    by_cases h : m = 0
    · rw [if_pos h]; right; omega
    · rw [if_neg h]; left; rfl
  | succ k ih =>
    intro i m
    rw [fl]
    rcases lsb_le (m := m) (rest := fl W k (i + 1)) (hW i) (fun x => ih (i + 1) x) 12 (Nat.le_refl _) with h | h
    · exact Or.inl h
    · exact Or.inr (by omega)
theorem lsb_congr {W W' rest rest' : Nat → Nat} {m : Nat} (hW : ∀ b, 1 ≤ b → b ≤ 12 → W b = W' b) (hr : ∀ x, x ≤ m → rest x = rest' x) : ∀ c, c ≤ 12 → lsb W rest m c = lsb W' rest' m c := by
  intro c
  induction c with
  | zero => intro _; rfl
  | succ c ih =>
    intro hc
    rw [lsb, lsb, ih (by omega), hW (c + 1) (by omega) hc, hr (m - (c + 1)) (by omega)]
theorem fl_congr {W W' : Nat → Nat → Nat} : ∀ k i m, (∀ i', i ≤ i' → i' < i + k → ∀ b, 1 ≤ b → b ≤ 12 → W i' b = W' i' b) → fl W k i m = fl W' k i m := by
  intro k
  induction k with
  | zero => intro i m _; rfl
  | succ k ih =>
    intro i m h
    rw [fl, fl]
    exact lsb_congr (fun b h1 h2 => h i (Nat.le_refl _) (by omega) b h1 h2) (fun x _ => ih (i + 1) x (fun i' h1 h2 => h i' (by omega) (by omega))) 12 (Nat.le_refl _)
