/-! the fewest BLOCKS of a row -/
theorem sh_congr {L : Lv} {g g' : Nat → Nat} {a sh : Nat} (hsh : sh < 11) (h : ∀ i, a ≤ i → i < a + szS sh → g i = g' i) : shW L g a sh = shW L g' a sh ∧ shH L g a sh = shH L g' a sh := by
  rcases (show sh = 0 ∨ sh = 1 ∨ sh = 2 ∨ sh = 3 ∨ sh = 4 ∨ sh = 5 ∨ sh = 6 ∨ sh = 7 ∨ sh = 8 ∨ sh = 9 ∨ sh = 10 by omega) with rfl | rfl | rfl | rfl | rfl | rfl | rfl | rfl | rfl | rfl | rfl
  · have h0 := h a (by omega) (by show a < a + 1; omega)
    simp only [shW, shH, h0, and_self]
  · have h0 := h a (by omega) (by show a < a + 2; omega)
    have h1 := h (a + 1) (by omega) (by show (a + 1) < a + 2; omega)
    simp only [shW, shH, h0, h1, and_self]
  · have h0 := h a (by omega) (by show a < a + 2; omega)
    have h1 := h (a + 1) (by omega) (by show (a + 1) < a + 2; omega)
    simp only [shW, shH, h0, h1, and_self]
  · have h0 := h a (by omega) (by show a < a + 3; omega)
    have h1 := h (a + 1) (by omega) (by show (a + 1) < a + 3; omega)
    have h2 := h (a + 2) (by omega) (by show (a + 2) < a + 3; omega)
    simp only [shW, shH, h0, h1, h2, and_self]
  · have h0 := h a (by omega) (by show a < a + 3; omega)
    have h1 := h (a + 1) (by omega) (by show (a + 1) < a + 3; omega)
    have h2 := h (a + 2) (by omega) (by show (a + 2) < a + 3; omega)
    simp only [shW, shH, h0, h1, h2, and_self]
  · have h0 := h a (by omega) (by show a < a + 3; omega)
    have h1 := h (a + 1) (by omega) (by show (a + 1) < a + 3; omega)
    have h2 := h (a + 2) (by omega) (by show (a + 2) < a + 3; omega)
    simp only [shW, shH, h0, h1, h2, and_self]
  · have h0 := h a (by omega) (by show a < a + 3; omega)
    have h1 := h (a + 1) (by omega) (by show (a + 1) < a + 3; omega)
    have h2 := h (a + 2) (by omega) (by show (a + 2) < a + 3; omega)
    simp only [shW, shH, h0, h1, h2, and_self]
  · have h0 := h a (by omega) (by show a < a + 3; omega)
    have h1 := h (a + 1) (by omega) (by show (a + 1) < a + 3; omega)
    have h2 := h (a + 2) (by omega) (by show (a + 2) < a + 3; omega)
    simp only [shW, shH, h0, h1, h2, and_self]
  · have h0 := h a (by omega) (by show a < a + 3; omega)
    have h1 := h (a + 1) (by omega) (by show (a + 1) < a + 3; omega)
    have h2 := h (a + 2) (by omega) (by show (a + 2) < a + 3; omega)
    simp only [shW, shH, h0, h1, h2, and_self]
  · have h0 := h a (by omega) (by show a < a + 4; omega)
    have h1 := h (a + 1) (by omega) (by show (a + 1) < a + 4; omega)
    have h2 := h (a + 2) (by omega) (by show (a + 2) < a + 4; omega)
    have h3 := h (a + 3) (by omega) (by show (a + 3) < a + 4; omega)
    simp only [shW, shH, h0, h1, h2, h3, and_self]
  · have h0 := h a (by omega) (by show a < a + 4; omega)
    have h1 := h (a + 1) (by omega) (by show (a + 1) < a + 4; omega)
    have h2 := h (a + 2) (by omega) (by show (a + 2) < a + 4; omega)
    have h3 := h (a + 3) (by omega) (by show (a + 3) < a + 4; omega)
    simp only [shW, shH, h0, h1, h2, h3, and_self]
theorem lgb_congr {L : Lv} {g g' : Nat → Nat} {a sh : Nat} (h : ∀ i, a ≤ i → i < a + szS sh → g i = g' i) (k : lgb L g a sh) : lgb L g' a sh := by
  have e := sh_congr (L := L) k.1 h
  refine ⟨k.1, ?_⟩
  rw [← e.1, ← e.2]; exact k.2
theorem hasG_le {L : Lv} {g : Nat → Nat} : ∀ {b i j : Nat}, hasG L g b i j → i + b ≤ j := by
  intro b
  induction b with
  | zero => intro i j h; have e : i = j := h; omega
  | succ b ih =>
    intro i j h
    obtain ⟨sh, h1, h2, h3⟩ := h
    have := ih h3
    have := szS_pos sh h1.1
    omega
theorem hasG_congr {L : Lv} {g g' : Nat → Nat} {j : Nat} (h : ∀ i, i < j → g i = g' i) : ∀ {b i : Nat}, hasG L g b i j → hasG L g' b i j := by
  intro b
  induction b with
  | zero => intro i k; exact k
  | succ b ih =>
    intro i k
    obtain ⟨sh, h1, h2, h3⟩ := k
    exact ⟨sh, lgb_congr (fun q _ hq => h q (by omega)) h1, h2, ih h3⟩
theorem hasG_snoc {L : Lv} {g : Nat → Nat} : ∀ {b i j : Nat}, hasG L g (b + 1) i j ↔ ∃ m sh, hasG L g b i m ∧ lgb L g m sh ∧ j = m + szS sh := by
  intro b
  induction b with
  | zero =>
    intro i j
    constructor
    · rintro ⟨sh, h1, h2, h3⟩
      have e : i + szS sh = j := h3
      exact ⟨i, sh, rfl, h1, e.symm⟩
    · rintro ⟨m, sh, h1, h2, h3⟩
      have e : i = m := h1
      subst e
      exact ⟨sh, h2, by omega, h3.symm⟩
  | succ b ih =>
    intro i j
    constructor
    · rintro ⟨sh, h1, h2, h3⟩
      obtain ⟨m, sh', a1, a2, a3⟩ := ih.mp h3
      exact ⟨m, sh', ⟨sh, h1, by have := hasG_le a1; omega, a1⟩, a2, a3⟩
    · rintro ⟨m, sh', ⟨sh, h1, h2, a1⟩, a2, a3⟩
      exact ⟨sh, h1, by have := hasG_le a1; omega, ih.mpr ⟨m, sh', a1, a2, a3⟩⟩
theorem lgb_iff {L : Lv} {g : Nat → Nat} {a sh : Nat} (h : sh < 11) : ¬ lgb L g a sh ↔ pcS L (max (shW L g a sh) (shH L g a sh)) < nI L.lst := by
  unfold lgb
  constructor
  · intro q
    exact Int32.not_le.mp (fun r => q ⟨h, r⟩)
  · intro q r
    exact Int32.not_le.mpr q r.2
/-! the reference's groups -/
def FwM (L : Lv) (g : Nat → Nat) (τ : St) (n i : Nat) : Prop := (τ.1 52 i = nI 1000000000 ∧ ∀ b, ¬ hasG L g b i n) ∨ ∃ v, τ.1 52 i = nI v ∧ hasG L g v i n ∧ ∀ b, hasG L g b i n → v ≤ b
def PG (L : Lv) (g : Nat → Nat) (n p sh b : Nat) : Prop := (b = 0 ∧ p = n) ∨ ∃ x b', x < sh ∧ b = b' + 1 ∧ lgb L g p x ∧ p + szS x ≤ n ∧ hasG L g b' (p + szS x) n
def RG (L : Lv) (g : Nat → Nat) (τ : St) (n p sh : Nat) : Prop := (τ.1 52 p = nI 1000000000 ∧ ∀ b, ¬ PG L g n p sh b) ∨ ∃ v, τ.1 52 p = nI v ∧ PG L g n p sh v ∧ ∀ b, PG L g n p sh b → v ≤ b
theorem PG_up {L : Lv} {g : Nat → Nat} {n p sh b : Nat} (h : PG L g n p sh b) : PG L g n p (sh + 1) b := by
  rcases h with h | ⟨x, b', h1, h2⟩
  · exact Or.inl h
  · exact Or.inr ⟨x, b', by omega, h2⟩
theorem PG_no {L : Lv} {g : Nat → Nat} {n p sh b : Nat} (q : ¬ (lgb L g p sh ∧ p + szS sh ≤ n ∧ ∃ b', hasG L g b' (p + szS sh) n)) (h : PG L g n p (sh + 1) b) : PG L g n p sh b := by
  rcases h with h | ⟨x, b', h1, h2, h3, h4, h5⟩
  · exact Or.inl h
  · by_cases e : x = sh
    · subst e; exact absurd ⟨h3, h4, b', h5⟩ q
    · exact Or.inr ⟨x, b', by omega, h2, h3, h4, h5⟩
theorem PG_all {L : Lv} {g : Nat → Nat} {n p b : Nat} : PG L g n p 11 b ↔ hasG L g b p n := by
  constructor
  · rintro (⟨h1, h2⟩ | ⟨x, b', h1, h2, h3, h4, h5⟩)
    · rw [h1]; exact h2
    · rw [h2]; exact ⟨x, h3, h4, h5⟩
  · intro h
    cases b with
    | zero => exact Or.inl ⟨rfl, h⟩
    | succ b => obtain ⟨sh, h1, h2, h3⟩ := h; exact Or.inr ⟨sh, b, h1.1, rfl, h1, h2, h3⟩
theorem PG_le {L : Lv} {g : Nat → Nat} {n p sh b : Nat} (h : PG L g n p sh b) : p + b ≤ n := by
  rcases h with ⟨h1, h2⟩ | ⟨x, b', h1, h2, h3, h4, h5⟩
  · omega
  · have := hasG_le h5
    have := szS_pos x h3.1
    omega
theorem RG_no {L : Lv} {g : Nat → Nat} {τ : St} {n p sh : Nat} (h : RG L g τ n p sh) (q : ¬ (lgb L g p sh ∧ p + szS sh ≤ n ∧ ∃ b', hasG L g b' (p + szS sh) n)) : RG L g τ n p (sh + 1) := by
  rcases h with ⟨h1, h2⟩ | ⟨v, h1, h2, h3⟩
  · exact Or.inl ⟨h1, fun b k => h2 b (PG_no q k)⟩
  · exact Or.inr ⟨v, h1, PG_up h2, fun b k => h3 b (PG_no q k)⟩
theorem m_gr34 {r rn N : Nat} (hr : ([52, 53, 54] : List Nat).contains r = false) (hrn : rn < 25) {L : Lv} (hL : LOk L) {g : Nat → Nat} {n p : Nat} (hn : n ≤ rn) (hp : p ≤ n) {k2 : Int32 → Int32 → St → Option (Int32 × St)} {τ0 : St} : ∀ (k fuel sh : Nat) (τ : St), 11 - sh = k → k < fuel → sh ≤ 11 → LM τ L → (∀ i, i < n → g i < L.n ∧ τ.1 r i = nI (g i)) → (∀ q, p < q → q ≤ n → FwM L g τ n q) → RG L g τ n p sh → Fr [52, 53, 54] τ0 τ →
    ∃ τ', f_X12_groups_34 r rn N k2 fuel (nI n) (nI p) (nI sh) τ = k2 (nI n) (nI p + -1) τ' ∧ (∀ q, p ≤ q → q ≤ n → FwM L g τ' n q) ∧ Fr [52, 53, 54] τ0 τ' := by
  intro k
  induction k with
  | zero =>
    intro fuel sh τ hk hf hs lm hg en rg f
    obtain ⟨fuel, rfl⟩ : ∃ f, fuel = f + 1 := ⟨fuel - 1, by omega⟩
    have e : sh = 11 := by omega
    subst e
    refine ⟨τ, ?_, fun q h1 h2 => ?_, f⟩
    · rw [f_X12_groups_34, if_pos (show (11 : Int32) ≤ nI 11 by decide)]
    · by_cases eq : q = p
      · subst eq
        rcases rg with ⟨a, b⟩ | ⟨v, a, b, c⟩
        · exact Or.inl ⟨a, fun x h => b x (PG_all.mpr h)⟩
        · exact Or.inr ⟨v, a, PG_all.mp b, fun x h => c x (PG_all.mpr h)⟩
      · exact en q (by omega) h2
  | succ k ih =>
    intro fuel sh τ hk hf hs lm hg en rg f
    obtain ⟨fuel, rfl⟩ : ∃ f, fuel = f + 1 := ⟨fuel - 1, by omega⟩
    have hs11 : sh < 11 := by omega
    obtain ⟨z1, z4⟩ := szS_pos sh hs11
    have o1 : 11 - (sh + 1) = k ∧ k < fuel ∧ sh + 1 ≤ 11 := by omega
    have skip : RG L g τ n p (sh + 1) → _ := fun h => ih fuel (sh + 1) τ o1.1 o1.2.1 o1.2.2 lm hg en h f
    rw [f_X12_groups_34, if_neg (show ¬ (11 : Int32) ≤ nI sh from nI_ge (b := 11) (by omega) (by omega)), ib_n (a := sh) (by omega), show xtl.getD 9 0 = 11 from rfl, decide_eq_true hs11, grd_true, ncl (a := sh) (by omega), xtb_at hs11, nI_1]
    by_cases h1 : n < p + szS sh
    · rw [if_pos (nI_lt h1 (by omega))]
      exact skip (RG_no rg (fun q => by have := q.2.1; omega))
    · rw [if_neg (nI_nlt (by omega) (by omega)), ib_n (a := p + szS sh) (by omega), decide_eq_true (show p + szS sh < 25 by omega), ncl (a := p + szS sh) (by omega)]
      simp only [grd_true]
      rcases en (p + szS sh) (by omega) (by omega) with ⟨a1, a2⟩ | ⟨c, c1, c2, c3⟩
      · rw [a1, if_neg (show ¬ nI 1000000000 < (1000000000 : Int32) by decide)]
        exact skip (RG_no rg (fun q => by obtain ⟨b', hb⟩ := q.2.2; exact a2 b' hb))
      · have cn := hasG_le c2
        have e2 := m_percentOf (r := r) (rn := rn) hL lm hs11 (by omega) (by omega) (g := g) (a := p) (fun i h2 h3 => hg i (by omega))
        have el : τ.1 2 2 = nI L.lst := lm.2.2.2.2.1
        rw [c1, if_pos (show nI c < (1000000000 : Int32) from nI_lt (b := 1000000000) (by omega) (by omega)), e2, bo_some, el, show ib 2 8 = true from rfl, show (1 : Int32) + nI c = nI (c + 1) by rw [show (1 : Int32) = nI 1 from rfl, nadd, Nat.add_comm]]
        simp only [grd_true]
        by_cases hl : lgb L g p sh
        · rw [if_neg (fun q => (lgb_iff hs11).mpr q hl), ib_n (a := p) (by omega), decide_eq_true (show p < 25 by omega), ncl (a := p) (by omega)]
          simp only [grd_true]
          have new : PG L g n p (sh + 1) (c + 1) := Or.inr ⟨sh, c, by omega, rfl, hl, by omega, c2⟩
          have least : ∀ b, PG L g n p (sh + 1) b → PG L g n p sh b ∨ c + 1 ≤ b := fun b h => by
            rcases h with h | ⟨x, b', q1, q2, q3, q4, q5⟩
            · exact Or.inl (Or.inl h)
            · by_cases e : x = sh
              · subst e; have := c3 b' q5; exact Or.inr (by omega)
              · exact Or.inl (Or.inr ⟨x, b', by omega, q2, q3, q4, q5⟩)
          have take : ∀ (x8 : Int32), (∀ b, PG L g n p sh b → c + 1 ≤ b) → ∃ τ', f_X12_groups_158 r rn N k2 (f_X12_groups_34 r rn N k2 fuel) (nI n) (nI p) (nI sh) (nI (c + 1)) x8 τ = k2 (nI n) (nI p + -1) τ' ∧ (∀ q, p ≤ q → q ≤ n → FwM L g τ' n q) ∧ Fr [52, 53, 54] τ0 τ' := by
            intro x8 hm
            unfold f_X12_groups_158
            rw [ib_n (a := p) (by omega), decide_eq_true (show p < 25 by omega), ncl (a := p) (by omega), nI_1]
            simp only [grd_true]
            have F1 : Fr [52, 53, 54] τ (si (si (si τ 52 p (nI (c + 1))) 53 p x8) 54 p (nI sh)) := (((Fr.refl _ _).si _ _ _ rfl).si _ _ _ rfl).si _ _ _ rfl
            have r0 : ∀ j, (si (si (si τ 52 p (nI (c + 1))) 53 p x8) 54 p (nI sh)).1 52 j = if j = p then nI (c + 1) else τ.1 52 j := fun j => by simp only [si_rd, reduceIte, Nat.reduceEqDiff]
            generalize si (si (si τ 52 p (nI (c + 1))) 53 p x8) 54 p (nI sh) = τ1 at *
            refine ih fuel (sh + 1) τ1 o1.1 o1.2.1 o1.2.2 (LM_fr lm F1 rfl) (fun i hi => ⟨(hg i hi).1, by rw [F1.i r hr]; exact (hg i hi).2⟩) (fun q h1 h2 => ?_) (Or.inr ⟨c + 1, by rw [r0, if_pos rfl], new, fun b h => (least b h).elim (hm b) id⟩) (f.trans F1)
            have := en q h1 h2
            unfold FwM at this ⊢
            rw [r0, if_neg (by omega)]; exact this
          rcases rg with ⟨a1, a2⟩ | ⟨v, a1, a2, a3⟩
          · rw [a1, if_neg (nI_nlt (by omega) (by omega)), if_neg (fun q => by have := (neq (by omega) (by omega)).mp q; omega)]
            exact take _ (fun b h => absurd h (a2 b))
          · have vn := PG_le a2
            rw [a1]
            by_cases q1 : v < c + 1
            · rw [if_pos (nI_lt q1 (by omega))]
              exact skip (Or.inr ⟨v, a1, PG_up a2, fun b h => (least b h).elim (a3 b) (fun h => by omega)⟩)
            · rw [if_neg (nI_nlt (by omega) (by omega))]
              have tk : ∀ b, PG L g n p sh b → c + 1 ≤ b := fun b h => by have := a3 b h; omega
              by_cases q2 : c + 1 = v
              · rw [if_pos (by rw [q2])]
                have kp : RG L g τ n p (sh + 1) := Or.inr ⟨v, a1, PG_up a2, fun b h => (least b h).elim (a3 b) (fun h => by omega)⟩
                by_cases q3 : τ.1 53 p < pcS L (max (shW L g p sh) (shH L g p sh)) + τ.1 53 (p + szS sh)
                · rw [if_pos q3]; exact take _ tk
                · rw [if_neg q3]; exact skip kp
              · rw [if_neg (fun q => q2 ((neq (by omega) (by omega)).mp q))]
                exact take _ tk
        · rw [if_pos ((lgb_iff hs11).mp hl)]
          exact skip (RG_no rg (fun q => hl q.1))
theorem m_groups {r rn N : Nat} (hN : 802 < N) (hr : ([52, 53, 54] : List Nat).contains r = false) (hrn : rn < 25) {L : Lv} (hL : LOk L) {g : Nat → Nat} {n : Nat} (hn : n ≤ rn) {τ0 : St} (lm0 : LM τ0 L) (hg0 : ∀ i, i < n → g i < L.n ∧ τ0.1 r i = nI (g i)) : ok (f_X12_groups r rn N (nI n) τ0) (fun a => ((a.1 = nI 1000000000 ∧ ∀ b, ¬ hasG L g b 0 n) ∨ ∃ v, a.1 = nI v ∧ hasG L g v 0 n ∧ ∀ b, hasG L g b 0 n → v ≤ b) ∧ Fr [52, 53, 54] τ0 a.2) := by
  have key : ∀ (m fuel : Nat) (τ : St), m ≤ n + 1 → m < fuel → (∀ q, m ≤ q → q ≤ n → FwM L g τ n q) → Fr [52, 53, 54] τ0 τ → ok (f_X12_groups_2 r rn N fuel (nI n) (nI m + -1) τ) (fun a => ((a.1 = nI 1000000000 ∧ ∀ b, ¬ hasG L g b 0 n) ∨ ∃ v, a.1 = nI v ∧ hasG L g v 0 n ∧ ∀ b, hasG L g b 0 n → v ≤ b) ∧ Fr [52, 53, 54] τ0 a.2) := by
    intro m
    induction m with
    | zero =>
      intro fuel τ hm hf en f
      obtain ⟨fuel, rfl⟩ : ∃ f, fuel = f + 1 := ⟨fuel - 1, by omega⟩
      rw [f_X12_groups_2, if_pos (show nI 0 + -1 < (0 : Int32) by decide), show ib 0 25 = true from rfl, grd_true, ok_some]
      exact ⟨en 0 (by omega) (by omega), f⟩
    | succ m ih =>
      intro fuel τ hm hf en f
      obtain ⟨fuel, rfl⟩ : ∃ f, fuel = f + 1 := ⟨fuel - 1, by omega⟩
      have o1 : m ≤ n + 1 ∧ m < fuel ∧ m ≤ n ∧ m < 25 ∧ m < 2147483648 := by omega
      rw [nI_back, f_X12_groups_2, if_neg (show ¬ nI m < (0 : Int32) from nI_nlt (b := 0) (by omega) (by omega))]
      have fin : ∀ (v : Int32), (v = 0 ∧ m = n) ∨ (v = 1000000000 ∧ m ≠ n) → ok (f_X12_groups_23 r rn N (f_X12_groups_2 r rn N fuel) (nI n) (nI m) (nI m) v τ) (fun a => ((a.1 = nI 1000000000 ∧ ∀ b, ¬ hasG L g b 0 n) ∨ ∃ v, a.1 = nI v ∧ hasG L g v 0 n ∧ ∀ b, hasG L g b 0 n → v ≤ b) ∧ Fr [52, 53, 54] τ0 a.2) := by
        intro v hv
        unfold f_X12_groups_23
        rw [ib_n (a := m) o1.2.2.2.2, decide_eq_true o1.2.2.2.1, ncl (a := m) o1.2.2.2.2]
        simp only [grd_true]
        have F1 : Fr [52, 53, 54] τ (si (si τ 52 m v) 53 m 0) := ((Fr.refl _ _).si _ _ _ rfl).si _ _ _ rfl
        have r0 : ∀ j, (si (si τ 52 m v) 53 m 0).1 52 j = if j = m then v else τ.1 52 j := fun j => by simp only [si_rd, reduceIte, Nat.reduceEqDiff]
        generalize si (si τ 52 m v) 53 m 0 = τ1 at *
        have F0 : Fr [52, 53, 54] τ0 τ1 := f.trans F1
        obtain ⟨τ2, e2, en2, f2⟩ := m_gr34 (r := r) (rn := rn) (N := N) (p := m) (n := n) (g := g) (k2 := f_X12_groups_2 r rn N fuel) hr hrn hL hn o1.2.2.1 11 N 0 τ1 (by omega) (by omega) (by omega) (LM_fr lm0 F0 rfl) (fun i hi => ⟨(hg0 i hi).1, by rw [F0.i r hr]; exact (hg0 i hi).2⟩) (fun q h1 h2 => by
          have := en q (by omega) h2
          unfold FwM at this ⊢
          rw [r0, if_neg (by omega)]; exact this) (by
          unfold RG
          rw [r0, if_pos rfl]
          rcases hv with ⟨q1, q2⟩ | ⟨q1, q2⟩
          · refine Or.inr ⟨0, by rw [q1]; rfl, Or.inl ⟨rfl, q2⟩, fun b _ => Nat.zero_le _⟩
          · refine Or.inl ⟨by rw [q1]; rfl, fun b h => ?_⟩
            rcases h with ⟨_, h⟩ | ⟨x, b', h, _⟩
            · exact q2 h
            · omega) (Fr.refl _ _)
        have e2' : f_X12_groups_34 r rn N (f_X12_groups_2 r rn N fuel) N (nI n) (nI m) 0 τ1 = f_X12_groups_2 r rn N fuel (nI n) (nI m + -1) τ2 := e2
        rw [e2']
        exact ih fuel τ2 o1.1 o1.2.1 en2 (F0.trans f2)
      by_cases e : m = n
      · rw [if_pos (by rw [e])]; exact fin 0 (Or.inl ⟨rfl, e⟩)
      · rw [if_neg (fun q => e ((neq (by omega) (by omega)).mp q))]; exact fin 1000000000 (Or.inr ⟨rfl, e⟩)
  unfold f_X12_groups
  have := key (n + 1) N τ0 (Nat.le_refl _) (by omega) (fun q h1 h2 => absurd h1 (by omega)) (Fr.refl _ _)
  rw [nI_back] at this
  exact this
