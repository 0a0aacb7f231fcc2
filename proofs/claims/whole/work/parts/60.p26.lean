/-! SPELLINGS: what fits where -/
theorem sp_inj {f g : Nat → Nat} {n : Nat} (hf : ∀ i, i < n → f i < 16) (hg : ∀ i, i < n → g i < 16) : sp f n = sp g n ↔ ∀ i, i < n → f i = g i := by
  constructor
  · intro h i hi
    rw [← sp_at hf i hi, ← sp_at hg i hi, h]
  · exact sp_congr
theorem sp_mid {f : Nat → Nat} {n : Nat} (hf : ∀ i, i < n → f i < 16) : ∀ c p, p + c ≤ n → sp f n / 16 ^ p % 16 ^ c = sp (fun i => f (p + i)) c := by
  intro c
  induction c with
  | zero => intro p _; rw [Nat.pow_zero, Nat.mod_one]; rfl
  | succ c ih =>
    intro p hp
    rw [Nat.pow_succ, Nat.mod_mul, ih p (by omega), Nat.div_div_eq_div_mul, ← Nat.pow_add, sp_at hf (p + c) (by omega), Nat.mul_comm]
    rfl
def atB (L : Lv) (T : Tv) (s p : Nat) : Bool := decide (L.k s = 1 ∧ p + L.c s ≤ T.n ∧ ∀ i, i < L.c s → L.d s i = T.d (p + i))
def ecB (L : Lv) (T : Tv) (s p : Nat) : Bool := decide (L.c s = 1 ∧ 0 < p ∧ L.d s 0 = T.d (p - 1))
def idB (L : Lv) (T : Tv) (s : Nat) : Bool := decide (L.k s = 2 ∧ L.mn s = T.nm)
def kdB (L : Lv) (T : Tv) (s : Nat) : Bool := decide (L.k s = 3 ∧ L.mn s = T.kd)
def tlB (L : Lv) (T : Tv) (s : Nat) : Bool := decide (L.c s ≤ T.n) && atB L T s (T.n - L.c s)
def b2 (b : Bool) : Int32 := if b = true then 1 else 0
theorem b2_0 (b : Bool) : (b2 b = 0) ↔ b = false := by cases b <;> decide
theorem b2_1 (b : Bool) : (b2 b = 1) ↔ b = true := by cases b <;> decide
theorem b2_z (b : Bool) : zbb (b2 b) = true := by cases b <;> rfl
def TvOk (T : Tv) : Prop := 1 ≤ T.n ∧ T.n ≤ 8 ∧ ∀ i, i < T.n → T.d i < 16
/-- the class's speller looks at T by the list o -/
def SPX (σ : St) (o : Nat) (L : Lv) (T : Tv) : Prop := (o = 1 ∨ o = 2) ∧ σ.1 8601 0 = nI o ∧ LX o σ L ∧ σ.1 8602 0 = nI L.ech ∧ σ.2 8603 0 = T.nm ∧ σ.2 8604 0 = T.kd ∧ σ.1 8605 0 = nI (sp T.d T.n) ∧ σ.1 8606 0 = nI T.n
theorem sgb_n {o : Nat} (h : o = 1 ∨ o = 2) : sgb (nI o) = true := by rcases h with rfl | rfl <;> rfl
theorem x_isIdea {σ : St} {o : Nat} {L : Lv} {T : Tv} (h : SPX σ o L T) (hL : LOk L) {s : Nat} (hs : s < L.n) : f_X7_isIdea (nI s) σ = some (b2 (idB L T s)) := by
  obtain ⟨ho, h1, hx, _, h3, _⟩ := h
  have h40 := hL.1
  have hk := (hL.2.1 s hs).2.2.1
  obtain ⟨_, _, _, a4, _, _, a7⟩ := hx.2.1 s hs
  unfold f_X7_isIdea
  rw [h1, sgb_n ho, ib_n (by omega), decide_eq_true (show s < 40 by omega), ncl (a := o) (by omega), ncl (a := s) (by omega), a4, a7, h3]
  simp only [grd_true]
  unfold idB
  by_cases e : L.k s = 2
  · rw [if_pos (show nI (L.k s) = (2 : Int32) by rw [e]; rfl)]
    by_cases e2 : L.mn s = T.nm
    · rw [if_pos (lg_cmp0.mpr e2), decide_eq_true ⟨e, e2⟩]; rfl
    · rw [if_neg (fun k => e2 (lg_cmp0.mp k)), decide_eq_false (fun k => e2 k.2)]; rfl
  · rw [if_neg (show ¬ nI (L.k s) = (2 : Int32) from fun k => e ((neq (b := 2) (by omega) (by omega)).mp k)), decide_eq_false (fun k => e k.1)]; rfl
theorem x_isOfKind {σ : St} {o : Nat} {L : Lv} {T : Tv} (h : SPX σ o L T) (hL : LOk L) {s : Nat} (hs : s < L.n) : f_X7_isOfKind (nI s) σ = some (b2 (kdB L T s)) := by
  obtain ⟨ho, h1, hx, _, _, h3, _⟩ := h
  have h40 := hL.1
  have hk := (hL.2.1 s hs).2.2.1
  obtain ⟨_, _, _, a4, _, _, a7⟩ := hx.2.1 s hs
  unfold f_X7_isOfKind
  rw [h1, sgb_n ho, ib_n (by omega), decide_eq_true (show s < 40 by omega), ncl (a := o) (by omega), ncl (a := s) (by omega), a4, a7, h3]
  simp only [grd_true]
  unfold kdB
  by_cases e : L.k s = 3
  · rw [if_pos (show nI (L.k s) = (3 : Int32) by rw [e]; rfl)]
    by_cases e2 : L.mn s = T.kd
    · rw [if_pos (lg_cmp0.mpr e2), decide_eq_true ⟨e, e2⟩]; rfl
    · rw [if_neg (fun k => e2 (lg_cmp0.mp k)), decide_eq_false (fun k => e2 k.2)]; rfl
  · rw [if_neg (show ¬ nI (L.k s) = (3 : Int32) from fun k => e ((neq (b := 3) (by omega) (by omega)).mp k)), decide_eq_false (fun k => e k.1)]; rfl
theorem x_hasKind {σ : St} {o : Nat} {L : Lv} {T : Tv} (h : SPX σ o L T) : f_X7_hasKind σ = b2 (decide (T.kd ≠ 0)) := by
  unfold f_X7_hasKind
  rw [h.2.2.2.2.2.1]
  by_cases e : T.kd = 0
  · rw [if_pos (lg_cmp0.mpr e), decide_eq_false (fun k => k e)]; rfl
  · rw [if_neg (fun k => e (lg_cmp0.mp k)), decide_eq_true e]; rfl
theorem mask_c {c : Nat} (hc : c ≤ 3) : (1 <<< ((4 * nI c) &&& 31)) - (1 : Int32) = nI (2 ^ (4 * c) - 1) := by
  have h : ∀ c, c ≤ 3 → (1 <<< ((4 * nI c) &&& 31)) - (1 : Int32) = nI (2 ^ (4 * c) - 1) := by decide +kernel
  exact h c hc
theorem nsub_neg {a b : Nat} (h : a < b) (hb : b < 2147483648) : nI a - nI b < 0 := by
  rw [Int32.lt_iff_toInt_lt, Int32.toInt_sub, nint (by omega), nint hb, show (0 : Int32).toInt = 0 from rfl]
  unfold Int.bmod
  simp only [Nat.reducePow]
  split <;> omega
theorem x_covers {σ : St} {o : Nat} {L : Lv} {T : Tv} (h : SPX σ o L T) (hL : LOk L) (hT : TvOk T) {s p : Nat} (hs : s < L.n) (hp : p < 100) : f_X7_covers (nI s) (nI p) σ = some (b2 (atB L T s p)) := by
  obtain ⟨ho, h1, hx, h2, _, _, h5, h6⟩ := h
  have h40 := hL.1
  have hc3 := LOk_c hL hs
  obtain ⟨_, _, hk, c1, c2, cd⟩ := hL.2.1 s hs
  obtain ⟨t1, t2, t3⟩ := hT
  obtain ⟨_, _, _, _, a5, a6, _⟩ := hx.2.1 s hs
  unfold f_X7_covers
  rw [h1, sgb_n ho, ib_n (by omega), decide_eq_true (show s < 40 by omega), ncl (a := o) (by omega), ncl (a := s) (by omega), a5, a6, h5, h6]
  simp only [grd_true]
  unfold atB
  by_cases e : L.k s = 1
  · have hc := c1 e
    rw [if_neg (show ¬ nI (L.c s) < (1 : Int32) from nI_nlt (b := 1) hc.1 (by omega)), if_neg (nI_pos (by omega)), nadd]
    by_cases e2 : p + L.c s ≤ T.n
    · rw [if_pos (nI_le e2 (by omega)), mask_c hc.2, show (4 : Int32) = nI 4 from rfl, nmul]
      have hlt := sp_lt t3
      have h16 : (16 : Nat) ^ T.n ≤ 16 ^ 8 := Nat.pow_le_pow_right (by omega) t2
      rw [nushr (by omega) (by omega), nand, Nat.and_two_pow_sub_one_eq_mod, Nat.shiftRight_eq_div_pow, Nat.pow_mul, Nat.pow_mul, show (2 : Nat) ^ 4 = 16 from rfl, sp_mid t3 (L.c s) p e2]
      have hl1 := sp_lt (f := fun i => T.d (p + i)) (n := L.c s) (fun i hi => t3 (p + i) (by omega))
      have hl2 := sp_lt cd
      have h163 : (16 : Nat) ^ L.c s ≤ 16 ^ 3 := Nat.pow_le_pow_right (by omega) hc.2
      have hiff : (nI (sp (fun i => T.d (p + i)) (L.c s)) = nI (sp (L.d s) (L.c s))) ↔ ∀ i, i < L.c s → L.d s i = T.d (p + i) := by
        rw [neq (by omega) (by omega), sp_inj (fun i hi => t3 (p + i) (by omega)) cd]
        exact ⟨fun q i hi => (q i hi).symm, fun q i hi => (q i hi).symm⟩
      by_cases e3 : ∀ i, i < L.c s → L.d s i = T.d (p + i)
      · rw [if_pos (hiff.mpr e3), decide_eq_true ⟨e, e2, e3⟩]; rfl
      · rw [if_neg (fun q => e3 (hiff.mp q)), decide_eq_false (fun q => e3 q.2.2)]; rfl
    · rw [if_neg (nI_ge (by omega) (by omega)), decide_eq_false (fun q => e2 q.2.1)]; rfl
  · rw [c2 e, if_pos (show nI 0 < (1 : Int32) by decide), decide_eq_false (fun q => e q.1)]; rfl
theorem x_covers_neg {σ : St} {o : Nat} {L : Lv} {T : Tv} (h : SPX σ o L T) (hL : LOk L) {s : Nat} (hs : s < L.n) {x : Int32} (hx : x < 0) : f_X7_covers (nI s) x σ = some 0 := by
  obtain ⟨ho, h1, hx', h2, _, _, h5, h6⟩ := h
  have h40 := hL.1
  unfold f_X7_covers
  rw [h1, sgb_n ho, ib_n (by omega), decide_eq_true (show s < 40 by omega)]
  simp only [grd_true]
  rw [if_pos hx]
  split <;> rfl
theorem x_isTail {σ : St} {o : Nat} {L : Lv} {T : Tv} (h : SPX σ o L T) (hL : LOk L) (hT : TvOk T) {s : Nat} (hs : s < L.n) : f_X7_isTail (nI s) σ = some (b2 (tlB L T s)) := by
  have h40 := hL.1
  have hc3 := LOk_c hL hs
  unfold f_X7_isTail
  obtain ⟨ho, h1, hx, h2, h3, h4, h5, h6⟩ := h
  obtain ⟨_, _, _, _, a5, a6, _⟩ := hx.2.1 s hs
  have h : SPX σ o L T := ⟨ho, h1, hx, h2, h3, h4, h5, h6⟩
  rw [h1, sgb_n ho, ib_n (by omega), decide_eq_true (show s < 40 by omega), ncl (a := o) (by omega), ncl (a := s) (by omega), a5, h6]
  simp only [grd_true]
  have t2 := hT.2.1
  unfold tlB
  by_cases e : L.c s ≤ T.n
  · rw [nsub e, x_covers h hL hT hs (by omega), bo_some, b2_z, grd_true, decide_eq_true e, Bool.true_and]
  · have hneg : nI T.n - nI (L.c s) < 0 := nsub_neg (by omega) (by omega)
    rw [x_covers_neg h hL hs hneg, bo_some, decide_eq_false e, Bool.false_and]; rfl
