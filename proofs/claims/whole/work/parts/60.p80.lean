/-! fill, the reference: a SPELLING comes -/
def FitP (τ : St) (q : Nat) (L : Lv) (P : List Nat → Prop) : Prop := (τ.1 58 q = 0 ∧ ∀ l, ¬ P l) ∨ (∃ l, P l ∧ GL L l ∧ 1 ≤ l.length ∧ τ.1 58 q = nI (pnt L l) ∧ τ.1 59 q = nI l.length ∧ (∀ j, j < l.length → τ.1 60 (12 * q + j) = nI (gl l j)) ∧ ∀ l', P l' → kle L l l')
def KF (L : Lv) (i : Nat) (τ0 τ : St) (P : List (List Nat)) : Prop := τ.1 1091 0 = nI i ∧ (∀ b, b < 13 → FitP τ (13 * i + b) L (fun l => l ∈ P ∧ Bk L l b)) ∧ (∀ q, q < 13 * i → τ.1 58 q = τ0.1 58 q ∧ τ.1 59 q = τ0.1 59 q ∧ ∀ j, j < 12 → τ.1 60 (12 * q + j) = τ0.1 60 (12 * q + j))
theorem Bk_uni {L : Lv} {l : List Nat} {a b : Nat} (h : Bk L l a) (k : Bk L l b) : a = b := by
  have h1 := h.2 b k.1
  have h2 := k.2 a h.1
  omega
theorem FitP.iff {τ : St} {q : Nat} {L : Lv} {P Q : List Nat → Prop} (h : FitP τ q L P) (e : ∀ l, P l ↔ Q l) : FitP τ q L Q := by
  have : P = Q := funext fun l => propext (e l)
  rw [← this]; exact h
theorem FitP.eq {τ τ' : St} {q : Nat} {L : Lv} {P : List Nat → Prop} (h : FitP τ q L P) (e1 : τ'.1 58 q = τ.1 58 q) (e2 : τ'.1 59 q = τ.1 59 q) (e3 : ∀ j, j < 12 → τ'.1 60 (12 * q + j) = τ.1 60 (12 * q + j)) : FitP τ' q L P := by
  rcases h with ⟨h1, h2⟩ | ⟨l, h1, h2, h3, h4, h5, h6, h7⟩
  · exact Or.inl ⟨by rw [e1]; exact h1, h2⟩
  · exact Or.inr ⟨l, h1, h2, h3, by rw [e1]; exact h4, by rw [e2]; exact h5, fun j hj => by rw [e3 j (by have := h2.1; omega)]; exact h6 j hj, h7⟩
theorem cde_first : ∀ {a b : List Nat} (i : Nat), a.length = b.length → i < a.length → (∀ j, j < i → gl a j = gl b j) → gl a i < gl b i → (∀ s, s ∈ a → s < 64) → cde a < cde b := by
  intro a
  induction a with
  | nil => intro b i _ h; exact absurd h (by show ¬ i < 0; omega)
  | cons s a ih =>
    intro b i hl hi hp hlt h64
    cases b with
    | nil => cases hl
    | cons t b =>
      have hl' : a.length = b.length := by simpa using hl
      have A := cde_lt (fun x hx => h64 x (List.mem_cons_of_mem _ hx))
      rw [cde, cde, ← hl']
      cases i with
      | zero =>
        have st : s < t := hlt
        have := Nat.mul_le_mul_right (64 ^ a.length) (show s + 1 ≤ t from st)
        rw [Nat.add_mul, Nat.one_mul] at this
        omega
      | succ i =>
        have st : s = t := hp 0 (by omega)
        have := ih (b := b) i hl' (by rw [List.length_cons] at hi; omega) (fun j hj => hp (j + 1) (by omega)) hlt (fun x hx => h64 x (List.mem_cons_of_mem _ hx))
        rw [st]; omega
theorem gl_ext {a b : List Nat} (hl : a.length = b.length) (h : ∀ j, j < a.length → gl a j = gl b j) : a = b := by
  apply List.ext_getElem hl
  intro j h1 h2
  have e := h j h1
  have e1 : gl a j = a[j] := by
    show a.getD j 0 = _
    rw [List.getD_eq_getElem?_getD, List.getElem?_eq_getElem h1]; rfl
  have e2 : gl b j = b[j] := by
    show b.getD j 0 = _
    rw [List.getD_eq_getElem?_getD, List.getElem?_eq_getElem h2]; rfl
  rw [← e1, ← e2]; exact e
theorem pnt_take {L : Lv} : ∀ (l : List Nat) (j : Nat), j < l.length → pnt L (l.take (j + 1)) = pnt L (l.take j) + L.w (gl l j) * L.h (gl l j) := by
  intro l
  induction l with
  | nil => intro j h; exact absurd h (by show ¬ j < 0; omega)
  | cons s l ih =>
    intro j h
    cases j with
    | zero => show L.w s * L.h s + pnt L (l.take 0) = pnt L [] + L.w s * L.h s; rw [List.take_zero]; show _ + 0 = 0 + _; omega
    | succ j =>
      rw [List.take_succ_cons, List.take_succ_cons, pnt, pnt, ih j (by rw [List.length_cons] at h; omega)]
      have : gl (s :: l) (j + 1) = gl l j := rfl
      rw [this]; omega
theorem pnt_pos {L : Lv} (hL : LOk L) {l : List Nat} (h : GL L l) (h1 : 1 ≤ l.length) : 1 ≤ pnt L l := by
  cases l with
  | nil => exact absurd h1 (by decide)
  | cons s l => have := paint_lt hL (h.2 s List.mem_cons_self); rw [pnt]; omega
theorem m_sc37 {N : Nat} {L : Lv} (hL : LOk L) {l : List Nat} (hl : GL L l) {τ : St} (lm : LM τ L) (h60 : τ.1 1060 0 = nI l.length) (rs : RowS τ l) (x3 : Int32) : ∀ (k fuel j : Nat), l.length - j = k → k < fuel → j ≤ l.length → f_X12_spellingComes_37 N fuel x3 (nI (pnt L (l.take j))) (nI j) τ = f_X12_spellingComes_37 N (fuel - k) x3 (nI (pnt L l)) (nI l.length) τ := by
  have h40 := hL.1
  have h10 := hl.1
  intro k
  induction k with
  | zero =>
    intro fuel j hk hf hj
    have e : j = l.length := by omega
    subst e
    rw [List.take_length]; rfl
  | succ k ih =>
    intro fuel j hk hf hj
    obtain ⟨fuel, rfl⟩ : ∃ f, fuel = f + 1 := ⟨fuel - 1, by omega⟩
    have hg := hl.2 _ (gl_mem (show j < l.length by omega))
    rw [f_X12_spellingComes_37, h60, if_neg (nI_ge (by omega) (by omega)), ib_n (a := j) (by omega), decide_eq_true (show j < 12 by omega), grd_true, ncl (a := j) (by omega), rs j (by omega), m_paint hL lm hg, bo_some, nadd, ← pnt_take l j (by omega), nI_1, ih fuel (j + 1) (by omega) (by omega) (by omega)]
    congr 1
    omega
theorem m_sc151 {N : Nat} {L : Lv} {l l0 : List Nat} (hl : l.length ≤ 10) (hl0 : l0.length = l.length) (h64 : ∀ s, s ∈ l → s < 64) (h640 : ∀ s, s ∈ l0 → s < 64) {q : Nat} (hq : q < 156) {τ : St} (h60 : τ.1 1060 0 = nI l.length) (rs : RowS τ l) (r0 : ∀ j, j < l0.length → τ.1 60 (12 * q + j) = nI (gl l0 j)) (x4 : Int32) : ∀ (k fuel j : Nat), l.length - j = k → k < fuel → j ≤ l.length → (∀ i, i < j → gl l i = gl l0 i) → f_X12_spellingComes_151 N fuel (nI q) x4 (nI j) τ = f_X12_spellingComes_226 N (nI q) x4 (if cde l < cde l0 then 1 else 0) τ := by
  intro k
  have ea : ∀ j, 12 * nI q + nI j = nI (12 * q + j) := fun j => by rw [show (12 : Int32) = nI 12 from rfl, nmul, nadd]
  induction k with
  | zero =>
    intro fuel j hk hf hj hp
    obtain ⟨fuel, rfl⟩ : ∃ f, fuel = f + 1 := ⟨fuel - 1, by omega⟩
    have e : j = l.length := by omega
    have ee : l = l0 := gl_ext hl0.symm (fun i hi => hp i (by omega))
    rw [f_X12_spellingComes_151, h60, if_pos (nI_le (by omega) (by omega))]
    unfold f_X12_spellingComes_188
    rw [h60, if_pos (nI_le (by omega) (by omega)), ee, if_neg (Nat.lt_irrefl _)]
  | succ k ih =>
    intro fuel j hk hf hj hp
    obtain ⟨fuel, rfl⟩ : ∃ f, fuel = f + 1 := ⟨fuel - 1, by omega⟩
    have g1 := h64 _ (gl_mem (show j < l.length by omega))
    have g2 := h640 _ (gl_mem (show j < l0.length by omega))
    rw [f_X12_spellingComes_151, h60, if_neg (nI_ge (by omega) (by omega)), ib_n (a := j) (by omega), decide_eq_true (show j < 12 by omega), grd_true, ea, ib_n (a := 12 * q + j) (by omega), decide_eq_true (show 12 * q + j < 1872 by omega), grd_true, ncl (a := j) (by omega), ncl (a := 12 * q + j) (by omega), rs j (by omega), r0 j (by omega)]
    by_cases e : gl l j = gl l0 j
    · rw [if_pos (by rw [e]), nI_1]
      refine ih fuel (j + 1) (by omega) (by omega) (by omega) (fun i hi => ?_)
      by_cases ei : i = j
      · rw [ei]; exact e
      · exact hp i (by omega)
    · rw [if_neg (fun h => e ((neq (by omega) (by omega)).mp h))]
      unfold f_X12_spellingComes_188
      rw [h60, if_neg (nI_ge (by omega) (by omega)), ib_n (a := j) (by omega), decide_eq_true (show j < 12 by omega), grd_true, ea, ib_n (a := 12 * q + j) (by omega), decide_eq_true (show 12 * q + j < 1872 by omega), grd_true, ncl (a := j) (by omega), ncl (a := 12 * q + j) (by omega), rs j (by omega), r0 j (by omega)]
      by_cases c : gl l0 j ≤ gl l j
      · have := cde_first (a := l0) (b := l) j hl0 (by omega) (fun i hi => (hp i hi).symm) (by omega) h640
        rw [if_pos (nI_le c (by omega)), if_neg (by omega)]
      · have := cde_first (a := l) (b := l0) j hl0.symm (by omega) (fun i hi => hp i hi) (by omega) h64
        rw [if_neg (nI_ge (by omega) (by omega)), if_pos this]
theorem m_sc253 {N : Nat} {l : List Nat} (hl : l.length ≤ 10) {q : Nat} (hq : q < 156) {τ0 : St} (h60 : τ0.1 1060 0 = nI l.length) (rs : RowS τ0 l) : ∀ (k fuel j : Nat) (τ : St), l.length - j = k → k < fuel → j ≤ l.length → (∀ i, i < j → τ.1 60 (12 * q + i) = nI (gl l i)) → FrP (fun a x => a = 60 ∧ 12 * q ≤ x ∧ x < 12 * q + 12) τ0 τ → ok (f_X12_spellingComes_253 N fuel (nI q) (nI j) τ) (fun τ' => (∀ i, i < l.length → τ'.1 60 (12 * q + i) = nI (gl l i)) ∧ FrP (fun a x => a = 60 ∧ 12 * q ≤ x ∧ x < 12 * q + 12) τ0 τ') := by
  have ea : ∀ j, 12 * nI q + nI j = nI (12 * q + j) := fun j => by rw [show (12 : Int32) = nI 12 from rfl, nmul, nadd]
  intro k
  induction k with
  | zero =>
    intro fuel j τ hk hf hj hp f
    obtain ⟨fuel, rfl⟩ : ∃ f, fuel = f + 1 := ⟨fuel - 1, by omega⟩
    have e : j = l.length := by omega
    rw [f_X12_spellingComes_253, (f 1060 0 (fun h => (nomatch h.1))).1, h60, if_pos (nI_le (by omega) (by omega)), ok_some]
    exact ⟨fun i hi => hp i (by omega), f⟩
  | succ k ih =>
    intro fuel j τ hk hf hj hp f
    obtain ⟨fuel, rfl⟩ : ∃ f, fuel = f + 1 := ⟨fuel - 1, by omega⟩
    rw [f_X12_spellingComes_253, (f 1060 0 (fun h => (nomatch h.1))).1, h60, if_neg (nI_ge (by omega) (by omega)), ib_n (a := j) (by omega), decide_eq_true (show j < 12 by omega), grd_true, ea, ib_n (a := 12 * q + j) (by omega), decide_eq_true (show 12 * q + j < 1872 by omega), grd_true, ncl (a := j) (by omega), ncl (a := 12 * q + j) (by omega), (f 39 j (fun h => (nomatch h.1))).1, rs j (by omega), nI_1]
    refine ih fuel (j + 1) _ (by omega) (by omega) (by omega) (fun i hi => ?_) (f.si _ _ _ ⟨rfl, by omega, by omega⟩)
    rw [si_rd, if_pos rfl]
    by_cases e : i = j
    · rw [if_pos (by omega), e]
    · rw [if_neg (by omega)]; exact hp i (by omega)
