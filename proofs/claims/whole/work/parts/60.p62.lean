/-! rows of SIGNS and their order: cost first, then the row as a number -/
def cst (L : Lv) : List Nat → Nat
  | [] => 0
  | s :: l => (L.w s * L.h s * 16 + 1) + cst L l
def pnt (L : Lv) : List Nat → Nat
  | [] => 0
  | s :: l => L.w s * L.h s + pnt L l
def cde : List Nat → Nat
  | [] => 0
  | s :: l => s * 64 ^ l.length + cde l
theorem cst_eq (L : Lv) : ∀ l, cst L l = pnt L l * 16 + l.length := by
  intro l
  induction l with
  | nil => rfl
  | cons s l ih => rw [cst, pnt, ih, List.length_cons]; omega
theorem cst_app (L : Lv) (a b : List Nat) : cst L (a ++ b) = cst L a + cst L b := by
  induction a with
  | nil => rw [List.nil_append, cst]; omega
  | cons s l ih => rw [List.cons_append, cst, cst, ih]; omega
theorem pnt_app (L : Lv) (a b : List Nat) : pnt L (a ++ b) = pnt L a + pnt L b := by
  induction a with
  | nil => rw [List.nil_append, pnt]; omega
  | cons s l ih => rw [List.cons_append, pnt, pnt, ih]; omega
theorem cde_snoc (a : List Nat) (s : Nat) : cde (a ++ [s]) = cde a * 64 + s := by
  induction a with
  | nil => show s * 64 ^ 0 + 0 = 0 * 64 + s; omega
  | cons x l ih =>
    rw [List.cons_append, cde, cde, ih, List.length_append, List.length_singleton, Nat.pow_succ, Nat.add_mul, Nat.mul_assoc]
    omega
def GL (L : Lv) (l : List Nat) : Prop := l.length ≤ 10 ∧ ∀ s, s ∈ l → s < L.n
theorem cde_lt {l : List Nat} (h : ∀ s, s ∈ l → s < 64) : cde l < 64 ^ l.length := by
  induction l with
  | nil => exact Nat.one_pos
  | cons s l ih =>
    have h1 := ih (fun x hx => h x (List.mem_cons_of_mem _ hx))
    have h2 : s < 64 := h s List.mem_cons_self
    rw [cde, List.length_cons, Nat.pow_succ]
    have h3 : s * 64 ^ l.length ≤ 63 * 64 ^ l.length := Nat.mul_le_mul_right _ (by omega)
    omega
theorem GL_cde {L : Lv} (hL : LOk L) {l : List Nat} (h : GL L l) : cde l < 1152921504606846976 :=
  Nat.lt_of_lt_of_le (cde_lt (fun s hs => by have := h.2 s hs; have := hL.1; omega)) (show 64 ^ l.length ≤ 64 ^ 10 from Nat.pow_le_pow_right (by omega) h.1)
theorem cst_le {L : Lv} (hL : LOk L) {l : List Nat} (h : ∀ s, s ∈ l → s < L.n) : cst L l ≤ 57601 * l.length := by
  induction l with
  | nil => exact Nat.le_refl _
  | cons s l ih =>
    have h1 := ih (fun x hx => h x (List.mem_cons_of_mem _ hx))
    have h2 := paint_lt hL (h s List.mem_cons_self)
    rw [cst, List.length_cons]
    omega
theorem GL_cst {L : Lv} (hL : LOk L) {l : List Nat} (h : GL L l) : cst L l < 2000000 := by
  have h1 := cst_le hL h.2
  have h2 := h.1
  omega
def kle (L : Lv) (a b : List Nat) : Prop := cst L a < cst L b ∨ (cst L a = cst L b ∧ cde a ≤ cde b)
theorem kle_refl (L : Lv) (a : List Nat) : kle L a a := Or.inr ⟨rfl, Nat.le_refl _⟩
theorem kle_trans {L : Lv} {a b c : List Nat} (h : kle L a b) (k : kle L b c) : kle L a c := by
  unfold kle at *; omega
theorem kle_snoc {L : Lv} {a b : List Nat} (h : kle L a b) (s : Nat) : kle L (a ++ [s]) (b ++ [s]) := by
  unfold kle at *
  rw [cst_app, cst_app, cde_snoc, cde_snoc]
  omega
theorem kle_two {L : Lv} {a b : List Nat} {s t : Nat} (h : kle L a b) (k : kle L [s] [t]) : kle L (a ++ [s]) (b ++ [t]) := by
  have k' : cst L [s] < cst L [t] ∨ (cst L [s] = cst L [t] ∧ s ≤ t) := by
    have e1 : cde [s] = s := by show s * 64 ^ 0 + 0 = s; omega
    have e2 : cde [t] = t := by show t * 64 ^ 0 + 0 = t; omega
    unfold kle at k; rw [e1, e2] at k; exact k
  unfold kle at *
  rw [cst_app, cst_app, cde_snoc, cde_snoc]
  omega
theorem cst_len {L : Lv} {a b : List Nat} (ha : a.length ≤ 10) (hb : b.length ≤ 10) (h : cst L a = cst L b) : a.length = b.length ∧ pnt L a = pnt L b := by
  rw [cst_eq, cst_eq] at h; omega
theorem kle_cons {L : Lv} {a b : List Nat} (ha : a.length ≤ 10) (hb : b.length ≤ 10) (h : kle L a b) (s : Nat) : kle L (s :: a) (s :: b) := by
  rcases h with h | ⟨h1, h2⟩
  · exact Or.inl (by rw [cst, cst]; omega)
  · exact Or.inr ⟨by rw [cst, cst, h1], by rw [cde, cde, (cst_len ha hb h1).1]; omega⟩
theorem cde_inj {L : Lv} : ∀ {a b : List Nat}, a.length = b.length → (∀ s, s ∈ a → s < 64) → (∀ s, s ∈ b → s < 64) → cde a = cde b → a = b := by
  intro a
  induction a with
  | nil => intro b h _ _ _; cases b with
    | nil => rfl
    | cons _ _ => cases h
  | cons s a ih =>
    intro b h ha hb hc
    cases b with
    | nil => cases h
    | cons t b =>
      have hl : a.length = b.length := by simpa using h
      have A := cde_lt (fun x hx => ha x (List.mem_cons_of_mem _ hx))
      have B := cde_lt (fun x hx => hb x (List.mem_cons_of_mem _ hx))
      rw [cde, cde, ← hl] at hc
      rw [← hl] at B
      have est : s = t := by
        have q1 : (s * 64 ^ a.length + cde a) / 64 ^ a.length = s := by rw [Nat.add_comm, Nat.add_mul_div_right _ _ (Nat.pow_pos (by omega)), Nat.div_eq_of_lt A, Nat.zero_add]
        have q2 : (t * 64 ^ a.length + cde b) / 64 ^ a.length = t := by rw [Nat.add_comm, Nat.add_mul_div_right _ _ (Nat.pow_pos (by omega)), Nat.div_eq_of_lt B, Nat.zero_add]
        rw [← q1, ← q2, hc]
      subst est
      rw [ih hl (fun x hx => ha x (List.mem_cons_of_mem _ hx)) (fun x hx => hb x (List.mem_cons_of_mem _ hx)) (by omega)]
theorem kle_anti {L : Lv} (hL : LOk L) {a b : List Nat} (ha : GL L a) (hb : GL L b) (h : kle L a b) (k : kle L b a) : a = b := by
  have h40 := hL.1
  have e : cst L a = cst L b ∧ cde a = cde b := by unfold kle at *; omega
  exact cde_inj (L := L) (cst_len ha.1 hb.1 e.1).1 (fun s hs => by have := ha.2 s hs; omega) (fun s hs => by have := hb.2 s hs; omega) e.2
/-- SIGNS that cover the TERM's ROW from p to q, without ECHOES -/
def til (L : Lv) (T : Tv) (q : Nat) : List Nat → Nat → Prop
  | [], p => p = q
  | s :: l, p => s < L.n ∧ atB L T s p = true ∧ til L T q l (p + L.c s)
theorem atB_c {L : Lv} {T : Tv} (hL : LOk L) {s p : Nat} (hs : s < L.n) (h : atB L T s p = true) : 1 ≤ L.c s ∧ L.c s ≤ 3 ∧ p + L.c s ≤ T.n := by
  unfold atB at h
  have h1 := decide_eq_true_iff.mp h
  have h2 := (hL.2.1 s hs).2.2.2.1 h1.1
  exact ⟨h2.1, h2.2, h1.2.1⟩
theorem til_snoc {L : Lv} {T : Tv} {s : Nat} : ∀ {l : List Nat} {p q : Nat}, til L T q (l ++ [s]) p ↔ ∃ m, til L T m l p ∧ s < L.n ∧ atB L T s m = true ∧ q = m + L.c s := by
  intro l
  induction l with
  | nil =>
    intro p q
    constructor
    · rintro ⟨h1, h2, h3⟩; exact ⟨p, rfl, h1, h2, h3.symm⟩
    · rintro ⟨m, h0, h1, h2, h3⟩
      have e : p = m := h0
      subst e
      exact ⟨h1, h2, h3.symm⟩
  | cons x l ih =>
    intro p q
    constructor
    · rintro ⟨h1, h2, h3⟩
      obtain ⟨m, a1, a2⟩ := ih.mp h3
      exact ⟨m, ⟨h1, h2, a1⟩, a2⟩
    · rintro ⟨m, ⟨h1, h2, a1⟩, a2⟩
      exact ⟨h1, h2, ih.mpr ⟨m, a1, a2⟩⟩
theorem til_len {L : Lv} {T : Tv} (hL : LOk L) {q : Nat} : ∀ {l : List Nat} {p : Nat}, til L T q l p → p + l.length ≤ q ∧ ∀ s, s ∈ l → s < L.n := by
  intro l
  induction l with
  | nil => intro p h; have e : p = q := h; exact ⟨by rw [e]; exact Nat.le_refl _, fun s hs => (nomatch hs)⟩
  | cons s l ih =>
    intro p h
    obtain ⟨h1, h2, h3⟩ := h
    obtain ⟨a1, a2⟩ := ih h3
    have := atB_c hL h1 h2
    refine ⟨by rw [List.length_cons]; omega, fun x hx => ?_⟩
    rcases List.mem_cons.mp hx with e | e
    · rw [e]; exact h1
    · exact a2 x e
theorem til_q {L : Lv} {T : Tv} (hL : LOk L) {q : Nat} : ∀ {l : List Nat} {p : Nat}, til L T q l p → p ≤ T.n → q ≤ T.n := by
  intro l
  induction l with
  | nil => intro p h hp; have e : p = q := h; omega
  | cons s l ih =>
    intro p h hp
    exact ih h.2.2 (atB_c hL h.1 h.2.1).2.2
theorem GL_app {L : Lv} {a b : List Nat} (ha : ∀ s, s ∈ a → s < L.n) (hb : ∀ s, s ∈ b → s < L.n) : ∀ s, s ∈ a ++ b → s < L.n := fun s hs => (List.mem_append.mp hs).elim (ha s) (hb s)
