/-! blocks: trees of SIGNS, and how they are laid -/
abbrev Bx : Type := Nat × Int32 × Int32 × Nat × Nat
abbrev Rs : Type := Nat × Nat × List Bx
def sft (dx dy : Int32) (l : List Bx) : List Bx := l.map (fun b => (b.1, b.2.1 + dx, b.2.2.1 + dy, b.2.2.2.1, b.2.2.2.2))
theorem sft_len (dx dy : Int32) (l : List Bx) : (sft dx dy l).length = l.length := List.length_map _
def acr (bs : Bool) (r : Rs) : Nat := if bs = true then r.2.1 else r.1
def alg (bs : Bool) (r : Rs) : Nat := if bs = true then r.1 else r.2.1
def gst (bs : Bool) : List Rs → Nat
  | [] => 0
  | r :: l => max (acr bs r) (gst bs l)
def smA (gap : Nat) (bs : Bool) : List Rs → Nat
  | [] => 0
  | [r] => alg bs r
  | r :: r' :: l => alg bs r + gap + smA gap bs (r' :: l)
def ofs (gap : Nat) (bs : Bool) (G : Nat) : Nat → List Rs → List Bx
  | _, [] => []
  | a, r :: l => sft (if bs = true then nI a else nI ((G - acr bs r) / 2)) (if bs = true then nI ((G - acr bs r) / 2) else nI a) r.2.2 ++ ofs gap bs G (a + alg bs r + gap) l
def cmb (gap : Nat) (bs : Bool) (rs : List Rs) : Rs := (if bs = true then smA gap bs rs else gst bs rs, if bs = true then gst bs rs else smA gap bs rs, ofs gap bs (gst bs rs) 0 rs)
def bxs (rs : List Rs) : List Bx := rs.flatMap (fun r => r.2.2)
theorem bxs_cons (r : Rs) (l : List Rs) : bxs (r :: l) = r.2.2 ++ bxs l := List.flatMap_cons
theorem ofs_len (gap : Nat) (bs : Bool) (G : Nat) : ∀ (rs : List Rs) (a : Nat), (ofs gap bs G a rs).length = (bxs rs).length := by
  intro rs
  induction rs with
  | nil => intro a; rfl
  | cons r l ih => intro a; rw [ofs, bxs_cons, List.length_append, List.length_append, sft_len, ih]
def RB (r : Rs) : Prop := r.1 + 9 ≤ 69 * r.2.2.length ∧ r.2.1 + 9 ≤ 69 * r.2.2.length
theorem RB_ac {bs : Bool} {r : Rs} (h : RB r) : acr bs r + 9 ≤ 69 * r.2.2.length ∧ alg bs r + 9 ≤ 69 * r.2.2.length := by
  unfold acr alg RB at *
  cases bs with
  | true => rw [if_pos rfl, if_pos rfl]; exact ⟨h.2, h.1⟩
  | false => rw [if_neg (by decide), if_neg (by decide)]; exact h
theorem gst_le {bs : Bool} : ∀ {rs : List Rs}, (∀ r, r ∈ rs → RB r) → rs ≠ [] → gst bs rs + 9 ≤ 69 * (bxs rs).length := by
  intro rs
  induction rs with
  | nil => intro _ h; exact absurd rfl h
  | cons r l ih =>
    intro h _
    have h1 := (RB_ac (bs := bs) (h r List.mem_cons_self)).1
    rw [gst, bxs_cons, List.length_append]
    by_cases e : l = []
    · subst e; rw [gst]; omega
    · have := ih (fun x hx => h x (List.mem_cons_of_mem _ hx)) e
      omega
theorem smA_le {gap : Nat} (hg : gap ≤ 9) {bs : Bool} : ∀ {rs : List Rs}, (∀ r, r ∈ rs → RB r) → rs ≠ [] → smA gap bs rs + 9 ≤ 69 * (bxs rs).length := by
  intro rs
  induction rs with
  | nil => intro _ h; exact absurd rfl h
  | cons r l ih =>
    intro h _
    have h1 := (RB_ac (bs := bs) (h r List.mem_cons_self)).2
    cases l with
    | nil => rw [smA, bxs_cons, List.length_append]; omega
    | cons r' l =>
      have := ih (fun x hx => h x (List.mem_cons_of_mem _ hx)) (by intro q; cases q)
      rw [smA, bxs_cons, List.length_append]
      omega
theorem cmb_len (gap : Nat) (bs : Bool) (rs : List Rs) : (cmb gap bs rs).2.2.length = (bxs rs).length := ofs_len _ _ _ _ _
theorem RB_cmb {gap : Nat} (hg : gap ≤ 9) {bs : Bool} {rs : List Rs} (h : ∀ r, r ∈ rs → RB r) (hn : rs ≠ []) : RB (cmb gap bs rs) := by
  have h1 := gst_le (bs := bs) h hn
  have h2 := smA_le hg (bs := bs) h hn
  unfold RB
  rw [cmb_len]
  unfold cmb
  cases bs with
  | true => exact ⟨h2, h1⟩
  | false => exact ⟨h1, h2⟩
theorem sft_0 (l : List Bx) : sft 0 0 l = l := by
  unfold sft
  have : (fun b : Bx => ((b.1, b.2.1 + 0, b.2.2.1 + 0, b.2.2.2.1, b.2.2.2.2) : Bx)) = id := funext fun b => by
    obtain ⟨a, x, y, w, h⟩ := b
    show (a, x + 0, y + 0, w, h) = (a, x, y, w, h)
    rw [Int32.add_zero, Int32.add_zero]
  rw [this, List.map_id]
theorem sft_sft (a b c d : Int32) (l : List Bx) : sft a b (sft c d l) = sft (c + a) (d + b) l := by
  unfold sft
  rw [List.map_map]
  congr 1
  funext x
  show ((x.1, x.2.1 + c + a, x.2.2.1 + d + b, x.2.2.2.1, x.2.2.2.2) : Bx) = (x.1, x.2.1 + (c + a), x.2.2.1 + (d + b), x.2.2.2.1, x.2.2.2.2)
  rw [Int32.add_assoc, Int32.add_assoc]
theorem cmb_1 (gap : Nat) (bs : Bool) (r : Rs) : cmb gap bs [r] = r := by
  obtain ⟨w, h, l⟩ := r
  unfold cmb
  have g : gst bs [(w, h, l)] = acr bs (w, h, l) := by rw [gst, gst]; omega
  rw [g, smA, ofs, ofs, List.append_nil, Nat.sub_self, Nat.zero_div]
  have z : nI 0 = (0 : Int32) := rfl
  cases bs with
  | true => rw [z]; show (w, h, sft 0 0 l) = (w, h, l); rw [sft_0]
  | false => rw [z]; show (w, h, sft 0 0 l) = (w, h, l); rw [sft_0]
/-! the class's rows of boxes and of parts -/
def EnX (σ : St) (b k : Nat) (x : Bx) : Prop := σ.1 26 k = nI x.1 ∧ σ.1 27 k = nI b ∧ σ.1 28 k = x.2.1 ∧ σ.1 29 k = x.2.2.1 ∧ σ.1 30 k = nI (x.2.2.2.1 * 65536 + x.2.2.2.2)
def BxA (σ : St) (b : Nat) : Nat → List Bx → Prop
  | _, [] => True
  | k, x :: l => EnX σ b k x ∧ BxA σ b (k + 1) l
def PrX (σ : St) : Nat → Nat → List Rs → Prop
  | _, _, [] => True
  | p, k, r :: l => σ.1 31 p = nI k ∧ σ.1 32 p = nI (r.1 * 65536 + r.2.1) ∧ PrX σ (p + 1) (k + r.2.2.length) l
theorem BxA_app {σ : St} {b : Nat} : ∀ {l m : List Bx} {k : Nat}, BxA σ b k (l ++ m) ↔ BxA σ b k l ∧ BxA σ b (k + l.length) m := by
  intro l
  induction l with
  | nil => intro m k; exact ⟨fun h => ⟨trivial, h⟩, fun h => h.2⟩
  | cons x l ih =>
    intro m k
    rw [List.cons_append]
    show (EnX σ b k x ∧ BxA σ b (k + 1) (l ++ m)) ↔ ((EnX σ b k x ∧ BxA σ b (k + 1) l) ∧ BxA σ b (k + (l.length + 1)) m)
    rw [ih, show k + 1 + l.length = k + (l.length + 1) by omega, and_assoc]
theorem BxA_fr {σ σ' : St} {b : Nat} : ∀ {l : List Bx} {k : Nat}, BxA σ b k l → (∀ j, k ≤ j → j < k + l.length → ∀ a, a = 26 ∨ a = 27 ∨ a = 28 ∨ a = 29 ∨ a = 30 → σ'.1 a j = σ.1 a j) → BxA σ' b k l := by
  intro l
  induction l with
  | nil => intro k _ _; trivial
  | cons x l ih =>
    intro k h e
    have ek := e k (Nat.le_refl _) (by rw [List.length_cons]; omega)
    refine ⟨?_, ih h.2 (fun j h1 h2 => e j (by omega) (by rw [List.length_cons]; omega))⟩
    unfold EnX
    rw [ek 26 (by decide), ek 27 (by decide), ek 28 (by decide), ek 29 (by decide), ek 30 (by decide)]
    exact h.1
theorem PrX_fr {σ σ' : St} : ∀ {l : List Rs} {p k : Nat}, PrX σ p k l → (∀ j, p ≤ j → j < p + l.length → σ'.1 31 j = σ.1 31 j ∧ σ'.1 32 j = σ.1 32 j) → PrX σ' p k l := by
  intro l
  induction l with
  | nil => intro p k _ _; trivial
  | cons r l ih =>
    intro p k h e
    have ek := e p (Nat.le_refl _) (by rw [List.length_cons]; omega)
    exact ⟨by rw [ek.1]; exact h.1, by rw [ek.2]; exact h.2.1, ih h.2.2 (fun j h1 h2 => e j (by omega) (by rw [List.length_cons]; omega))⟩
theorem PrX_snoc {σ : St} {r : Rs} : ∀ {l : List Rs} {p k : Nat}, PrX σ p k (l ++ [r]) ↔ PrX σ p k l ∧ σ.1 31 (p + l.length) = nI (k + (bxs l).length) ∧ σ.1 32 (p + l.length) = nI (r.1 * 65536 + r.2.1) := by
  intro l
  induction l with
  | nil => intro p k; exact ⟨fun h => ⟨trivial, h.1, h.2.1⟩, fun h => ⟨h.2.1, h.2.2, trivial⟩⟩
  | cons x l ih =>
    intro p k
    rw [List.cons_append, bxs_cons, List.length_append, List.length_cons]
    show (_ ∧ _ ∧ PrX σ (p + 1) (k + x.2.2.length) (l ++ [r])) ↔ ((_ ∧ _ ∧ PrX σ (p + 1) (k + x.2.2.length) l) ∧ _)
    rw [ih, show p + 1 + l.length = p + (l.length + 1) by omega, show k + x.2.2.length + (bxs l).length = k + (x.2.2.length + (bxs l).length) by omega, and_assoc, and_assoc]
theorem x_across {r : Rs} (h : RB r) (hl : r.2.2.length ≤ 24) (bs : Bool) (σ : St) : f_X1_across (nI (r.1 * 65536 + r.2.1)) (b2 bs) σ = nI (acr bs r) ∧ f_X1_across (nI (r.1 * 65536 + r.2.1)) (b2 (!bs)) σ = nI (alg bs r) := by
  unfold RB at h
  unfold f_X1_across acr alg
  cases bs with
  | true => rw [if_neg (show ¬ b2 true = 0 by decide), if_pos (show b2 (!true) = 0 from rfl), sz_h (by omega), sz_w (by omega) (by omega)]; exact ⟨rfl, rfl⟩
  | false => rw [if_pos (show b2 false = 0 from rfl), if_neg (show ¬ b2 (!false) = 0 by decide), sz_h (by omega), sz_w (by omega) (by omega)]; exact ⟨rfl, rfl⟩
theorem x_shift {N : Nat} (hN : 802 < N) {b : Nat} {dx dy : Int32} : ∀ (l : List Bx) (fuel k : Nat) (σ : St), l.length < fuel → k + l.length ≤ 24 → BxA σ b k l → ok (f_X1_shift_3 N fuel (nI (k + l.length)) dx dy (nI k) σ) (fun σ' => BxA σ' b k (sft dx dy l) ∧ FrP (fun a j => (a = 28 ∨ a = 29) ∧ k ≤ j ∧ j < k + l.length) σ σ') := by
  intro l
  induction l with
  | nil =>
    intro fuel k σ hf hk h
    obtain ⟨fuel, rfl⟩ : ∃ f, fuel = f + 1 := ⟨fuel - 1, by omega⟩
    rw [f_X1_shift_3, if_pos (nI_le (by show k + 0 ≤ k; omega) (by omega)), ok_some]
    exact ⟨trivial, FrP.refl _ _⟩
  | cons x l ih =>
    intro fuel k σ hf hk h
    obtain ⟨fuel, rfl⟩ : ∃ f, fuel = f + 1 := ⟨fuel - 1, by omega⟩
    rw [List.length_cons] at hk hf
    obtain ⟨⟨a1, a2, a3, a4, a5⟩, hr⟩ := h
    rw [f_X1_shift_3, List.length_cons, if_neg (nI_ge (by omega) (by omega)), ib_n (a := k) (by omega), decide_eq_true (show k < 24 by omega), ncl (a := k) (by omega), a3, a4, nI_1]
    simp only [grd_true]
    have F1 : FrP (fun a j => (a = 28 ∨ a = 29) ∧ j = k) σ (si (si σ 28 k (x.2.1 + dx)) 29 k (x.2.2.1 + dy)) := ((FrP.refl _ _).si _ _ _ ⟨Or.inl rfl, rfl⟩).si _ _ _ ⟨Or.inr rfl, rfl⟩
    have w1 : (si (si σ 28 k (x.2.1 + dx)) 29 k (x.2.2.1 + dy)).1 28 k = x.2.1 + dx := by simp only [si_rd, reduceIte, Nat.reduceEqDiff]
    have w2 : (si (si σ 28 k (x.2.1 + dx)) 29 k (x.2.2.1 + dy)).1 29 k = x.2.2.1 + dy := by simp only [si_rd, reduceIte, Nat.reduceEqDiff]
    generalize si (si σ 28 k (x.2.1 + dx)) 29 k (x.2.2.1 + dy) = σ1 at *
    have nx := ih fuel (k + 1) σ1 (by omega) (by omega) (BxA_fr hr (fun j h1 h2 a ha => (F1 a j (fun q => by omega)).1))
    rw [show k + 1 + l.length = k + (l.length + 1) by omega] at nx
    refine nx.mono (fun σ' ⟨y1, y2⟩ => ⟨⟨?_, y1⟩, (F1.wide (fun a j h => ⟨h.1, by omega, by omega⟩)).trans (y2.wide (fun a j h => ⟨h.1, by omega, by omega⟩))⟩)
    have n0 : ∀ a, σ'.1 a k = σ1.1 a k := fun a => (y2 a k (fun q => by omega)).1
    have n1 : ∀ a, a ≠ 28 → a ≠ 29 → σ1.1 a k = σ.1 a k := fun a h1 h2 => (F1 a k (fun q => q.1.elim h1 h2)).1
    refine ⟨?_, ?_, ?_, ?_, ?_⟩
    · rw [n0, n1 26 (by decide) (by decide)]; exact a1
    · rw [n0, n1 27 (by decide) (by decide)]; exact a2
    · rw [n0]; exact w1
    · rw [n0]; exact w2
    · rw [n0, n1 30 (by decide) (by decide)]; exact a5
