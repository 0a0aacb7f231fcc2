/-! blocks, the reference: nodes of a tree -/
def Chn (τ : St) : List Nat → Int32 → Prop
  | [], x => x = -1
  | p :: ps, x => x = nI p ∧ Chn τ ps (τ.1 15 p)
def AlI {α : Type} (E : α → Nat → Nat → Nat → Prop) (p : Nat) : List α → List Nat → Nat → Nat → Prop
  | [], [], lo, hi => lo ≤ hi
  | x :: l, k :: ps, lo, hi => ∃ a m, lo ≤ a ∧ m ≤ hi ∧ (a ≤ k ∧ k < m) ∧ E x k a m ∧ (p < a ∨ m ≤ p) ∧ AlI E p l ps m hi
  | _, _, _, _ => False
def RwI {α : Type} (τ : St) (Q : Nat → Rs → Prop) (kind : Nat) (E : α → Nat → Nat → Nat → Prop) (l : List α) (r : Rs) (p lo hi : Nat) : Prop := (∃ x, l = [x] ∧ E x p lo hi) ∨ (2 ≤ l.length ∧ lo ≤ p ∧ p < hi ∧ τ.1 11 p = nI kind ∧ Q p r ∧ ∃ ps, Chn τ ps (τ.1 14 p) ∧ AlI E p l ps lo hi)
def NdF (τ : St) (Q : Nat → Rs → Prop) (L : Lv) (f : Nat × Nat) (p lo hi : Nat) : Prop := lo ≤ p ∧ p < hi ∧ τ.1 11 p = 0 ∧ τ.1 12 p = nI f.1 ∧ τ.1 13 p = (if f.2 = 0 then -1 else nI (f.2 - 1)) ∧ Q p (lfR L f)
def NdI (τ : St) (Q : Nat → Rs → Prop) (L : Lv) : (d : Nat) → It d → Nat → Nat → Nat → Prop
  | 0, f, p, lo, hi => NdF τ Q L f p lo hi
  | d + 1, x, p, lo, hi => Sum.elim (fun f => NdF τ Q L f p lo hi) (fun b : List (List (It d)) => RwI τ Q 1 (fun o => RwI τ Q 2 (NdI τ Q L d) o (lyO L d o)) b (lyB L d b) p lo hi) x
def NdO (τ : St) (Q : Nat → Rs → Prop) (L : Lv) (d : Nat) (o : List (It d)) (p lo hi : Nat) : Prop := RwI τ Q 2 (NdI τ Q L d) o (lyO L d o) p lo hi
def NdB (τ : St) (Q : Nat → Rs → Prop) (L : Lv) (d : Nat) (b : List (List (It d))) (p lo hi : Nat) : Prop := RwI τ Q 1 (NdO τ Q L d) b (lyB L d b) p lo hi
/-- nothing that the nodes from lo to hi need has changed, but for what stands behind p -/
def SmN (τ τ' : St) (Q Q' : Nat → Rs → Prop) (p lo hi : Nat) : Prop := ∀ j, lo ≤ j → j < hi → τ'.1 11 j = τ.1 11 j ∧ τ'.1 12 j = τ.1 12 j ∧ τ'.1 13 j = τ.1 13 j ∧ τ'.1 14 j = τ.1 14 j ∧ (j ≠ p → τ'.1 15 j = τ.1 15 j) ∧ ∀ r, Q j r → Q' j r
theorem AlI_mem {α : Type} {E : α → Nat → Nat → Nat → Prop} {p : Nat} : ∀ {l : List α} {ps : List Nat} {lo hi : Nat}, AlI E p l ps lo hi → ∀ k, k ∈ ps → lo ≤ k ∧ k < hi ∧ k ≠ p := by
  intro l
  induction l with
  | nil =>
    intro ps lo hi h k hk
    cases ps with
    | nil => cases hk
    | cons _ _ => exact absurd h id
  | cons x l ih =>
    intro ps lo hi h k hk
    cases ps with
    | nil => exact absurd h id
    | cons q ps =>
      obtain ⟨a, m, h1, h2, h3, h4, h5, h6⟩ := h
      have le : m ≤ hi := h2
      rcases List.mem_cons.mp hk with e | e
      · rw [e]; exact ⟨by omega, by omega, by omega⟩
      · have := ih h6 k e
        exact ⟨by omega, this.2⟩
theorem AlI_imp {α : Type} {E E' : α → Nat → Nat → Nat → Prop} {p : Nat} : ∀ {l : List α} {ps : List Nat} {lo hi : Nat}, AlI E p l ps lo hi → (∀ x k a m, lo ≤ a → m ≤ hi → (p < a ∨ m ≤ p) → E x k a m → E' x k a m) → AlI E' p l ps lo hi := by
  intro l
  induction l with
  | nil => intro ps lo hi h _; cases ps with
    | nil => exact h
    | cons _ _ => exact absurd h id
  | cons x l ih =>
    intro ps lo hi h e
    cases ps with
    | nil => exact absurd h id
    | cons q ps =>
      obtain ⟨a, m, h1, h2, h3, h4, h5, h6⟩ := h
      exact ⟨a, m, h1, h2, h3, e x q a m h1 h2 h5 h4, h5, ih h6 (fun x k a' m' q1 q2 q3 q4 => e x k a' m' (by omega) q2 q3 q4)⟩
theorem Chn_fr {τ τ' : St} : ∀ {ps : List Nat} {x : Int32}, Chn τ ps x → (∀ k, k ∈ ps → τ'.1 15 k = τ.1 15 k) → Chn τ' ps x := by
  intro ps
  induction ps with
  | nil => intro x h _; exact h
  | cons p ps ih =>
    intro x h e
    refine ⟨h.1, ?_⟩
    rw [e p List.mem_cons_self]
    exact ih h.2 (fun k hk => e k (List.mem_cons_of_mem _ hk))
theorem RwI_fr {α : Type} {τ τ' : St} {Q Q' : Nat → Rs → Prop} {kind : Nat} {E E' : α → Nat → Nat → Nat → Prop} {l : List α} {r : Rs} {p lo hi : Nat} (h : RwI τ Q kind E l r p lo hi) (s : SmN τ τ' Q Q' p lo hi) (e : ∀ x k a m, SmN τ τ' Q Q' k a m → E x k a m → E' x k a m) : RwI τ' Q' kind E' l r p lo hi := by
  rcases h with ⟨x, h1, h2⟩ | ⟨h1, h2, h3, h4, h5, ps, h6, h7⟩
  · exact Or.inl ⟨x, h1, e x p lo hi s h2⟩
  · have sp := s p h2 h3
    refine Or.inr ⟨h1, h2, h3, by rw [sp.1]; exact h4, sp.2.2.2.2.2 r h5, ps, ?_, AlI_imp h7 (fun x k a m q1 q2 q3 q4 => e x k a m (fun j j1 j2 => ?_) q4)⟩
    · rw [sp.2.2.2.1]
      exact Chn_fr h6 (fun k hk => by
        have m := AlI_mem h7 k hk
        exact (s k m.1 m.2.1).2.2.2.2.1 m.2.2)
    · obtain ⟨s1, s2, s3, s4, s5, s6⟩ := s j (by omega) (by omega)
      exact ⟨s1, s2, s3, s4, fun _ => s5 (by omega), s6⟩
theorem NdF_fr {τ τ' : St} {Q Q' : Nat → Rs → Prop} {L : Lv} {f : Nat × Nat} {p lo hi : Nat} (h : NdF τ Q L f p lo hi) (s : SmN τ τ' Q Q' p lo hi) : NdF τ' Q' L f p lo hi := by
  obtain ⟨h1, h2, h3, h4, h5, h6⟩ := h
  have sp := s p h1 h2
  exact ⟨h1, h2, by rw [sp.1]; exact h3, by rw [sp.2.1]; exact h4, by rw [sp.2.2.1]; exact h5, sp.2.2.2.2.2 _ h6⟩
theorem NdI_fr {τ τ' : St} {Q Q' : Nat → Rs → Prop} {L : Lv} : ∀ (d : Nat) (x : It d) (p lo hi : Nat), SmN τ τ' Q Q' p lo hi → NdI τ Q L d x p lo hi → NdI τ' Q' L d x p lo hi := by
  intro d
  induction d with
  | zero => intro x p lo hi s h; exact NdF_fr h s
  | succ d ih =>
    intro x p lo hi s h
    cases x with
    | inl f => exact NdF_fr h s
    | inr b => exact RwI_fr h s (fun o k a m s' h' => RwI_fr h' s' (fun i k a m s' h' => ih i k a m s' h'))
theorem NdO_fr {τ τ' : St} {Q Q' : Nat → Rs → Prop} {L : Lv} {d : Nat} {o : List (It d)} {p lo hi : Nat} (s : SmN τ τ' Q Q' p lo hi) (h : NdO τ Q L d o p lo hi) : NdO τ' Q' L d o p lo hi := RwI_fr h s (fun i k a m s' h' => NdI_fr d i k a m s' h')
theorem NdB_fr {τ τ' : St} {Q Q' : Nat → Rs → Prop} {L : Lv} {d : Nat} {b : List (List (It d))} {p lo hi : Nat} (s : SmN τ τ' Q Q' p lo hi) (h : NdB τ Q L d b p lo hi) : NdB τ' Q' L d b p lo hi := RwI_fr h s (fun o k a m s' h' => NdO_fr s' h')
theorem NdF_p {τ : St} {Q : Nat → Rs → Prop} {L : Lv} {f : Nat × Nat} {p lo hi : Nat} (h : NdF τ Q L f p lo hi) : lo ≤ p ∧ p < hi := ⟨h.1, h.2.1⟩
theorem RwI_p {α : Type} {τ : St} {Q : Nat → Rs → Prop} {kind : Nat} {E : α → Nat → Nat → Nat → Prop} {l : List α} {r : Rs} {p lo hi : Nat} (h : RwI τ Q kind E l r p lo hi) (e : ∀ x k a m, E x k a m → a ≤ k ∧ k < m) : lo ≤ p ∧ p < hi := by
  rcases h with ⟨x, h1, h2⟩ | ⟨h1, h2, h3, _⟩
  · exact e x p lo hi h2
  · exact ⟨h2, h3⟩
theorem NdI_p {τ : St} {Q : Nat → Rs → Prop} {L : Lv} : ∀ (d : Nat) (x : It d) (p lo hi : Nat), NdI τ Q L d x p lo hi → lo ≤ p ∧ p < hi := by
  intro d
  induction d with
  | zero => intro x p lo hi h; exact NdF_p h
  | succ d ih =>
    intro x p lo hi h
    cases x with
    | inl f => exact NdF_p h
    | inr b => exact RwI_p h (fun o k a m h' => RwI_p h' (fun i k a m h' => ih i k a m h'))
theorem NdO_p {τ : St} {Q : Nat → Rs → Prop} {L : Lv} {d : Nat} {o : List (It d)} {p lo hi : Nat} (h : NdO τ Q L d o p lo hi) : lo ≤ p ∧ p < hi := RwI_p h (fun i k a m h' => NdI_p d i k a m h')
theorem NdB_p {τ : St} {Q : Nat → Rs → Prop} {L : Lv} {d : Nat} {b : List (List (It d))} {p lo hi : Nat} (h : NdB τ Q L d b p lo hi) : lo ≤ p ∧ p < hi := RwI_p h (fun o k a m h' => NdO_p h')
theorem SmN.refl (τ : St) (Q : Nat → Rs → Prop) (p lo hi : Nat) : SmN τ τ Q Q p lo hi := fun j _ _ => ⟨rfl, rfl, rfl, rfl, fun _ => rfl, fun _ h => h⟩
/-! measure -/
def Sz (τ : St) (p : Nat) (r : Rs) : Prop := τ.1 16 p = nI r.1 ∧ τ.1 17 p = nI r.2.1
abbrev QT : Nat → Rs → Prop := fun _ _ => True
def PMz (lo hi a j : Nat) : Prop := (a = 16 ∨ a = 17) ∧ lo ≤ j ∧ j < hi
theorem PMz_V {lo hi a j : Nat} (h : PMz lo hi a j) : ([16, 17] : List Nat).contains a = true := by
  rcases h with ⟨h | h, _⟩ <;> (rw [h]; rfl)
theorem PMz_n {lo hi a j : Nat} (h : a ≠ 16) (h2 : a ≠ 17) : ¬ PMz lo hi a j := fun q => q.1.elim h h2
theorem SmN_T {τ τ' : St} {lo hi : Nat} (f : FrP (PMz lo hi) τ τ') (p a m : Nat) : SmN τ τ' QT QT p a m := fun j _ _ => ⟨(f 11 j (PMz_n (by decide) (by decide))).1, (f 12 j (PMz_n (by decide) (by decide))).1, (f 13 j (PMz_n (by decide) (by decide))).1, (f 14 j (PMz_n (by decide) (by decide))).1, fun _ => (f 15 j (PMz_n (by decide) (by decide))).1, fun _ h => h⟩
theorem SmN_Z {τ τ' : St} {lo hi : Nat} (f : FrP (PMz lo hi) τ τ') {p a m : Nat} (h : m ≤ lo ∨ hi ≤ a) : SmN τ τ' (Sz τ) (Sz τ') p a m := fun j j1 j2 => ⟨(f 11 j (PMz_n (by decide) (by decide))).1, (f 12 j (PMz_n (by decide) (by decide))).1, (f 13 j (PMz_n (by decide) (by decide))).1, (f 14 j (PMz_n (by decide) (by decide))).1, fun _ => (f 15 j (PMz_n (by decide) (by decide))).1, fun r q => ⟨by rw [(f 16 j (fun q => by have := q.2; omega)).1]; exact q.1, by rw [(f 17 j (fun q => by have := q.2; omega)).1]; exact q.2⟩⟩
def MsC (L : Lv) (hd : Int32 → St → Option St) (E E1 : St → Nat → Nat → Nat → Prop) (r : Rs) : Prop := ∀ τ k a m, E τ k a m → m ≤ 400 → LM τ L → ok (hd (nI k) τ) (fun τ' => E1 τ' k a m ∧ Sz τ' k r ∧ FrP (PMz a m) τ τ')
def sal (bs : Bool) : List Rs → Nat
  | [] => 0
  | r :: l => alg bs r + sal bs l
theorem smA_sal (gap : Nat) (bs : Bool) : ∀ (rs : List Rs), rs ≠ [] → smA gap bs rs = sal bs rs + gap * (rs.length - 1) := by
  intro rs
  induction rs with
  | nil => intro h; exact absurd rfl h
  | cons r l ih =>
    intro _
    cases l with
    | nil => rw [smA, sal, sal]; show _ = _ + gap * 0; rw [Nat.mul_zero]; omega
    | cons r' l =>
      rw [smA, sal, ih (by intro q; cases q)]
      show alg bs r + gap + (sal bs (r' :: l) + gap * l.length) = alg bs r + sal bs (r' :: l) + gap * (l.length + 1)
      rw [Nat.mul_add, Nat.mul_one]; omega
abbrev kdn' (bs : Bool) : Nat := if bs = true then 1 else 2
theorem m_ms59 {N : Nat} {α : Type} {L : Lv} {hd : Int32 → St → Option St} {E E1 : α → St → Nat → Nat → Nat → Prop} {ly : α → Rs} {bs : Bool} {p : Nat} (hp : p < 400)
    (frE : ∀ x τ τ' k a m lo hi, FrP (PMz lo hi) τ τ' → E x τ k a m → E x τ' k a m) (frE1 : ∀ x τ τ' k a m lo hi, FrP (PMz lo hi) τ τ' → (m ≤ lo ∨ hi ≤ a) → E1 x τ k a m → E1 x τ' k a m) :
    ∀ (l : List α) (ps : List Nat) (fuel lo hi : Nat) (τ : St) (A G n : Nat) (x5 : Int32), (∀ x, x ∈ l → MsC L hd (E x) (E1 x) (ly x) ∧ RB (ly x) ∧ (ly x).2.2.length ≤ 24) → AlI (fun x => E x τ) p l ps lo hi → Chn τ ps x5 → hi ≤ 400 → LM τ L → τ.1 11 p = nI (kdn' bs) → l.length < fuel → A + sal bs (l.map ly) ≤ 100000 → G ≤ 2000 → n + l.length ≤ 1000 →
    ∃ τ', f_X12_measure_59 N hd fuel (nI p) (nI (if bs = true then A else G)) (nI (if bs = true then G else A)) (nI n) x5 τ = f_X12_measure_59 N hd (fuel - l.length) (nI p) (nI (if bs = true then A + sal bs (l.map ly) else max G (gst bs (l.map ly)))) (nI (if bs = true then max G (gst bs (l.map ly)) else A + sal bs (l.map ly))) (nI (n + l.length)) (-1) τ' ∧ AlI (fun x => E1 x τ') p l ps lo hi ∧ FrP (PMz lo hi) τ τ' ∧ τ'.1 16 p = τ.1 16 p ∧ τ'.1 17 p = τ.1 17 p := by
  intro l
  induction l with
  | nil =>
    intro ps fuel lo hi τ A G n x5 _ h c _ _ _ _ _ _ _
    cases ps with
    | nil =>
      have c' : x5 = -1 := c
      refine ⟨τ, ?_, h, FrP.refl _ _, rfl, rfl⟩
      rw [c', List.map_nil, sal, gst, Nat.max_eq_left (Nat.zero_le _)]; rfl
    | cons _ _ => exact absurd h id
  | cons x l ih =>
    intro ps fuel lo hi τ A G n x5 hm h c hhi lm h11 hf hA hG hn
    cases ps with
    | nil => exact absurd h id
    | cons k ps =>
      obtain ⟨fuel, rfl⟩ : ∃ f, fuel = f + 1 := ⟨fuel - 1, by omega⟩
      rw [List.length_cons] at hf hn
      rw [List.map_cons, sal] at hA
      obtain ⟨a, m, h1, h2, h3, h4, h5, h6⟩ := h
      obtain ⟨c1, c2⟩ := c
      obtain ⟨mc, rb, rl⟩ := hm x List.mem_cons_self
      have hk : k < 400 := by omega
      obtain ⟨τ1, e1, z1, z2, z3⟩ := mc τ k a m h4 (by omega) lm
      have rb2 := RB_ac (bs := bs) rb
      have n16 : ∀ b j, b ≠ 16 → b ≠ 17 → τ1.1 b j = τ.1 b j := fun b j q1 q2 => (z3 b j (PMz_n q1 q2)).1
      have c2' : Chn τ1 ps (τ1.1 15 k) := by
        rw [n16 15 k (by decide) (by decide)]
        exact Chn_fr c2 (fun q _ => n16 15 q (by decide) (by decide))
      have lm1 : LM τ1 L := LM_fr lm (z3.toFr (V := [16, 17]) (fun a j h => PMz_V h)) rfl
      obtain ⟨τ2, e2, w1, w2, w3, w4⟩ := ih ps fuel m hi τ1 (A + alg bs (ly x)) (max G (acr bs (ly x))) (n + 1) (τ1.1 15 k) (fun y hy => hm y (List.mem_cons_of_mem _ hy)) (AlI_imp h6 (fun y q a' m' _ _ _ q4 => frE y τ τ1 q a' m' a m z3 q4)) c2' hhi lm1 (by rw [n16 11 p (by decide) (by decide)]; exact h11) (by omega) (by omega) (by omega) (by omega)
      refine ⟨τ2, ?_, ⟨a, m, h1, h2, h3, frE1 x τ1 τ2 k a m m hi w2 (Or.inl (Nat.le_refl _)) z1, h5, w1⟩, (z3.wide (fun b j q => ⟨q.1, by have := q.2; omega, by have := q.2; omega⟩)).trans (w2.wide (fun b j q => ⟨q.1, by have := q.2; omega, by have := q.2; omega⟩)), ?_, ?_⟩
      · rw [f_X12_measure_59, c1, if_neg (nneg k (by omega)), e1, bo_some, n16 11 _ (by decide) (by decide)]
        unfold f_X12_measure_104 f_X12_measure_138
        rw [ib_n (a := p) (by omega), decide_eq_true hp, ncl (a := p) (by omega), ib_n (a := k) (by omega), decide_eq_true hk, ncl (a := k) (by omega), n16 11 p (by decide) (by decide), h11, z2.1, z2.2, nI_1]
        simp only [grd_true]
        have eF : ∀ (u v u' v' : Nat), u = u' → v = v' → f_X12_measure_59 N hd fuel (nI p) (nI u) (nI v) (nI (n + 1)) (τ1.1 15 k) τ1 = f_X12_measure_59 N hd fuel (nI p) (nI u') (nI v') (nI (n + 1)) (τ1.1 15 k) τ1 := fun u v u' v' q1 q2 => by rw [q1, q2]
        have fin : f_X12_measure_59 N hd fuel (nI p) (nI (if bs = true then A + alg bs (ly x) else max G (acr bs (ly x)))) (nI (if bs = true then max G (acr bs (ly x)) else A + alg bs (ly x))) (nI (n + 1)) (τ1.1 15 k) τ1 = f_X12_measure_59 N hd (fuel + 1 - (x :: l).length) (nI p) (nI (if bs = true then A + sal bs ((x :: l).map ly) else max G (gst bs ((x :: l).map ly)))) (nI (if bs = true then max G (gst bs ((x :: l).map ly)) else A + sal bs ((x :: l).map ly))) (nI (n + (x :: l).length)) (-1) τ2 := by
          rw [e2, List.map_cons, sal, gst, List.length_cons, show fuel + 1 - (l.length + 1) = fuel - l.length by omega, show A + (alg bs (ly x) + sal bs (l.map ly)) = A + alg bs (ly x) + sal bs (l.map ly) by omega, show max G (max (acr bs (ly x)) (gst bs (l.map ly))) = max (max G (acr bs (ly x))) (gst bs (l.map ly)) by omega, show n + (l.length + 1) = n + 1 + l.length by omega]
        cases bs with
        | true =>
          have q1 : (ly x).1 = alg true (ly x) := rfl
          have q2 : (ly x).2.1 = acr true (ly x) := rfl
          rw [show nI (kdn' true) = (1 : Int32) from rfl, if_pos rfl, if_neg (by decide), q1, q2, if_pos rfl, if_pos rfl, nadd, m_greater (by omega) (by omega)]
          exact fin
        | false =>
          have q1 : (ly x).1 = acr false (ly x) := rfl
          have q2 : (ly x).2.1 = alg false (ly x) := rfl
          rw [show nI (kdn' false) = (2 : Int32) from rfl, if_neg (by decide), if_pos rfl, q1, q2, if_neg (by decide), if_neg (by decide), nadd, m_greater (by omega) (by omega)]
          exact fin
      · rw [w3]; exact (z3 16 p (fun q => by have := q.2; omega)).1
      · rw [w4]; exact (z3 17 p (fun q => by have := q.2; omega)).1
