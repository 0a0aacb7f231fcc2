/-! blocks: texts as codes; what they lay -/
def It : Nat → Type
  | 0 => Nat × Nat
  | d + 1 => (Nat × Nat) ⊕ List (List (It d))
def itc (sep : Int32) : List (List Int32) → List Int32
  | [] => []
  | [c] => c
  | c :: c' :: r => c ++ sep :: itc sep (c' :: r)
def lfC (f : Nat × Nat) : List Int32 := if f.2 = 0 then [nI f.1] else [nI f.1, -38, nI (f.2 - 1)]
def cdI : (d : Nat) → It d → List Int32
  | 0, f => lfC f
  | d + 1, x => Sum.elim lfC (fun b : List (List (It d)) => -40 :: (itc (-42) (b.map (fun o => itc (-58) (o.map (cdI d)))) ++ [-41])) x
def cdO (d : Nat) (o : List (It d)) : List Int32 := itc (-58) (o.map (cdI d))
def cdB (d : Nat) (b : List (List (It d))) : List Int32 := itc (-42) (b.map (cdO d))
def hfW (L : Lv) (s : Nat) : Nat := max 1 (L.w s / 2)
def hfH (L : Lv) (s : Nat) : Nat := max 1 (L.h s / 2)
def lfR (L : Lv) (f : Nat × Nat) : Rs := (L.w f.1, L.h f.1, (f.1, 0, 0, L.w f.1, L.h f.1) :: (if f.2 = 0 then [] else [(f.2 - 1, nI (L.w f.1) - nI (hfW L (f.2 - 1)), 0, hfW L (f.2 - 1), hfH L (f.2 - 1))]))
def lyI (L : Lv) : (d : Nat) → It d → Rs
  | 0, f => lfR L f
  | d + 1, x => Sum.elim (lfR L) (fun b : List (List (It d)) => cmb L.gap true (b.map (fun o => cmb L.gap false (o.map (lyI L d))))) x
def lyO (L : Lv) (d : Nat) (o : List (It d)) : Rs := cmb L.gap false (o.map (lyI L d))
def lyB (L : Lv) (d : Nat) (b : List (List (It d))) : Rs := cmb L.gap true (b.map (lyO L d))
def okF (L : Lv) (f : Nat × Nat) : Prop := f.1 < L.n ∧ (f.2 = 0 ∨ f.2 - 1 < L.n)
def okI (L : Lv) : (d : Nat) → It d → Prop
  | 0, f => okF L f
  | d + 1, x => Sum.elim (okF L) (fun b : List (List (It d)) => b ≠ [] ∧ ∀ o, o ∈ b → o ≠ [] ∧ ∀ i, i ∈ o → okI L d i) x
def okO (L : Lv) (d : Nat) (o : List (It d)) : Prop := o ≠ [] ∧ ∀ i, i ∈ o → okI L d i
def okB (L : Lv) (d : Nat) (b : List (List (It d))) : Prop := b ≠ [] ∧ ∀ o, o ∈ b → okO L d o
theorem okF_RB {L : Lv} (hL : LOk L) {f : Nat × Nat} (h : okF L f) : RB (lfR L f) ∧ 1 ≤ (lfR L f).2.2.length := by
  obtain ⟨d1, d2, _⟩ := hL.2.1 f.1 h.1
  have l1 : 1 ≤ (lfR L f).2.2.length := by unfold lfR; rw [List.length_cons]; omega
  exact ⟨⟨by show L.w f.1 + 9 ≤ _; omega, by show L.h f.1 + 9 ≤ _; omega⟩, l1⟩
theorem bxs_pos {rs : List Rs} (h : ∀ r, r ∈ rs → 1 ≤ r.2.2.length) : rs.length ≤ (bxs rs).length := by
  induction rs with
  | nil => exact Nat.le_refl _
  | cons r l ih =>
    have := ih (fun x hx => h x (List.mem_cons_of_mem _ hx))
    have := h r List.mem_cons_self
    rw [bxs_cons, List.length_append, List.length_cons]; omega
theorem cmb_ok {gap : Nat} (hg : gap ≤ 9) {bs : Bool} {rs : List Rs} (h : ∀ r, r ∈ rs → RB r ∧ 1 ≤ r.2.2.length) (hn : rs ≠ []) : RB (cmb gap bs rs) ∧ 1 ≤ (cmb gap bs rs).2.2.length := by
  refine ⟨RB_cmb hg (fun r hr => (h r hr).1) hn, ?_⟩
  rw [cmb_len]
  have := bxs_pos (fun r hr => (h r hr).2)
  cases rs with
  | nil => exact absurd rfl hn
  | cons r l => rw [List.length_cons] at this; omega
theorem okI_RB {L : Lv} (hL : LOk L) : ∀ (d : Nat) (x : It d), okI L d x → RB (lyI L d x) ∧ 1 ≤ (lyI L d x).2.2.length := by
  have hg : L.gap ≤ 9 := hL.2.2.1
  intro d
  induction d with
  | zero => intro x h; exact okF_RB hL h
  | succ d ih =>
    intro x h
    cases x with
    | inl f => exact okF_RB hL h
    | inr b =>
      obtain ⟨h1, h2⟩ := h
      refine cmb_ok hg (fun r hr => ?_) (fun q => h1 (List.map_eq_nil_iff.mp q))
      obtain ⟨o, o1, o2⟩ := List.mem_map.mp hr
      rw [← o2]
      refine cmb_ok hg (fun r hr => ?_) (fun q => (h2 o o1).1 (List.map_eq_nil_iff.mp q))
      obtain ⟨i, i1, i2⟩ := List.mem_map.mp hr
      rw [← i2]
      exact ih i ((h2 o o1).2 i i1)
theorem okO_RB {L : Lv} (hL : LOk L) {d : Nat} {o : List (It d)} (h : okO L d o) : RB (lyO L d o) ∧ 1 ≤ (lyO L d o).2.2.length := by
  refine cmb_ok hL.2.2.1 (fun r hr => ?_) (fun q => h.1 (List.map_eq_nil_iff.mp q))
  obtain ⟨i, i1, i2⟩ := List.mem_map.mp hr
  rw [← i2]; exact okI_RB hL d i (h.2 i i1)
/-! the class reads codes -/
def TxX (σ : St) (c : List Int32) : Prop := c.length ≤ 240 ∧ σ.1 5202 0 = nI c.length ∧ ∀ j, j < c.length → σ.1 22 j = c.getD j 0
theorem x_codeAt {σ : St} {c : List Int32} (h : TxX σ c) (j : Nat) (hj : j ≤ 300) : f_X0_codeAt (nI j) σ = some (c.getD j (-45)) := by
  obtain ⟨h1, h2, h3⟩ := h
  unfold f_X0_codeAt
  rw [if_neg (show ¬ nI j < (0 : Int32) from nI_nlt (b := 0) (by omega) (by omega)), h2]
  by_cases c1 : j < c.length
  · rw [if_pos (nI_lt c1 (by omega)), ib_n (by omega), decide_eq_true (show j < 240 by omega), grd_true, ncl (by omega), h3 j c1, List.getD_eq_getElem?_getD, List.getD_eq_getElem?_getD, List.getElem?_eq_getElem c1]; rfl
  · rw [if_neg (nI_nlt (by omega) (by omega)), List.getD_eq_getElem?_getD, List.getElem?_eq_none (by omega)]; rfl
theorem gd_app {a b : List Int32} {x : Int32} : (a ++ b).getD a.length x = b.headD x := by
  rw [List.getD_eq_getElem?_getD, List.getElem?_append_right (Nat.le_refl _), Nat.sub_self]
  cases b <;> rfl
theorem gd_app1 {a b : List Int32} {x : Int32} : (a ++ b).getD (a.length + 1) x = b.getD 1 x := by
  rw [List.getD_eq_getElem?_getD, List.getElem?_append_right (by omega), show a.length + 1 - a.length = 1 by omega, ← List.getD_eq_getElem?_getD]
def LSt (σ : St) (c : List Int32) (q k b P : Nat) : Prop := TxX σ c ∧ σ.1 5614 0 = nI q ∧ σ.1 5605 0 = nI k ∧ σ.1 5602 0 = nI b ∧ σ.1 5613 0 = nI P
def PLy (k P a j : Nat) : Prop := a = 5614 ∨ a = 5605 ∨ a = 5613 ∨ ((a = 26 ∨ a = 27 ∨ a = 28 ∨ a = 29 ∨ a = 30) ∧ k ≤ j) ∨ ((a = 31 ∨ a = 32) ∧ P ≤ j)
abbrev VLy : List Nat := [5614, 5605, 5613, 26, 27, 28, 29, 30, 31, 32]
theorem PLy_V {k P a j : Nat} (h : PLy k P a j) : VLy.contains a = true := by
  rcases h with h | h | h | ⟨h | h | h | h | h, _⟩ | ⟨h | h, _⟩ <;> (rw [h]; rfl)
theorem TxX.fr {σ σ' : St} {c : List Int32} {V : List Nat} (h : TxX σ c) (f : Fr V σ σ') (hv : ([5202, 22] : List Nat).all (fun a => !V.contains a) = true) : TxX σ' c := by
  have e := f.at hv
  unfold TxX at *
  rw [(e 5202 (by decide)).1, (e 22 (by decide)).1]; exact h
def LPost (L : Lv) (c : List Int32) (q k b P : Nat) (r : Rs) (σ : St) (a : Int32 × St) : Prop := a.1 = nI (r.1 * 65536 + r.2.1) ∧ LSt a.2 c q (k + r.2.2.length) b P ∧ BxA a.2 b k r.2.2 ∧ FrP (PLy k P) σ a.2
theorem x_putSign {σ : St} {c : List Int32} {q k b P s w h : Nat} (ls : LSt σ c q k b P) (hk : k < 24) (x : Int32) : ok (f_X1_putSign (nI s) x (nI (w * 65536 + h)) σ) (fun σ' => LSt σ' c q (k + 1) b P ∧ BxA σ' b k [(s, x, 0, w, h)] ∧ FrP (fun a j => a = 5605 ∨ ((a = 26 ∨ a = 27 ∨ a = 28 ∨ a = 29 ∨ a = 30) ∧ j = k)) σ σ') := by
  obtain ⟨t, l1, l2, l3, l4⟩ := ls
  unfold f_X1_putSign
  rw [l2, l3, if_pos (show nI k < (24 : Int32) from nI_lt (b := 24) hk (by omega)), ib_n (a := k) (by omega), decide_eq_true hk, ncl (a := k) (by omega), nI_1]
  simp only [grd_true]
  rw [ok_some]
  have F : FrP (fun a j => a = 5605 ∨ ((a = 26 ∨ a = 27 ∨ a = 28 ∨ a = 29 ∨ a = 30) ∧ j = k)) σ (si (si (si (si (si (si σ 26 k (nI s)) 27 k (nI b)) 28 k x) 29 k 0) 30 k (nI (w * 65536 + h))) 5605 0 (nI (k + 1))) := ((((((FrP.refl _ _).si _ _ _ (Or.inr ⟨by decide, rfl⟩)).si _ _ _ (Or.inr ⟨by decide, rfl⟩)).si _ _ _ (Or.inr ⟨by decide, rfl⟩)).si _ _ _ (Or.inr ⟨by decide, rfl⟩)).si _ _ _ (Or.inr ⟨by decide, rfl⟩)).si _ _ _ (Or.inl rfl)
  have n0 : ∀ a j, a ≠ 5605 → ¬ (a = 26 ∨ a = 27 ∨ a = 28 ∨ a = 29 ∨ a = 30) → (si (si (si (si (si (si σ 26 k (nI s)) 27 k (nI b)) 28 k x) 29 k 0) 30 k (nI (w * 65536 + h))) 5605 0 (nI (k + 1))).1 a j = σ.1 a j := fun a j h1 h2 => (F a j (fun q => q.elim h1 (fun q => h2 q.1))).1
  refine ⟨⟨⟨t.1, ?_, fun j hj => ?_⟩, ?_, ?_, ?_, ?_⟩, ⟨⟨?_, ?_, ?_, ?_, ?_⟩, trivial⟩, F⟩
  · rw [n0 _ _ (by decide) (by decide)]; exact t.2.1
  · rw [n0 _ _ (by decide) (by decide)]; exact t.2.2 j hj
  · rw [n0 _ _ (by decide) (by decide)]; exact l1
  · simp only [si_rd, reduceIte, Nat.reduceEqDiff]
  · rw [n0 _ _ (by decide) (by decide)]; exact l3
  · rw [n0 _ _ (by decide) (by decide)]; exact l4
  · simp only [si_rd, reduceIte, Nat.reduceEqDiff]
  · simp only [si_rd, reduceIte, Nat.reduceEqDiff]
  · simp only [si_rd, reduceIte, Nat.reduceEqDiff]
  · simp only [si_rd, reduceIte, Nat.reduceEqDiff]
  · simp only [si_rd, reduceIte, Nat.reduceEqDiff]
theorem LSt.fr {σ σ' : St} {c : List Int32} {q k b P : Nat} (h : LSt σ c q k b P) (e : ∀ a, a = 5202 ∨ a = 22 ∨ a = 5614 ∨ a = 5605 ∨ a = 5602 ∨ a = 5613 → ∀ j, σ'.1 a j = σ.1 a j) : LSt σ' c q k b P := by
  obtain ⟨t, l1, l2, l3, l4⟩ := h
  exact ⟨⟨t.1, by rw [e 5202 (by decide)]; exact t.2.1, fun j hj => by rw [e 22 (by decide)]; exact t.2.2 j hj⟩, by rw [e 5614 (by decide)]; exact l1, by rw [e 5605 (by decide)]; exact l2, by rw [e 5602 (by decide)]; exact l3, by rw [e 5613 (by decide)]; exact l4⟩
theorem LSt.cur {σ : St} {c : List Int32} {q k b P : Nat} (h : LSt σ c q k b P) (q' : Nat) : LSt (si σ 5614 0 (nI q')) c q' k b P := by
  obtain ⟨t, l1, l2, l3, l4⟩ := h
  refine ⟨⟨t.1, ?_, fun j hj => ?_⟩, ?_, ?_, ?_, ?_⟩
  · rw [si_rd, if_neg (by decide)]; exact t.2.1
  · rw [si_rd, if_neg (by decide)]; exact t.2.2 j hj
  · rw [si_rd, if_pos rfl, if_pos rfl]
  · rw [si_rd, if_neg (by decide)]; exact l2
  · rw [si_rd, if_neg (by decide)]; exact l3
  · rw [si_rd, if_neg (by decide)]; exact l4
