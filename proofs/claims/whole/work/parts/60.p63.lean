/-! best, the class: the least row at a place -/
def Mn (L : Lv) (σ : St) (q : Nat) (P : List Nat → Prop) : Prop := (σ.1 53 q = 2147483647 ∧ ∀ l, ¬ P l) ∨ (∃ l, P l ∧ GL L l ∧ σ.1 53 q = nI (cst L l) ∧ σ.2 54 q = lN (cde l) ∧ ∀ l', P l' → kle L l l')
theorem Mn.eq {L : Lv} {σ σ' : St} {q : Nat} {P : List Nat → Prop} (h : Mn L σ q P) (e1 : σ'.1 53 q = σ.1 53 q) (e2 : σ'.2 54 q = σ.2 54 q) : Mn L σ' q P := by
  unfold Mn; rw [e1, e2]; exact h
theorem Mn.iff {L : Lv} {σ : St} {q : Nat} {P Q : List Nat → Prop} (h : Mn L σ q P) (e : ∀ l, P l ↔ Q l) : Mn L σ q Q := by
  have : P = Q := funext fun l => propext (e l)
  rw [← this]; exact h
theorem x_imp0 {σ : St} {p : Nat} (hp : p < 13) {c : Nat} (hc : c < 2000000) (r : Int64) (h53 : σ.1 53 p = 2147483647) : f_X2_improve (nI p) (nI c) r σ = some (sl (si σ 53 p (nI c)) 54 p r) := by
  unfold f_X2_improve f_X2_improve_31
  rw [ib_n (by omega), decide_eq_true hp, ncl (by omega), h53]
  simp only [grd_true]
  rw [if_pos (show nI c < (2147483647 : Int32) from nI_lt (b := 2147483647) (by omega) (by omega))]
theorem x_imp {L : Lv} (hL : LOk L) {σ : St} {q : Nat} (hq : q < 13) {P Q : List Nat → Prop} (h : Mn L σ q P) {l0 : List Nat} (g : GL L l0) (h0 : Q l0) (hm : ∀ l', Q l' → kle L l0 l') : ok (f_X2_improve (nI q) (nI (cst L l0)) (lN (cde l0)) σ) (fun σ' => Mn L σ' q (fun l => P l ∨ Q l) ∧ (∀ j, j ≠ q → σ'.1 53 j = σ.1 53 j ∧ σ'.2 54 j = σ.2 54 j) ∧ Fr [53, 54] σ σ') := by
  have g1 := GL_cst hL g
  have g2 := GL_cde hL g
  have wr : (∀ j, (sl (si σ 53 q (nI (cst L l0))) 54 q (lN (cde l0))).1 53 j = if j = q then nI (cst L l0) else σ.1 53 j) ∧ (∀ j, (sl (si σ 53 q (nI (cst L l0))) 54 q (lN (cde l0))).2 54 j = if j = q then lN (cde l0) else σ.2 54 j) := by
    refine ⟨fun j => ?_, fun j => ?_⟩
    · rw [sl_1, si_rd, if_pos rfl]
    · rw [sl_rd, if_pos rfl, si_2]
  have fr : Fr [53, 54] σ (sl (si σ 53 q (nI (cst L l0))) 54 q (lN (cde l0))) := ((Fr.refl _ _).si _ _ _ rfl).sl _ _ _ rfl
  rcases h with ⟨a1, a2⟩ | ⟨l, b1, b2, b3, b4, b5⟩
  · rw [x_imp0 hq g1 _ a1, ok_some]
    refine ⟨Or.inr ⟨l0, Or.inr h0, g, by rw [wr.1, if_pos rfl], by rw [wr.2, if_pos rfl], fun l' h' => h'.elim (fun h' => absurd h' (a2 l')) (hm l')⟩, fun j hj => ⟨by rw [wr.1, if_neg hj], by rw [wr.2, if_neg hj]⟩, fr⟩
  · have c1 := GL_cst hL b2
    have c2 := GL_cde hL b2
    rw [x_improve hq (by omega) (by omega) (by omega) (by omega) b3 b4]
    by_cases k : klt (cst L l0) (cde l0) (cst L l) (cde l)
    · rw [if_pos k, ok_some]
      have kk : kle L l0 l := by unfold kle; unfold klt at k; omega
      refine ⟨Or.inr ⟨l0, Or.inr h0, g, by rw [wr.1, if_pos rfl], by rw [wr.2, if_pos rfl], fun l' h' => h'.elim (fun h' => kle_trans kk (b5 l' h')) (hm l')⟩, fun j hj => ⟨by rw [wr.1, if_neg hj], by rw [wr.2, if_neg hj]⟩, fr⟩
    · rw [if_neg k, ok_some]
      have kk : kle L l l0 := by unfold kle; unfold klt at k; omega
      exact ⟨Or.inr ⟨l, Or.inl b1, b2, b3, b4, fun l' h' => h'.elim (b5 l') (fun h' => kle_trans kk (hm l' h'))⟩, fun j _ => ⟨rfl, rfl⟩, Fr.refl _ _⟩
theorem x_impBy {L : Lv} (hL : LOk L) {σ : St} (hx : LX 1 σ L) {s p q : Nat} (hs : s < L.n) (hp : p < 13) (hq : q < 13) {P Q : List Nat → Prop} (hP : Mn L σ p P) (hQ : Mn L σ q Q) (hl : ∀ l, P l → l.length ≤ 9) : ok (f_X2_improveBy (nI s) (nI p) (nI q) σ) (fun σ' => Mn L σ' q (fun l => Q l ∨ ∃ l', P l' ∧ l = l' ++ [s]) ∧ (∀ j, j ≠ q → σ'.1 53 j = σ.1 53 j ∧ σ'.2 54 j = σ.2 54 j) ∧ Fr [53, 54] σ σ') := by
  rcases hP with ⟨a1, a2⟩ | ⟨l, b1, b2, b3, b4, b5⟩
  · rw [x_improveBy0 hp a1, ok_some]
    exact ⟨hQ.iff (fun l => ⟨Or.inl, fun h => h.elim id (fun ⟨l', h1, _⟩ => absurd h1 (a2 l'))⟩), fun j _ => ⟨rfl, rfl⟩, Fr.refl _ _⟩
  · have c1 := GL_cst hL b2
    have e1 : cst L l + (L.w s * L.h s * 16 + 1) = cst L (l ++ [s]) := by rw [cst_app]; rfl
    have e2 : cde l * 64 + s = cde (l ++ [s]) := (cde_snoc l s).symm
    rw [x_improveBy hL hx hs hp b3 c1 b4, e1, e2]
    refine x_imp hL hq hQ (Q := fun l => ∃ l', P l' ∧ l = l' ++ [s]) ⟨?_, GL_app b2.2 (fun x hx => ?_)⟩ ⟨l, b1, rfl⟩ (fun l' ⟨l2, h1, h2⟩ => ?_)
    · rw [List.length_append, List.length_singleton]; have := hl l b1; omega
    · rw [List.mem_singleton.mp hx]; exact hs
    · rw [h2]; exact kle_snoc (b5 l2 h1) s
