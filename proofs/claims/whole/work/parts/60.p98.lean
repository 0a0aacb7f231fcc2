/-! blocks, the class: one TOKEN of the text -/
def Cd (σ : St) (c : List Int32) : Prop := σ.1 5202 0 = nI (min 240 c.length) ∧ ∀ j, j < min 240 c.length → σ.1 22 j = c.getD j 0
def CX (L : Lv) (σ : St) (n : Nat) (B : Nat → Nat) (p : Nat) (c : List Int32) (st d bc sc : Nat) : Prop := TapeX σ n B ∧ σ.1 4802 0 = nI p ∧ p ≤ n ∧ LX 1 σ L ∧ Cd σ c ∧ σ.1 5203 0 = nI st ∧ σ.1 5204 0 = nI d ∧ σ.1 5205 0 = nI bc ∧ σ.1 5206 0 = nI sc ∧ st ≤ 4 ∧ d ≤ 4 ∧ bc ≤ 12 ∧ sc ≤ 24
abbrev VPX : List Nat := [4802, 4803, 4804, 4805, 4806, 4807, 4808, 4809, 4810, 4811, 4812, 22, 5202, 5203, 5204, 5205, 5206]
abbrev VPY : List Nat := [4802, 4803, 4804, 4805, 4806, 4807, 4808, 4809, 4810, 22, 5202, 5203, 5204, 5205, 5206]
def Bad (σ σ' : St) (k : Int32) (q : Nat) : Prop := σ'.1 4811 0 = k ∧ σ'.1 4812 0 = nI q ∧ Fr VPX σ σ'
theorem x_keepC {σ : St} {c : List Int32} (h : Cd σ c) (x : Int32) : ok (f_X0_keep x σ) (fun σ' => Cd σ' (c ++ [x]) ∧ Fr [22, 5202] σ σ') := by
  obtain ⟨h1, h2⟩ := h
  have el : (c ++ [x]).length = c.length + 1 := by rw [List.length_append, List.length_singleton]
  unfold f_X0_keep
  rw [h1]
  by_cases q : 240 ≤ c.length
  · rw [if_pos (show (240 : Int32) ≤ nI (min 240 c.length) from nI_le (a := 240) (by omega) (by omega)), ok_some]
    refine ⟨⟨by rw [el, h1]; congr 1; omega, fun j hj => ?_⟩, Fr.refl _ _⟩
    rw [el] at hj
    rw [h2 j (by omega), List.getD_eq_getElem?_getD, List.getD_eq_getElem?_getD, List.getElem?_append_left (by omega)]
  · rw [if_neg (show ¬ (240 : Int32) ≤ nI (min 240 c.length) from nI_ge (b := 240) (by omega) (by omega)), ib_n (by omega), decide_eq_true (show min 240 c.length < 240 by omega), grd_true, ncl (by omega), nI_1, ok_some]
    refine ⟨⟨?_, fun j hj => ?_⟩, ((Fr.refl _ _).si _ _ _ rfl).si _ _ _ rfl⟩
    · simp only [si_rd, reduceIte, Nat.reduceEqDiff]; rw [el]; congr 1; omega
    · rw [el] at hj
      simp only [si_rd, reduceIte, Nat.reduceEqDiff]
      by_cases e : j = min 240 c.length
      · rw [if_pos e, e, show min 240 c.length = c.length by omega, gd_app]; rfl
      · rw [if_neg e, h2 j (by omega), List.getD_eq_getElem?_getD, List.getD_eq_getElem?_getD, List.getElem?_append_left (by omega)]
theorem CX.fr {L : Lv} {σ σ' : St} {n : Nat} {B : Nat → Nat} {p : Nat} {c : List Int32} {st d bc sc : Nat} {V : List Nat} (h : CX L σ n B p c st d bc sc) (f : Fr V σ σ') (hv : ([4801, 20, 4802, 22, 5202, 5203, 5204, 5205, 5206, 1200, 3, 4, 5, 6, 7, 8, 9, 10] : List Nat).all (fun a => !V.contains a) = true) : CX L σ' n B p c st d bc sc := by
  have e := f.at hv
  have g : ([1200, 3, 4, 5, 6, 7, 8, 9, 10] : List Nat).all (fun a => !V.contains a) = true := by
    rw [List.all_eq_true] at hv ⊢
    intro x hx
    exact hv x (List.mem_append_right [4801, 20, 4802, 22, 5202, 5203, 5204, 5205, 5206] hx)
  obtain ⟨h1, h2, h3, h4, h5, h6, h7, h8, h9, h10⟩ := h
  refine ⟨⟨h1.1, by rw [(e 4801 (by decide)).1]; exact h1.2.1, fun j hj => by rw [(e 20 (by decide)).1]; exact h1.2.2 j hj⟩, by rw [(e 4802 (by decide)).1]; exact h2, h3, LX1_fr h4 f g, ⟨by rw [(e 5202 (by decide)).1]; exact h5.1, fun j hj => by rw [(e 22 (by decide)).1]; exact h5.2 j hj⟩, by rw [(e 5203 (by decide)).1]; exact h6, by rw [(e 5204 (by decide)).1]; exact h7, by rw [(e 5205 (by decide)).1]; exact h8, by rw [(e 5206 (by decide)).1]; exact h9, h10⟩
/-- what the class accepts -/
def acp (st d k ch : Nat) : Prop := (k = 1 ∧ (st = 0 ∨ st = 1 ∨ st = 2)) ∨ (k = 3 ∧ ((ch = 40 ∧ (st = 0 ∨ st = 1)) ∨ (ch = 41 ∧ (st = 3 ∨ st = 4) ∧ 0 < d) ∨ (ch = 45 ∧ (st = 3 ∨ st = 4) ∧ d = 0) ∨ (ch = 38 ∧ st = 3) ∨ ((ch = 42 ∨ ch = 58) ∧ (st = 3 ∨ st = 4)))) ∨ (k = 0 ∧ (st = 3 ∨ st = 4) ∧ d = 0)
theorem wh_st {σ : St} {st : Nat} (h : σ.1 5203 0 = nI st) (h4 : st ≤ 4) : f_X0_isWhole σ = b2 (decide (st = 3 ∨ st = 4)) ∧ f_X0_wantsItem σ = b2 (decide (st = 0 ∨ st = 1)) := by
  unfold f_X0_isWhole f_X0_wantsItem
  rw [h]
  have : st = 0 ∨ st = 1 ∨ st = 2 ∨ st = 3 ∨ st = 4 := by omega
  rcases this with rfl | rfl | rfl | rfl | rfl <;> exact ⟨by decide, by decide⟩
theorem x_refuse {σ : St} {n : Nat} {B : Nat → Nat} {p : Nat} {k : Int32} (hK : TokX σ n B p) : ∃ σ', f_X8_refuse k σ = some (0, σ') ∧ Bad σ σ' k (tq B n p) := by
  refine ⟨si (si σ 4811 0 k) 4812 0 (σ.1 4804 0), rfl, ?_, ?_, ((Fr.refl _ _).si _ _ _ rfl).si _ _ _ rfl⟩
  · simp only [si_rd, reduceIte, Nat.reduceEqDiff]
  · simp only [si_rd, reduceIte, Nat.reduceEqDiff]; exact hK.2.2.1
theorem Bad.trans {σ σ' σ'' : St} {k : Int32} {q : Nat} (f : Fr VPY σ σ') (h : Bad σ' σ'' k q) : Bad σ σ'' k q := ⟨h.1, h.2.1, (f.wide rfl).trans h.2.2⟩
