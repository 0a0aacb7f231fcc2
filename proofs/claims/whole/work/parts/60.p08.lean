/-! frames by places -/
def FrP (P : Nat → Nat → Prop) (σ σ' : St) : Prop := ∀ a j, ¬ P a j → σ'.1 a j = σ.1 a j ∧ σ'.2 a j = σ.2 a j
theorem FrP.refl (P : Nat → Nat → Prop) (σ : St) : FrP P σ σ := fun _ _ _ => ⟨rfl, rfl⟩
theorem FrP.trans {P : Nat → Nat → Prop} {σ σ' σ'' : St} (h : FrP P σ σ') (k : FrP P σ' σ'') : FrP P σ σ'' := fun a j n => ⟨(k a j n).1.trans (h a j n).1, (k a j n).2.trans (h a j n).2⟩
theorem Fr.toP {V : List Nat} {P : Nat → Nat → Prop} {σ σ' : St} (h : Fr V σ σ') (k : ∀ a j, V.contains a = true → P a j) : FrP P σ σ' := fun a j n => by
  have e : V.contains a = false := by
    cases e : V.contains a with
    | false => rfl
    | true => exact absurd (k a j e) n
  exact ⟨by rw [(h a e).1], by rw [(h a e).2]⟩
theorem FrP.toFr {V : List Nat} {P : Nat → Nat → Prop} {σ σ' : St} (h : FrP P σ σ') (k : ∀ a j, P a j → V.contains a = true) : Fr V σ σ' := fun a e => by
  have q : ∀ j, ¬ P a j := fun j p => by rw [k a j p] at e; cases e
  exact ⟨funext (fun j => (h a j (q j)).1), funext (fun j => (h a j (q j)).2)⟩
theorem FrP.wide {P Q : Nat → Nat → Prop} {σ σ' : St} (h : FrP P σ σ') (k : ∀ a j, P a j → Q a j) : FrP Q σ σ' := fun a j n => h a j (fun p => n (k a j p))
theorem FrP.si {P : Nat → Nat → Prop} {σ σ' : St} (h : FrP P σ σ') (o j : Nat) (x : Int32) (k : P o j) : FrP P σ (si σ' o j x) := fun a i n => by
  rw [si_rd, si_2]
  have h1 := h a i n
  refine ⟨?_, h1.2⟩
  by_cases e : a = o
  · rw [if_pos e]
    by_cases e2 : i = j
    · rw [e, e2] at n; exact absurd k n
    · rw [if_neg e2, ← e]; exact h1.1
  · rw [if_neg e]; exact h1.1
theorem FrP.sl {P : Nat → Nat → Prop} {σ σ' : St} (h : FrP P σ σ') (o j : Nat) (x : Int64) (k : P o j) : FrP P σ (sl σ' o j x) := fun a i n => by
  rw [sl_rd, sl_1]
  have h1 := h a i n
  refine ⟨h1.1, ?_⟩
  by_cases e : a = o
  · rw [if_pos e]
    by_cases e2 : i = j
    · rw [e, e2] at n; exact absurd k n
    · rw [if_neg e2, ← e]; exact h1.2
  · rw [if_neg e]; exact h1.2
/-- the class writes the s-th SIGN of the spare list -/
def PX (s : Nat) (a j : Nat) : Prop := VC.contains a = true ∨ (([14, 15, 16, 17] : List Nat).contains a = true ∧ j = s)
def PM (s : Nat) (a j : Nat) : Prop := VCM.contains a = true ∨ (([7, 8, 10] : List Nat).contains a = true ∧ j = 40 + s) ∨ (a = 9 ∧ 3 * (40 + s) ≤ j ∧ j < 3 * (40 + s) + 3) ∨ (a = 3 ∧ j = 1)
theorem TapeX.frP {σ σ' : St} {P : Nat → Nat → Prop} {n : Nat} {B : Nat → Nat} (h : TapeX σ n B) (f : FrP P σ σ') (h1 : ¬ P 4801 0) (h2 : ∀ j, ¬ P 20 j) : TapeX σ' n B := by
  unfold TapeX at h ⊢
  rw [(f 4801 0 h1).1]
  refine ⟨h.1, h.2.1, fun j hj => ?_⟩
  rw [(f 20 j (h2 j)).1]; exact h.2.2 j hj
theorem TapeM.frP {σ σ' : St} {P : Nat → Nat → Prop} {n : Nat} {B : Nat → Nat} (h : TapeM σ n B) (f : FrP P σ σ') (h1 : ¬ P 1002 0) (h2 : ∀ j, ¬ P 1 j) : TapeM σ' n B := by
  unfold TapeM at h ⊢
  rw [(f 1002 0 h1).1]
  refine ⟨h.1, h.2.1, fun j hj => ?_⟩
  rw [(f 1 j (h2 j)).1]; exact h.2.2 j hj
theorem PX_tape {s : Nat} : ¬ PX s 4801 0 ∧ ∀ j, ¬ PX s 20 j := by
  unfold PX; simp
theorem PM_tape {s : Nat} : ¬ PM s 1002 0 ∧ ∀ j, ¬ PM s 1 j := by
  unfold PM; simp
theorem m_sounds {N n : Nat} {B : Nat → Nat} {q m s : Nat} {Q : Int32 × St → Prop} (hq : q + m ≤ n) (hm : m ≤ 3) (hs : s < 40) : ∀ (k fuel i : Nat) (τ : St), m - i = k → k < fuel → i ≤ m → TapeM τ n B → τ.1 1005 0 = nI q → τ.1 1006 0 = nI (q + m) → (∀ j, j < i → τ.1 9 (3 * (40 + s) + j) = nI (B (q + j) - 97)) → (∀ j, j < m → 97 ≤ B (q + j)) →
    (∀ τ', TapeM τ' n B → τ'.1 1006 0 = nI (q + m) → (∀ j, j < m → τ'.1 9 (3 * (40 + s) + j) = nI (B (q + j) - 97)) → FrP (fun a j => a = 9 ∧ 3 * (40 + s) ≤ j ∧ j < 3 * (40 + s) + 3) τ τ' → ok (f_X12_readSign_300 N τ') Q) → ok (f_X12_readSign_245 N fuel (nI (40 + s)) (nI i) τ) Q := by
  intro k
  induction k with
  | zero =>
    intro fuel i τ hk hf hi hT h5 h6 hd hL kk
    obtain ⟨fuel, rfl⟩ : ∃ f, fuel = f + 1 := ⟨fuel - 1, by omega⟩
    have hn := hT.1
    rw [f_X12_readSign_245, h6, h5, nsub (by omega), if_pos (nI_le (by omega) (by omega))]
    exact kk τ hT h6 (fun j hj => hd j (by omega)) (FrP.refl _ _)
  | succ k ih =>
    intro fuel i τ hk hf hi hT h5 h6 hd hL kk
    obtain ⟨fuel, rfl⟩ : ∃ f, fuel = f + 1 := ⟨fuel - 1, by omega⟩
    have hn := hT.1
    have hb := (hT.2.2 (q + i) (by omega)).1
    have hl := hL i (by omega)
    have e97 : nI (B (q + i)) - 97 = nI (B (q + i) - 97) := nsub (b := 97) hl
    have e3 : 3 * nI (40 + s) + nI i = nI (3 * (40 + s) + i) := by rw [show (3 : Int32) = nI 3 from rfl, nmul, nadd]
    rw [f_X12_readSign_245, h6, h5, nsub (by omega), if_neg (nI_ge (by omega) (by omega)), nadd, m_see hT (by omega), bo_some, see_in (by omega), e97, e3, ib_n (by omega), decide_eq_true (by omega), grd_true, ncl (by omega), nI_1]
    have f1 : FrP (fun a j => a = 9 ∧ 3 * (40 + s) ≤ j ∧ j < 3 * (40 + s) + 3) τ (si τ 9 (3 * (40 + s) + i) (nI (B (q + i) - 97))) := (FrP.refl _ _).si _ _ _ ⟨rfl, by omega, by omega⟩
    refine ih fuel (i + 1) _ (by omega) (by omega) (by omega) (hT.frP f1 (by simp) (by simp)) ?_ ?_ ?_ hL ?_
    · rw [(f1 1005 0 (by simp)).1]; exact h5
    · rw [(f1 1006 0 (by simp)).1]; exact h6
    · intro j hj
      rw [si_rd, if_pos rfl]
      by_cases e : j = i
      · rw [if_pos (by omega), e]
      · rw [if_neg (by omega)]; exact hd j (by omega)
    · intro τ' a1 a2 a3 a4
      exact kk τ' a1 a2 a3 (f1.trans a4)
