/-! the table of SPELLINGS in a row (reference) -/
def P57 (a j : Nat) : Prop := a = 37 ∨ a = 50
theorem P57_n : ∀ a j, P57 a j → ([34, 35, 36, 10, 2] : List Nat).contains a = false := by
  rintro a j (h | h) <;> (rw [h]; rfl)
theorem P57_t : ∀ a j, P57 a j → ([30, 31, 32, 33] : List Nat).contains a = false := by
  rintro a j (h | h) <;> (rw [h]; rfl)
theorem nar_b (b : Bool) : vp_nar .boolean (b2 b) = b2 b := by cases b <;> rfl
def SpI (τ : St) (L : Lv) (T : Nat → Tv) (g : Nat → Nat) (nt n t i j : Nat) : Prop := ∀ t' i' j', t' < nt → i' < n → i' < j' → j' ≤ n → (t' < t ∨ (t' = t ∧ (i' < i ∨ (i' = i ∧ j' < j)))) → τ.1 50 (576 * t' + 24 * i' + j' - 1) = b2 (spB L (T t') g i' j')
/-- the table as it is at the end -/
def SpT (τ : St) (L : Lv) (T : Nat → Tv) (g : Nat → Nat) (nt n : Nat) : Prop := ∀ t i j, t < nt → i < n → i < j → j ≤ n → τ.1 50 (576 * t + 24 * i + j - 1) = b2 (spB L (T t) g i j)
theorem m_makeSpells {N : Nat} (hN : 802 < N) {L : Lv} {nt : Nat} {T : Nat → Tv} (hL : LOk L) (hT : TOk nt T) {g : Nat → Nat} {n : Nat} (hn24 : n ≤ 24) {τ0 : St} (nm : NM τ0 L) (tm : TM τ0 nt T) (h69 : τ0.1 1069 0 = nI n) (hg : ∀ i, i < n → g i < L.n ∧ τ0.1 44 i = nI (g i)) : ok (f_X12_makeSpells N τ0) (fun τ' => SpT τ' L T g nt n ∧ FrP P57 τ0 τ') := by
  have h40 := hT.1
  unfold f_X12_makeSpells
  have fv : ∀ {τ : St}, FrP P57 τ0 τ → τ.1 1069 0 = nI n := fun f => by rw [(f 1069 0 (by unfold P57; omega)).1]; exact h69
  have l24 : ∀ (t i : Nat), t < nt → i < n → ∀ (k2 : Int32 → St → Option St) (k12 : Int32 → Int32 → St → Option St) (Q : St → Prop), (∀ τ', SpI τ' L T g nt n t (i + 1) 0 → FrP P57 τ0 τ' → ok (k12 (nI t) (nI (i + 1)) τ') Q) → ∀ (k fuel j : Nat) (τ : St), n + 1 - j = k → k < fuel → i < j → j ≤ n + 1 → SpI τ L T g nt n t i j → FrP P57 τ0 τ → ok (f_X12_makeSpells_24 N k2 k12 fuel (nI t) (nI i) (nI j) τ) Q := by
    intro t i ht hi k2 k12 Q kk k
    induction k with
    | zero =>
      intro fuel j τ hk hf hij hj hI f
      obtain ⟨fuel, rfl⟩ : ∃ f, fuel = f + 1 := ⟨fuel - 1, by omega⟩
      rw [f_X12_makeSpells_24, fv f, if_pos (nI_lt (by omega) (by omega)), nI_1]
      refine kk τ (fun t' i' j' a1 a2 a3 a4 a5 => hI t' i' j' a1 a2 a3 a4 (by omega)) f
    | succ k ih =>
      intro fuel j τ hk hf hij hj hI f
      obtain ⟨fuel, rfl⟩ : ∃ f, fuel = f + 1 := ⟨fuel - 1, by omega⟩
      rw [f_X12_makeSpells_24, fv f, if_neg (nI_nlt (by omega) (by omega))]
      refine ok_bd_of (m_isSpelling (r := 44) (rn := 24) hN (by omega) hL (TOk_t hT ht) (g := g) hij (by omega) (by omega) (nm.frP f P57_n) ((TM_t tm h40 ht).frP f P57_t) (fun l _ hl => ⟨(hg l (by omega)).1, by rw [(f 44 l (by unfold P57; omega)).1]; exact (hg l (by omega)).2⟩)) (fun r1 τ1 h1 => ?_)
      have hr1 : r1 = b2 (spB L (T t) g i j) := h1.1
      have f1 : FrP P57 τ0 τ1 := f.trans (h1.2.wide (fun a j h => Or.inl h))
      have ei : 576 * nI t + 24 * nI i + nI j - 1 = nI (576 * t + 24 * i + j - 1) := by
        rw [show (576 : Int32) = nI 576 from rfl, show (24 : Int32) = nI 24 from rfl, nmul, nmul, nadd, nadd, show (1 : Int32) = nI 1 from rfl, nsub (by omega)]
      rw [ei, ib_n (by omega), decide_eq_true (show 576 * t + 24 * i + j - 1 < 23040 by omega), grd_true, ncl (by omega), nI_1, hr1, nar_b]
      refine ih fuel (j + 1) _ (by omega) (by omega) (by omega) (by omega) (fun t' i' j' a1 a2 a3 a4 a5 => ?_) (f1.si _ _ _ (Or.inr rfl))
      rw [si_rd, if_pos rfl]
      by_cases e : t' = t ∧ i' = i ∧ j' = j
      · obtain ⟨rfl, rfl, rfl⟩ := e
        rw [if_pos rfl]
      · rw [if_neg (by omega), (h1.2 50 _ (by unfold P37; omega)).1]
        exact hI t' i' j' a1 a2 a3 a4 (by omega)
  have l12 : ∀ (t : Nat), t < nt → ∀ (k2 : Int32 → St → Option St) (Q : St → Prop), (∀ τ', SpI τ' L T g nt n (t + 1) 0 0 → FrP P57 τ0 τ' → ok (k2 (nI (t + 1)) τ') Q) → ∀ (k fuel i : Nat) (τ : St), n - i = k → k < fuel → i ≤ n → SpI τ L T g nt n t i 0 → FrP P57 τ0 τ → ok (f_X12_makeSpells_12 N k2 fuel (nI t) (nI i) τ) Q := by
    intro t ht k2 Q kk k
    induction k with
    | zero =>
      intro fuel i τ hk hf hi hI f
      obtain ⟨fuel, rfl⟩ : ∃ f, fuel = f + 1 := ⟨fuel - 1, by omega⟩
      rw [f_X12_makeSpells_12, fv f, if_pos (nI_le (by omega) (by omega)), nI_1]
      exact kk τ (fun t' i' j' a1 a2 a3 a4 a5 => hI t' i' j' a1 a2 a3 a4 (by omega)) f
    | succ k ih =>
      intro fuel i τ hk hf hi hI f
      obtain ⟨fuel, rfl⟩ : ∃ f, fuel = f + 1 := ⟨fuel - 1, by omega⟩
      rw [f_X12_makeSpells_12, fv f, if_neg (nI_ge (by omega) (by omega)), nI_1]
      exact l24 t i ht (by omega) k2 _ Q (fun τ' y1 y2 => ih fuel (i + 1) τ' (by omega) (by omega) (by omega) y1 y2) (n - i) N (i + 1) τ (by omega) (by omega) (by omega) (by omega) (fun t' i' j' a1 a2 a3 a4 a5 => hI t' i' j' a1 a2 a3 a4 (by omega)) f
  have l2 : ∀ (k fuel t : Nat) (τ : St), nt - t = k → k < fuel → t ≤ nt → SpI τ L T g nt n t 0 0 → FrP P57 τ0 τ → ok (f_X12_makeSpells_2 N fuel (nI t) τ) (fun τ' => SpT τ' L T g nt n ∧ FrP P57 τ0 τ') := by
    intro k
    induction k with
    | zero =>
      intro fuel t τ hk hf ht hI f
      obtain ⟨fuel, rfl⟩ : ∃ f, fuel = f + 1 := ⟨fuel - 1, by omega⟩
      rw [f_X12_makeSpells_2, (f 1049 0 (by unfold P57; omega)).1, tm.1, if_pos (nI_le (by omega) (by omega)), ok_some]
      exact ⟨fun t' i' j' a1 a2 a3 a4 => hI t' i' j' a1 a2 a3 a4 (by omega), f⟩
    | succ k ih =>
      intro fuel t τ hk hf ht hI f
      obtain ⟨fuel, rfl⟩ : ∃ f, fuel = f + 1 := ⟨fuel - 1, by omega⟩
      rw [f_X12_makeSpells_2, (f 1049 0 (by unfold P57; omega)).1, tm.1, if_neg (nI_ge (by omega) (by omega)), ← nI_0]
      exact l12 t (by omega) _ _ (fun τ' y1 y2 => ih fuel (t + 1) τ' (by omega) (by omega) (by omega) y1 y2) n N 0 τ rfl (by omega) (by omega) hI f
  exact l2 nt N 0 τ0 rfl (by omega) (by omega) (fun t' i' j' a1 a2 a3 a4 a5 => by omega) (FrP.refl _ _)
/-! WAYS -/
def sJ (b : Nat → Bool) (W : Nat → Nat) : Nat → Nat → Nat
  | 0, _ => 0
  | k + 1, j => (if b j = true then W j else 0) + sJ b W k (j + 1)
def sT (h : Nat → Nat) : Nat → Nat → Nat
  | 0, _ => 0
  | k + 1, t => h t + sT h k (t + 1)
theorem sJ_le {b : Nat → Bool} {W : Nat → Nat} {M : Nat} : ∀ k j, (∀ i, j ≤ i → i < j + k → W i ≤ M) → sJ b W k j ≤ k * M := by
  intro k
  induction k with
  | zero => intro j _; unfold sJ; omega
  | succ k ih =>
    intro j h
    have a := ih (j + 1) (fun i h1 h2 => h i (by omega) (by omega))
    have c := h j (by omega) (by omega)
    unfold sJ
    rw [Nat.add_mul, Nat.one_mul]
    split <;> omega
theorem sT_le {h : Nat → Nat} {M : Nat} : ∀ k t, (∀ i, t ≤ i → i < t + k → h i ≤ M) → sT h k t ≤ k * M := by
  intro k
  induction k with
  | zero => intro t _; unfold sT; omega
  | succ k ih =>
    intro t hh
    have a := ih (t + 1) (fun i h1 h2 => hh i (by omega) (by omega))
    have c := hh t (by omega) (by omega)
    unfold sT
    rw [Nat.add_mul, Nat.one_mul]
    omega
theorem sJ_congr {b : Nat → Bool} {W W' : Nat → Nat} : ∀ k j, (∀ i, j ≤ i → i < j + k → W i = W' i) → sJ b W k j = sJ b W' k j := by
  intro k
  induction k with
  | zero => intro j _; rfl
  | succ k ih =>
    intro j h
    unfold sJ
    rw [h j (by omega) (by omega), ih (j + 1) (fun i h1 h2 => h i (by omega) (by omega))]
/-- WAYS from a place on: c 0 at the end of the row, c k at k SIGNS ahead of it -/
def wy (S : Nat → Nat → Nat → Bool) (nt n : Nat) : Nat → Nat → Nat
  | 0 => fun i => if i = n then 1 else 0
  | k + 1 => fun i => if i = n - (k + 1) then min (sT (fun t => sJ (S t (n - (k + 1))) (wy S nt n k) (k + 1) (n - k)) nt 0) 1000000001 else wy S nt n k i
