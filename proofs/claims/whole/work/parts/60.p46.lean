/-! read: the class's fewest -/
def FwO (S : Nat → Nat → Nat → Bool) (nt n : Nat) (F : Nat → Nat) (i v : Nat) : Prop := 1 ≤ v ∧ (v = 1000 ∨ v + i ≤ n) ∧ (∀ t j, t < nt → i < j → j ≤ n → S t i j = true → v ≤ F j + 1) ∧ (v < 1000 → ∃ t j, t < nt ∧ i < j ∧ j ≤ n ∧ S t i j = true ∧ v = F j + 1)
def BkT (σ : St) (n : Nat) (F : Nat → Nat) (m : Nat) : Prop := ∀ d, d ≤ 24 → ∃ B, σ.1 63 d = nI B ∧ B < 33554432 ∧ ∀ i, B.testBit i = true ↔ (m ≤ i ∧ i ≤ n ∧ F i = d)
theorem FwO.up {S : Nat → Nat → Nat → Bool} {nt n : Nat} {F : Nat → Nat} {i v m w : Nat} (h : FwO S nt n F i v) (hm : m ≤ i) : FwO S nt n (up F m w) i v := by
  obtain ⟨a1, a2, a3, a4⟩ := h
  refine ⟨a1, a2, fun t j h1 h2 h3 h4 => ?_, fun hv => ?_⟩
  · rw [up_ne _ _ (by omega)]; exact a3 t j h1 h2 h3 h4
  · obtain ⟨t, j, b1, b2, b3, b4, b5⟩ := a4 hv
    exact ⟨t, j, b1, b2, b3, b4, by rw [up_ne _ _ (by omega)]; exact b5⟩
abbrev VFw : List Nat := [62, 63]
theorem x_fw89 {N : Nat} {S : Nat → Nat → Nat → Bool} {nt n i X : Nat} {F : Nat → Nat} (hn24 : n ≤ 24) (hi : i < n) (hX : X < 33554432) (hb : ∀ j, X.testBit j = true ↔ (i < j ∧ j ≤ n ∧ ∃ t, t < nt ∧ S t i j = true)) (hF : ∀ j, i < j → j ≤ n → F j = 1000 ∨ F j + j ≤ n) {σ0 : St} (hn : σ0.1 12404 0 = nI n) {k37 : Int32 → St → Option St} {Q : St → Prop}
    (kk : ∀ σ' v, σ'.1 62 i = nI v → (∀ j, i < j → j ≤ n → σ'.1 62 j = nI (F j)) → FwO S nt n F i v → BkT σ' n (up F i v) i → Fr VFw σ0 σ' → ok (k37 (nI i + -1) σ') Q) :
    ∀ (k fuel j v : Nat) (σ : St), n + 1 - j = k → k < fuel → i < j → j ≤ n + 1 → σ.1 62 i = nI v → (∀ j', i < j' → j' ≤ n → σ.1 62 j' = nI (F j')) → 1 ≤ v → (v = 1000 ∨ v + i ≤ n) → (∀ t j', t < nt → i < j' → j' < j → S t i j' = true → v ≤ F j' + 1) → (v < 1000 → ∃ t j', t < nt ∧ i < j' ∧ j' ≤ n ∧ S t i j' = true ∧ v = F j' + 1) → BkT σ n F (i + 1) → Fr VFw σ0 σ → ok (f_X5_findFewest_89 N k37 fuel (nI i) (nI X) (nI j) σ) Q := by
  intro k
  induction k with
  | zero =>
    intro fuel j v σ hk hf hj hjn c1 c2 v1 v2 v3 v4 bk f
    obtain ⟨fuel, rfl⟩ : ∃ f, fuel = f + 1 := ⟨fuel - 1, by omega⟩
    have fw : FwO S nt n F i v := ⟨v1, v2, fun t j' h1 h2 h3 h4 => v3 t j' h1 h2 (by omega) h4, v4⟩
    rw [f_X5_findFewest_89, f.i 12404 rfl, hn, if_pos (nI_lt (by omega) (by omega)), ib_n (a := i) (by omega), decide_eq_true (show i < 25 by omega), ncl (a := i) (by omega), c1]
    simp only [grd_true]
    clear v3 v4
    by_cases hv : n < v
    · rw [if_pos (nI_lt hv (by omega))]
      refine kk σ v c1 c2 fw (fun d hd => ?_) f
      obtain ⟨B, b1, b2, b3⟩ := bk d hd
      refine ⟨B, b1, b2, fun q => ?_⟩
      rw [b3]
      by_cases e : q = i
      · subst e; rw [up_is]
        exact ⟨fun h => absurd h.1 (by omega), fun h => absurd h.2.2 (by omega)⟩
      · rw [up_ne _ _ e]
        exact ⟨fun h => ⟨by omega, h.2⟩, fun h => ⟨by omega, h.2⟩⟩
    · obtain ⟨B, b1, b2, b3⟩ := bk v (by omega)
      rw [if_neg (nI_nlt (by omega) (by omega)), ib_n (a := v) (by omega), decide_eq_true (show v < 25 by omega), ncl (a := v) (by omega), b1, show (1 : Int32) = nI 1 from rfl, nshl 1 (by omega), nor, Nat.one_shiftLeft]
      simp only [grd_true]
      have r2 : ∀ q, (si σ 63 v (nI (B ||| 2 ^ i))).1 62 q = σ.1 62 q := fun q => by simp only [si_rd, reduceIte, Nat.reduceEqDiff]
      refine kk _ v (by rw [r2]; exact c1) (fun j' h1 h2 => by rw [r2]; exact c2 j' h1 h2) fw (fun d hd => ?_) (f.si _ _ _ rfl)
      rw [si_rd, if_pos rfl]
      by_cases ed : d = v
      · rw [if_pos ed]
        refine ⟨_, rfl, orL_lt b2 (by omega), fun q => ?_⟩
        rw [or_bit, b3]
        by_cases e : q = i
        · subst e; rw [up_is]
          exact ⟨fun _ => ⟨by omega, by omega, ed.symm⟩, fun _ => Or.inr rfl⟩
        · rw [up_ne _ _ e, ed]
          exact ⟨fun h => h.elim (fun h => ⟨by omega, h.2⟩) (fun h => absurd h e), fun h => Or.inl ⟨by omega, h.2⟩⟩
      · rw [if_neg ed]
        obtain ⟨B', b1', b2', b3'⟩ := bk d hd
        refine ⟨B', b1', b2', fun q => ?_⟩
        rw [b3']
        by_cases e : q = i
        · subst e; rw [up_is]
          exact ⟨fun h => absurd h.1 (by omega), fun h => absurd h.2.2.symm ed⟩
        · rw [up_ne _ _ e]
          exact ⟨fun h => ⟨by omega, h.2⟩, fun h => ⟨by omega, h.2⟩⟩
  | succ k ih =>
    intro fuel j v σ hk hf hj hjn c1 c2 v1 v2 v3 v4 bk f
    obtain ⟨fuel, rfl⟩ : ∃ f, fuel = f + 1 := ⟨fuel - 1, by omega⟩
    have hjn' : j ≤ n := by
      have := hk
      clear v3 v4; omega
    have h2k : n + 1 - (j + 1) = k ∧ k < fuel ∧ j + 1 ≤ n + 1 ∧ i < j + 1 := by clear v3 v4; omega
    have sml : i < 2147483648 ∧ j < 2147483648 ∧ n < 2147483648 ∧ v < 2147483648 := by clear v3 v4; omega
    have bb : ushr (nI X) (nI j) &&& 1 = nI (if X.testBit j then 1 else 0) := nbit (by clear v3 v4; omega) (by clear v3 v4; omega)
    rw [f_X5_findFewest_89, f.i 12404 rfl, hn, if_neg (nI_nlt hjn' sml.2.2.1), bb, nI_1]
    by_cases hx : X.testBit j = true
    · rw [if_pos hx, if_pos (show nI 1 = (1 : Int32) from rfl), ib_n (a := j) sml.2.1, decide_eq_true (show j < 25 by clear v3 v4; omega), ib_n (a := i) sml.1, decide_eq_true (show i < 25 by clear v3 v4; omega), ncl sml.1, ncl sml.2.1, c1, c2 j hj hjn', nI_1]
      simp only [grd_true]
      obtain ⟨x1, x2, t0, x3, x4⟩ := (hb j).mp hx
      have hFj := hF j hj hjn'
      by_cases hv : v ≤ F j + 1
      · rw [if_pos (nI_le hv (by clear v3 v4; omega))]
        refine ih fuel (j + 1) v σ h2k.1 h2k.2.1 h2k.2.2.2 h2k.2.2.1 c1 c2 v1 v2 (fun t j' h1 h2 h3 h4 => ?_) v4 bk f
        by_cases e : j' = j
        · rw [e]; exact hv
        · exact v3 t j' h1 h2 (by clear v3 v4; omega) h4
      · have hw : F j + 1 < v := by clear v3 v4; omega
        have r2 : ∀ q, (si σ 62 i (nI (F j + 1))).1 62 q = if q = i then nI (F j + 1) else σ.1 62 q := fun q => by simp only [si_rd, reduceIte, Nat.reduceEqDiff]
        rw [if_neg (nI_ge hw sml.2.2.2)]
        refine ih fuel (j + 1) (F j + 1) _ h2k.1 h2k.2.1 h2k.2.2.2 h2k.2.2.1 (by rw [r2, if_pos rfl]) (fun j' h1 h2 => by rw [r2, if_neg (by clear v3 v4; omega)]; exact c2 j' h1 h2) (by clear v3 v4; omega) (Or.inr (by clear v3 v4; omega)) (fun t j' h1 h2 h3 h4 => ?_) (fun _ => ⟨t0, j, x3, hj, hjn', x4, rfl⟩) (fun d hd => ?_) (f.si _ _ _ rfl)
        · by_cases e : j' = j
          · rw [e]; exact Nat.le_refl _
          · have := v3 t j' h1 h2 (by clear v3 v4; omega) h4
            clear v3 v4; omega
        · rw [si_rd, if_neg (by decide)]; exact bk d hd
    · rw [if_neg hx, if_neg (show ¬ nI 0 = (1 : Int32) by decide)]
      refine ih fuel (j + 1) v σ h2k.1 h2k.2.1 h2k.2.2.2 h2k.2.2.1 c1 c2 v1 v2 (fun t j' h1 h2 h3 h4 => ?_) v4 bk f
      by_cases e : j' = j
      · rw [e] at h4
        exact absurd ((hb j).mpr ⟨hj, hjn', t, h1, h4⟩) hx
      · exact v3 t j' h1 h2 (by clear v3 v4; omega) h4
