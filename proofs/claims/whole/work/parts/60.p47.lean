/-! read: findFewest -/
theorem x_fw45 {N : Nat} {S : Nat → Nat → Nat → Bool} {nt n i : Nat} (h40 : nt ≤ 40) (hn24 : n ≤ 24) (hi : i < n) {σ : St} (en : EnT σ S n (fun t i => t < nt ∧ i < n)) (h76 : σ.1 7600 0 = nI nt) {k37 : Int32 → St → Option St} :
    ∀ (k fuel t X : Nat), nt - t = k → k < fuel → t ≤ nt → X < 33554432 → (∀ j, X.testBit j = true ↔ (i < j ∧ j ≤ n ∧ ∃ t', t' < t ∧ S t' i j = true)) → ∃ X', X' < 33554432 ∧ (∀ j, X'.testBit j = true ↔ (i < j ∧ j ≤ n ∧ ∃ t', t' < nt ∧ S t' i j = true)) ∧ f_X5_findFewest_45 N k37 fuel (nI i) (nI X) (nI t) σ = f_X5_findFewest_89 N k37 N (nI i) (nI X') (nI (i + 1)) (si σ 62 i 1000) := by
  intro k
  induction k with
  | zero =>
    intro fuel t X hk hf ht hX hb
    obtain ⟨fuel, rfl⟩ : ∃ f, fuel = f + 1 := ⟨fuel - 1, by omega⟩
    have e : t = nt := by omega
    subst e
    refine ⟨X, hX, hb, ?_⟩
    rw [f_X5_findFewest_45, h76, if_pos (nI_le (by omega) (by omega)), ib_n (by omega), decide_eq_true (show i < 25 by omega), grd_true, ncl (by omega), nI_1]
  | succ k ih =>
    intro fuel t X hk hf ht hX hb
    obtain ⟨fuel, rfl⟩ : ∃ f, fuel = f + 1 := ⟨fuel - 1, by omega⟩
    obtain ⟨E, e1, e2, e3⟩ := en t i ⟨by omega, hi⟩
    have ea : nI t * 24 + nI i = nI (t * 24 + i) := by rw [show (24 : Int32) = nI 24 from rfl, nmul, nadd]
    rw [f_X5_findFewest_45, h76, if_neg (nI_ge (by omega) (by omega)), ea, ib_n (by omega), decide_eq_true (show t * 24 + i < 960 by omega), grd_true, ncl (by omega), e1, nor, nI_1]
    refine ih fuel (t + 1) (X ||| E) (by omega) (by omega) (by omega) (Nat.or_lt_two_pow (n := 25) hX e2) (fun j => ?_)
    rw [Nat.testBit_or, Bool.or_eq_true, hb, e3]
    constructor
    · rintro (⟨h1, h2, t', h3, h4⟩ | ⟨h1, h2, h3⟩)
      · exact ⟨h1, h2, t', by omega, h4⟩
      · exact ⟨h1, h2, t, by omega, h3⟩
    · rintro ⟨h1, h2, t', h3, h4⟩
      by_cases e : t' = t
      · rw [e] at h4; exact Or.inr ⟨h1, h2, h4⟩
      · exact Or.inl ⟨h1, h2, t', by omega, h4⟩
def FwT (σ : St) (S : Nat → Nat → Nat → Bool) (nt n : Nat) (F : Nat → Nat) : Prop := (∀ j, j ≤ n → σ.1 62 j = nI (F j)) ∧ F n = 0 ∧ (∀ i, i < n → FwO S nt n F i (F i)) ∧ BkT σ n F 0
theorem x_fw37 {N : Nat} (hN : 802 < N) {S : Nat → Nat → Nat → Bool} {nt n : Nat} (h40 : nt ≤ 40) (hn24 : n ≤ 24) {σ0 : St} (en : EnT σ0 S n (fun t i => t < nt ∧ i < n)) (h76 : σ0.1 7600 0 = nI nt) (hn : σ0.1 12404 0 = nI n) :
    ∀ (m fuel : Nat) (σ : St) (F : Nat → Nat), m ≤ n → m < fuel → (∀ j, m ≤ j → j ≤ n → σ.1 62 j = nI (F j)) → F n = 0 → (∀ i, m ≤ i → i < n → FwO S nt n F i (F i)) → BkT σ n F m → Fr VFw σ0 σ → ok (f_X5_findFewest_37 N fuel (nI m + -1) σ) (fun σ' => (∃ F, FwT σ' S nt n F) ∧ Fr VFw σ0 σ') := by
  intro m
  induction m with
  | zero =>
    intro fuel σ F hm hf c1 c2 c3 bk f
    obtain ⟨fuel, rfl⟩ : ∃ f, fuel = f + 1 := ⟨fuel - 1, by omega⟩
    rw [f_X5_findFewest_37, if_pos (show nI 0 + -1 < (0 : Int32) by decide), ok_some]
    exact ⟨⟨F, fun j hj => c1 j (by omega) hj, c2, fun i hi => c3 i (by omega) hi, bk⟩, f⟩
  | succ m ih =>
    intro fuel σ F hm hf c1 c2 c3 bk f
    obtain ⟨fuel, rfl⟩ : ∃ f, fuel = f + 1 := ⟨fuel - 1, by omega⟩
    have en1 : EnT σ S n (fun t i => t < nt ∧ i < n) := fun t i h => by rw [f.i 61 rfl]; exact en t i h
    obtain ⟨X, hX, hb, eq⟩ := x_fw45 (N := N) h40 hn24 (show m < n by omega) en1 (by rw [f.i 7600 rfl]; exact h76) (k37 := f_X5_findFewest_37 N fuel) nt N 0 0 (by omega) (by omega) (by omega) (by omega) (fun j => by
      rw [Nat.zero_testBit]
      exact ⟨fun h => absurd h (by decide), fun ⟨_, _, t', h, _⟩ => absurd h (by omega)⟩)
    rw [nI_back, f_X5_findFewest_37, if_neg (show ¬ nI m < (0 : Int32) from nI_nlt (b := 0) (by omega) (by omega)), show (0 : Int32) = nI 0 from rfl, eq]
    have r2 : ∀ q, (si σ 62 m 1000).1 62 q = if q = m then 1000 else σ.1 62 q := fun q => by simp only [si_rd, reduceIte, Nat.reduceEqDiff]
    have r3 : ∀ q, (si σ 62 m 1000).1 63 q = σ.1 63 q := fun q => by simp only [si_rd, reduceIte, Nat.reduceEqDiff]
    refine x_fw89 (S := S) (nt := nt) (F := F) hn24 (show m < n by omega) hX hb (fun j h1 h2 => ?_) hn (fun σ' v y1 y2 y3 y4 y5 => ?_) (n - m) N (m + 1) 1000 _ (by omega) (by omega) (by omega) (by omega) (by rw [r2, if_pos rfl]; decide) (fun j' h1 h2 => by rw [r2, if_neg (by omega)]; exact c1 j' (by omega) h2) (by omega) (Or.inl rfl) (fun t j' h1 h2 h3 h4 => absurd h3 (by omega)) (fun h => absurd h (by omega)) (fun d hd => by rw [r3]; exact bk d hd) (f.si _ _ _ rfl)
    · by_cases e : j = n
      · rw [e, c2]; exact Or.inr (by omega)
      · exact (c3 j (by omega) (by omega)).2.1
    · refine ih fuel σ' (up F m v) (by omega) (by omega) (fun j h1 h2 => ?_) (by rw [up_ne _ _ (by omega)]; exact c2) (fun i h1 h2 => ?_) y4 y5
      · by_cases e : j = m
        · rw [e, up_is]; exact y1
        · rw [up_ne _ _ e]; exact y2 j (by omega) h2
      · by_cases e : i = m
        · rw [e, up_is]; exact y3.up (Nat.le_refl _)
        · rw [up_ne _ _ e]; exact (c3 i (by omega) h2).up (by omega)
theorem x_findFewest {N : Nat} (hN : 802 < N) {S : Nat → Nat → Nat → Bool} {nt n : Nat} (h40 : nt ≤ 40) (hn24 : n ≤ 24) {σ : St} (en : EnT σ S n (fun t i => t < nt ∧ i < n)) (h76 : σ.1 7600 0 = nI nt) (hn : σ.1 12404 0 = nI n) :
    ok (f_X5_findFewest N σ) (fun σ' => (∃ F, FwT σ' S nt n F) ∧ Fr VFw σ σ') := by
  unfold f_X5_findFewest
  obtain ⟨σ1, e1, z1, f1⟩ := x_fill (r0 := 63) (rn0 := 25) (N := N) (x := 0) (σ := σ) (by omega) (by omega)
  have F1 : Fr VFw σ σ1 := f1.wide rfl
  rw [e1, bo_some, F1.i 12404 rfl, hn, ib_n (a := n) (by omega), decide_eq_true (show n < 25 by omega), show ib 0 25 = true from rfl, grd_true, grd_true, ncl (a := n) (by omega), Int32.sub_eq_add_neg, show (1 : Int32) = nI 1 from rfl, nshl 1 (by omega), Nat.one_shiftLeft]
  have F2 : Fr VFw σ1 (si (si σ1 62 n 0) 63 0 (nI (2 ^ n))) := ((Fr.refl _ _).si _ _ _ rfl).si _ _ _ rfl
  have r2 : ∀ q, (si (si σ1 62 n 0) 63 0 (nI (2 ^ n))).1 62 q = if q = n then 0 else σ1.1 62 q := fun q => by simp only [si_rd, reduceIte, Nat.reduceEqDiff]
  have r3 : ∀ q, (si (si σ1 62 n 0) 63 0 (nI (2 ^ n))).1 63 q = if q = 0 then nI (2 ^ n) else σ1.1 63 q := fun q => by simp only [si_rd, reduceIte, Nat.reduceEqDiff]
  refine x_fw37 hN h40 hn24 en h76 hn n N _ (fun _ => 0) (Nat.le_refl _) (by omega) (fun j h1 h2 => ?_) rfl (fun i h1 h2 => absurd h2 (by omega)) (fun d hd => ?_) (F1.trans F2)
  · rw [r2, if_pos (by omega)]; rfl
  · rw [r3]
    by_cases e : d = 0
    · rw [if_pos e]
      refine ⟨2 ^ n, rfl, (show 2 ^ n < 2 ^ 25 from Nat.pow_lt_pow_right (by omega) (by omega)), fun i => ?_⟩
      rw [Nat.testBit_two_pow, decide_eq_true_iff]
      exact ⟨fun h => ⟨by omega, by omega, e.symm⟩, fun h => by omega⟩
    · rw [if_neg e]
      refine ⟨0, z1 d (by omega), by omega, fun i => ?_⟩
      rw [Nat.zero_testBit]
      exact ⟨fun h => absurd h (by decide), fun h => absurd h.2.2.symm e⟩
