/-! read: the reference's fewest -/
def SpS (τ : St) (S : Nat → Nat → Nat → Bool) (nt n : Nat) : Prop := ∀ t i j, t < nt → i < n → i < j → j ≤ n → τ.1 50 (576 * t + 24 * i + j - 1) = b2 (S t i j)
def gw (v : Nat) : Nat := if v = 1000 then 1000000000 else v
theorem gw_lt {v : Nat} (h : v = 1000 ∨ v ≤ 24) : gw v ≤ 1000000000 := by
  unfold gw
  by_cases e : v = 1000
  · rw [if_pos e]; decide
  · rw [if_neg e]; omega
theorem gw_le {v w : Nat} (h : v = 1000 ∨ v ≤ 24) (k : w = 1000 ∨ w ≤ 24) : gw v ≤ gw w + 1 ↔ v ≤ w + 1 := by
  unfold gw
  by_cases e : v = 1000
  · by_cases e2 : w = 1000
    · rw [if_pos e, if_pos e2]; omega
    · rw [if_pos e, if_neg e2]; omega
  · by_cases e2 : w = 1000
    · rw [if_neg e, if_pos e2]; omega
    · rw [if_neg e, if_neg e2]
theorem gw_up {v w : Nat} (h : v = 1000 ∨ v ≤ 24) (k : w = 1000 ∨ w ≤ 24) (hv : ¬ v ≤ w + 1) : gw w + 1 = gw (w + 1) := by
  unfold gw
  rw [if_neg (by omega), if_neg (by omega)]
theorem ix50 {t i j : Nat} (hj : 1 ≤ j) : 576 * nI t + 24 * nI i + nI j - 1 = nI (576 * t + 24 * i + j - 1) := by
  rw [show (576 : Int32) = nI 576 from rfl, show (24 : Int32) = nI 24 from rfl, nmul, nmul, nadd, nadd, show (1 : Int32) = nI 1 from rfl, nsub (by omega)]
theorem m_fw62 {N : Nat} {S : Nat → Nat → Nat → Bool} {nt n i t : Nat} {F : Nat → Nat} (h40 : nt ≤ 40) (hn24 : n ≤ 24) (hi : i ≤ n) (ht : t < nt) (hF : ∀ j, j ≤ n → F j = 1000 ∨ F j + j ≤ n) (hle : ∀ j, i < j → j ≤ n → S t i j = true → F i ≤ F j + 1) {k23 : Int32 → St → Option (Int32 × St)} {k50 : Int32 → Int32 → St → Option (Int32 × St)} :
    ∀ (k fuel j v : Nat) (τ : St), n + 1 - j = k → k < fuel → i < j → j ≤ n + 1 → SpS τ S nt n → τ.1 1069 0 = nI n → τ.1 47 i = nI (gw v) → (∀ q, i < q → q ≤ n → τ.1 47 q = nI (gw (F q))) → (v = 1000 ∨ v + i ≤ n) → F i ≤ v →
    ∃ τ' v', f_X12_read_62 N k23 k50 fuel (nI i) (nI t) (nI j) τ = k50 (nI i) (nI t + 1) τ' ∧ τ'.1 47 i = nI (gw v') ∧ (∀ q, i < q → q ≤ n → τ'.1 47 q = nI (gw (F q))) ∧ (v' = 1000 ∨ v' + i ≤ n) ∧ F i ≤ v' ∧ v' ≤ v ∧ (∀ q, j ≤ q → q ≤ n → S t i q = true → v' ≤ F q + 1) ∧ Fr [47] τ τ' := by
  intro k
  induction k with
  | zero =>
    intro fuel j v τ hk hf hj hjn sp h69 c1 c2 v1 v2
    obtain ⟨fuel, rfl⟩ : ∃ f, fuel = f + 1 := ⟨fuel - 1, by omega⟩
    refine ⟨τ, v, ?_, c1, c2, v1, v2, Nat.le_refl _, fun q h1 h2 _ => by omega, Fr.refl _ _⟩
    rw [f_X12_read_62, h69, if_pos (nI_lt (by omega) (by omega))]
  | succ k ih =>
    intro fuel j v τ hk hf hj hjn sp h69 c1 c2 v1 v2
    obtain ⟨fuel, rfl⟩ : ∃ f, fuel = f + 1 := ⟨fuel - 1, by omega⟩
    have hj2 : j ≤ n := by omega
    have hFj := hF j hj2
    have v1' : v = 1000 ∨ v ≤ 24 := by omega
    have hFj' : F j = 1000 ∨ F j ≤ 24 := by omega
    have b1 := gw_lt v1'
    have b2' := gw_lt hFj'
    rw [f_X12_read_62, h69, if_neg (nI_nlt hj2 (by omega)), ix50 (by omega), ib_n (by omega), decide_eq_true (show 576 * t + 24 * i + j - 1 < 23040 by omega), grd_true, ncl (by omega), sp t i j ht (by omega) hj hj2, nI_1 j]
    cases hs : S t i j with
    | false =>
      rw [if_pos (show b2 false = 0 from rfl)]
      obtain ⟨τ', v', e1, e2, e3, e4, e5, e6, e7, e8⟩ := ih fuel (j + 1) v τ (by omega) (by omega) (by omega) (by omega) sp h69 c1 c2 v1 v2
      refine ⟨τ', v', e1, e2, e3, e4, e5, e6, fun q h1 h2 h3 => ?_, e8⟩
      by_cases e : q = j
      · rw [e, hs] at h3; cases h3
      · exact e7 q (by omega) h2 h3
    | true =>
      rw [if_neg (show ¬ b2 true = 0 by decide), ib_n (a := j) (by omega), decide_eq_true (show j < 25 by omega), ib_n (a := i) (by omega), decide_eq_true (show i < 25 by omega), ncl (a := i) (by omega), ncl (a := j) (by omega), c1, c2 j hj hj2, show (1 : Int32) + nI (gw (F j)) = nI (gw (F j) + 1) by rw [show (1 : Int32) = nI 1 from rfl, nadd, Nat.add_comm]]
      simp only [grd_true]
      have hcmp := gw_le v1' hFj'
      by_cases hv : v ≤ F j + 1
      · rw [if_pos (nI_le (hcmp.mpr hv) (by omega))]
        obtain ⟨τ', v', e1, e2, e3, e4, e5, e6, e7, e8⟩ := ih fuel (j + 1) v τ (by omega) (by omega) (by omega) (by omega) sp h69 c1 c2 v1 v2
        refine ⟨τ', v', e1, e2, e3, e4, e5, e6, fun q h1 h2 h3 => ?_, e8⟩
        by_cases e : q = j
        · rw [e]; omega
        · exact e7 q (by omega) h2 h3
      · rw [if_neg (nI_ge (Nat.lt_of_not_le (fun q => hv (hcmp.mp q))) (by omega)), gw_up v1' hFj' hv]
        have r : ∀ a q, a ≠ 47 ∨ q ≠ i → (si τ 47 i (nI (gw (F j + 1)))).1 a q = τ.1 a q := fun a q h => by
          rw [si_rd]
          by_cases e : a = 47
          · rw [if_pos e, if_neg (h.elim (fun x => absurd e x) id), e]
          · rw [if_neg e]
        have f1 : Fr [47] τ (si τ 47 i (nI (gw (F j + 1)))) := (Fr.refl _ _).si _ _ _ rfl
        obtain ⟨τ', v', e1, e2, e3, e4, e5, e6, e7, e8⟩ := ih fuel (j + 1) (F j + 1) (si τ 47 i (nI (gw (F j + 1)))) (by omega) (by omega) (by omega) (by omega) (fun t i j h1 h2 h3 h4 => by rw [f1.i 50 rfl]; exact sp t i j h1 h2 h3 h4) (by rw [f1.i 1069 rfl]; exact h69) (by rw [si_rd, if_pos rfl, if_pos rfl]) (fun q h1 h2 => by rw [r 47 q (Or.inr (by omega))]; exact c2 q h1 h2) (by have := hF j hj2; omega) (hle j hj hj2 hs)
        refine ⟨τ', v', e1, e2, e3, e4, e5, by omega, fun q h1 h2 h3 => ?_, f1.trans e8⟩
        by_cases e : q = j
        · rw [e]; omega
        · exact e7 q (by omega) h2 h3
theorem m_fw50 {N : Nat} (hN : 802 < N) {S : Nat → Nat → Nat → Bool} {nt n i : Nat} {F : Nat → Nat} (h40 : nt ≤ 40) (hn24 : n ≤ 24) (hi : i ≤ n) (hF : ∀ j, j ≤ n → F j = 1000 ∨ F j + j ≤ n) (hle : ∀ t j, t < nt → i < j → j ≤ n → S t i j = true → F i ≤ F j + 1) {k23 : Int32 → St → Option (Int32 × St)} :
    ∀ (k fuel t v : Nat) (τ : St), nt - t = k → k < fuel → t ≤ nt → SpS τ S nt n → τ.1 1069 0 = nI n → τ.1 1049 0 = nI nt → τ.1 47 i = nI (gw v) → (∀ q, i < q → q ≤ n → τ.1 47 q = nI (gw (F q))) → (v = 1000 ∨ v + i ≤ n) → F i ≤ v →
    ∃ τ' v', f_X12_read_50 N k23 fuel (nI i) (nI t) τ = k23 (nI i + -1) τ' ∧ τ'.1 47 i = nI (gw v') ∧ (∀ q, i < q → q ≤ n → τ'.1 47 q = nI (gw (F q))) ∧ F i ≤ v' ∧ v' ≤ v ∧ (∀ t' q, t ≤ t' → t' < nt → i < q → q ≤ n → S t' i q = true → v' ≤ F q + 1) ∧ Fr [47] τ τ' := by
  intro k
  induction k with
  | zero =>
    intro fuel t v τ hk hf ht sp h69 h49 c1 c2 v1 v2
    obtain ⟨fuel, rfl⟩ : ∃ f, fuel = f + 1 := ⟨fuel - 1, by omega⟩
    refine ⟨τ, v, ?_, c1, c2, v2, Nat.le_refl _, fun t' q h1 h2 => absurd h2 (by omega), Fr.refl _ _⟩
    rw [f_X12_read_50, h49, if_pos (nI_le (by omega) (by omega))]
  | succ k ih =>
    intro fuel t v τ hk hf ht sp h69 h49 c1 c2 v1 v2
    obtain ⟨fuel, rfl⟩ : ∃ f, fuel = f + 1 := ⟨fuel - 1, by omega⟩
    rw [f_X12_read_50, h49, if_neg (nI_ge (by omega) (by omega)), nI_1 i]
    obtain ⟨τ1, w, a1, a2, a3, a4, a5, a6, a7, a8⟩ := m_fw62 (N := N) h40 hn24 hi (show t < nt by omega) hF (fun j h1 h2 h3 => hle t j (by omega) h1 h2 h3) (k23 := k23) (k50 := f_X12_read_50 N k23 fuel) (n - i) N (i + 1) v τ (by omega) (by omega) (by omega) (by omega) sp h69 c1 c2 v1 v2
    rw [a1, nI_1 t]
    obtain ⟨τ', v', e1, e2, e3, e4, e5, e6, e7⟩ := ih fuel (t + 1) w τ1 (by omega) (by omega) (by omega) (fun t i j h1 h2 h3 h4 => by rw [a8.i 50 rfl]; exact sp t i j h1 h2 h3 h4) (by rw [a8.i 1069 rfl]; exact h69) (by rw [a8.i 1049 rfl]; exact h49) a2 a3 a4 a5
    refine ⟨τ', v', e1, e2, e3, e4, by omega, fun t' q h1 h2 h3 h4 h5 => ?_, a8.trans e7⟩
    by_cases e : t' = t
    · rw [e] at h5
      have := a7 q (by omega) h4 h5
      omega
    · exact e6 t' q (by omega) h2 h3 h4 h5
def FwP (S : Nat → Nat → Nat → Bool) (nt n : Nat) (F : Nat → Nat) : Prop := F n = 0 ∧ ∀ i, i < n → FwO S nt n F i (F i)
theorem FwP.bd {S : Nat → Nat → Nat → Bool} {nt n : Nat} {F : Nat → Nat} (h : FwP S nt n F) (j : Nat) (hj : j ≤ n) : F j = 1000 ∨ F j + j ≤ n := by
  by_cases e : j = n
  · rw [e, h.1]; exact Or.inr (by omega)
  · rcases (h.2 j (by omega)).2.1 with q | q
    · exact Or.inl q
    · exact Or.inr q
theorem m_fw23 {N : Nat} (hN : 802 < N) {S : Nat → Nat → Nat → Bool} {nt n : Nat} {F : Nat → Nat} (h40 : nt ≤ 40) (hn24 : n ≤ 24) (fw : FwP S nt n F) : ∀ (m fuel : Nat) (τ : St), m ≤ n + 1 → m < fuel → SpS τ S nt n → τ.1 1069 0 = nI n → τ.1 1049 0 = nI nt → (∀ q, m ≤ q → q ≤ n → τ.1 47 q = nI (gw (F q))) →
    ∃ τ', f_X12_read_23 N fuel (nI m + -1) τ = (if τ'.1 47 0 < 1000000000 then f_X12_read_171 N N (τ'.1 47 0) 0 (si τ' 51 0 1) else some (-1, τ')) ∧ (∀ q, q ≤ n → τ'.1 47 q = nI (gw (F q))) ∧ Fr [47] τ τ' := by
  intro m
  induction m with
  | zero =>
    intro fuel τ hm hf sp h69 h49 c
    obtain ⟨fuel, rfl⟩ : ∃ f, fuel = f + 1 := ⟨fuel - 1, by omega⟩
    refine ⟨τ, ?_, fun q hq => c q (by omega) hq, Fr.refl _ _⟩
    rw [f_X12_read_23, if_pos (show nI 0 + -1 < (0 : Int32) by decide), show ib 0 25 = true from rfl]
    simp only [grd_true]
  | succ m ih =>
    intro fuel τ hm hf sp h69 h49 c
    obtain ⟨fuel, rfl⟩ : ∃ f, fuel = f + 1 := ⟨fuel - 1, by omega⟩
    have st : ∃ v0, (v0 = 1000 ∨ v0 + m ≤ n) ∧ F m ≤ v0 ∧ (m = n → v0 = 0) ∧ f_X12_read_23 N (fuel + 1) (nI m) τ = f_X12_read_50 N (f_X12_read_23 N fuel) N (nI m) (nI 0) (si τ 47 m (nI (gw v0))) := by
      rw [f_X12_read_23, if_neg (show ¬ nI m < (0 : Int32) from nI_nlt (b := 0) (by omega) (by omega)), h69]
      by_cases e : m = n
      · refine ⟨0, Or.inr (by omega), by rw [e, fw.1]; omega, fun _ => rfl, ?_⟩
        rw [e, if_pos rfl, f_X12_read_47, ib_n (by omega), decide_eq_true (show n < 25 by omega), grd_true, ncl (by omega)]; rfl
      · refine ⟨1000, Or.inl rfl, by have := fw.bd m (by omega); omega, fun h => absurd h e, ?_⟩
        rw [if_neg (fun q => e ((neq (by omega) (by omega)).mp q)), f_X12_read_47, ib_n (by omega), decide_eq_true (show m < 25 by omega), grd_true, ncl (by omega)]; rfl
    obtain ⟨v0, z1, z2, z3, z4⟩ := st
    rw [nI_back, z4]
    have f1 : Fr [47] τ (si τ 47 m (nI (gw v0))) := (Fr.refl _ _).si _ _ _ rfl
    have r : ∀ q, (si τ 47 m (nI (gw v0))).1 47 q = if q = m then nI (gw v0) else τ.1 47 q := fun q => by simp only [si_rd, reduceIte, Nat.reduceEqDiff]
    have sp1 : ∀ {τ1 : St}, Fr [47] τ τ1 → SpS τ1 S nt n := fun f t i j h1 h2 h3 h4 => by rw [f.i 50 rfl]; exact sp t i j h1 h2 h3 h4
    obtain ⟨τ1, v', e1, e2, e3, e4, e5, e6, e7⟩ := m_fw50 (N := N) hN h40 hn24 (show m ≤ n by omega) (fun j hj => fw.bd j hj) (fun t j h1 h2 h3 h4 => (fw.2 m (by omega)).2.2.1 t j h1 h2 h3 h4) (k23 := f_X12_read_23 N fuel) nt N 0 v0 (si τ 47 m (nI (gw v0))) (by omega) (by omega) (by omega) (sp1 f1) (by rw [f1.i 1069 rfl]; exact h69) (by rw [f1.i 1049 rfl]; exact h49) (by rw [r, if_pos rfl]) (fun q h1 h2 => by rw [r, if_neg (by omega)]; exact c q (by omega) h2) z1 z2
    have hv : v' = F m := by
      by_cases e : m = n
      · have := z3 e
        omega
      · obtain ⟨_, b1, _, b2⟩ := fw.2 m (by omega)
        rcases b1 with b1 | b1
        · clear b2; omega
        · obtain ⟨t, j, d1, d2, d3, d4, d5⟩ := b2 (by clear b2; omega)
          have := e6 t j (by omega) d1 d2 d3 d4
          clear b2 e6; omega
    rw [e1]
    have F1 := f1.trans e7
    obtain ⟨τ', y1, y2, y3⟩ := ih fuel τ1 (by omega) (by omega) (sp1 F1) (by rw [F1.i 1069 rfl]; exact h69) (by rw [F1.i 1049 rfl]; exact h49) (fun q h1 h2 => by
      by_cases e : q = m
      · rw [e, e2, hv]
      · exact e3 q (by omega) h2)
    exact ⟨τ', y1, y2, F1.trans y3⟩
