/-! read: the first TERM that goes on -/
def ctS (S : Nat → Nat → Nat → Bool) (F : Nat → Nat) (n R d t q : Nat) : Prop := q ≤ n ∧ F q = d ∧ ∃ i, i < n ∧ R.testBit i = true ∧ i < q ∧ S t i q = true
theorem bit_of_ne {A : Nat} (h : A ≠ 0) : ∃ i, A.testBit i = true := Classical.byContradiction (fun q => h (Nat.eq_of_testBit_eq (fun i => by
  rw [Nat.zero_testBit]
  cases e : A.testBit i with
  | false => rfl
  | true => exact absurd ⟨i, e⟩ q)))
theorem ne_of_bit {A i : Nat} (h : A.testBit i = true) : A ≠ 0 := fun e => by rw [e, Nat.zero_testBit] at h; cases h
abbrev Q65 (k : Nat) : Nat → Nat → Prop := fun a q => a = 65 ∧ q = k
abbrev Q51 (k : Nat) : Nat → Nat → Prop := fun a q => (a = 51 ∧ q = k + 1) ∨ (a = 48 ∧ q = k)
theorem ct_t {N : Nat} (hN : 802 < N) {S : Nat → Nat → Nat → Bool} {nt n many k R B : Nat} {F : Nat → Nat} (h40 : nt ≤ 40) (hn24 : n ≤ 24) (hm : many ≤ 24) (hk : k < many) (hF : ∀ j, j ≤ n → F j = 1000 ∨ F j + j ≤ n) (hR : R < 33554432) (hB : B < 33554432) (hb : ∀ i, B.testBit i = true ↔ (0 ≤ i ∧ i ≤ n ∧ F i = many - k - 1)) {k4 : Int32 → Int32 → St → Option St} {k171 : Int32 → Int32 → St → Option (Int32 × St)} :
    ∀ (c fx fm t : Nat) (σ τ : St), nt - t = c → c + 1 < fx → c + 1 < fm → t ≤ nt → EnT σ S n (fun t i => t < nt ∧ i < n) → σ.1 12404 0 = nI n → σ.1 7600 0 = nI nt → SpS τ S nt n → τ.1 1069 0 = nI n → τ.1 1049 0 = nI nt → (∀ q, q ≤ n → τ.1 47 q = nI (gw (F q))) → τ.1 51 k = nI R → τ.1 51 (k + 1) = nI 0 → (∃ t' q, t ≤ t' ∧ t' < nt ∧ ctS S F n R (many - k - 1) t' q) →
    ∃ σ' τ' u A, f_X5_chooseTerms_32 N k4 fx (nI R) (nI k) (nI B) (nI 0) (nI t) σ = k4 (nI A) (nI (k + 1)) σ' ∧ f_X12_read_187 N k171 fm (nI many) (nI k) (nI t) τ = k171 (nI many) (nI (k + 1)) τ' ∧ u < nt ∧ σ'.1 65 k = nI u ∧ τ'.1 48 k = nI u ∧ τ'.1 51 (k + 1) = nI A ∧ A < 33554432 ∧ A ≠ 0 ∧ (∀ q, A.testBit q = true ↔ ctS S F n R (many - k - 1) u q) ∧ FrP (Q65 k) σ σ' ∧ FrP (Q51 k) τ τ' := by
  intro c
  induction c with
  | zero =>
    intro fx fm t σ τ hc hfx hfm ht en hn h76 sp h69 h49 c47 c51 c52 ⟨t', q, h1, h2, _⟩
    exact absurd h2 (by omega)
  | succ c ih =>
    intro fx fm t σ τ hc hfx hfm ht en hn h76 sp h69 h49 c47 c51 c52 ex
    obtain ⟨fx, rfl⟩ : ∃ f, fx = f + 1 := ⟨fx - 1, by clear ex; omega⟩
    obtain ⟨fm, rfl⟩ : ∃ f, fm = f + 1 := ⟨fm - 1, by clear ex; omega⟩
    have lt : t < nt := by clear ex; omega
    obtain ⟨E, a1, a2, a3⟩ := x_anyEnds (N := N) h40 hn24 lt hR en hn n N 0 0 rfl (by clear ex; omega) (by clear ex; omega) (by clear ex; omega)
    obtain ⟨τ1, A, b1, b2', b3, b4, b5⟩ := m_ct209 (N := N) hN (k := k) h40 hn24 lt hm hk hF hR (k171 := k171) (k187 := f_X12_read_187 N k171 fm) n N 0 0 τ rfl (by clear ex; omega) (by clear ex; omega) sp h69 c47 c51 c52 (by clear ex; omega)
    have bA : ∀ q, A.testBit q = true ↔ ctS S F n R (many - k - 1) t q := fun q => by
      rw [b4, Nat.zero_testBit]
      exact ⟨fun h => h.elim (fun h => absurd h (by decide)) (fun ⟨h1, h2, i', _, h3⟩ => ⟨h1, h2, i', h3⟩), fun ⟨h1, h2, i', h3⟩ => Or.inr ⟨h1, h2, i', Nat.zero_le _, h3⟩⟩
    have eA : E &&& B = A := Nat.eq_of_testBit_eq (fun q => by
      rw [Nat.testBit_and, Bool.eq_iff_iff, Bool.and_eq_true, a3, hb, bA, Nat.zero_testBit]
      constructor
      · rintro ⟨h1 | ⟨h1, i', _, h3⟩, _, h4, h5⟩
        · exact absurd h1 (by decide)
        · exact ⟨h1, h5, i', h3⟩
      · rintro ⟨h1, h2, i', h3⟩
        exact ⟨Or.inr ⟨h1, i', Nat.zero_le _, h3⟩, Nat.zero_le _, h1, h2⟩)
    have z0 : (0 : Int32) = nI 0 := rfl
    rw [f_X5_chooseTerms_32, f_X12_read_187, h76, h49, if_neg (nI_ge lt (by clear ex; omega)), if_neg (nI_ge lt (by clear ex; omega)), if_pos (show nI 0 = (0 : Int32) from rfl), nI_1 k, ib_n (a := k + 1) (by clear ex; omega), decide_eq_true (show k + 1 < 25 by clear ex; omega), ncl (a := k + 1) (by clear ex; omega), c52, if_pos (show nI 0 = (0 : Int32) from rfl), f_X5_endsFromAny, z0, a1, bo_some, b1, grd_true, ib_n (a := k) (by clear ex; omega), decide_eq_true (show k < 24 by clear ex; omega), grd_true, ncl (a := k) (by clear ex; omega), nand, eA, nI_1 t]
    have f1 : FrP (Q65 k) σ (si σ 65 k (nI t)) := (FrP.refl _ _).si _ _ _ ⟨rfl, rfl⟩
    have g1 : FrP (Q51 k) τ (si τ1 48 k (nI t)) := (b5.wide (fun a j h => Or.inl h)).si _ _ _ (Or.inr ⟨rfl, rfl⟩)
    have r1 : (si σ 65 k (nI t)).1 65 k = nI t := by rw [si_rd, if_pos rfl, if_pos rfl]
    have r2 : (si τ1 48 k (nI t)).1 48 k = nI t := by rw [si_rd, if_pos rfl, if_pos rfl]
    have r3 : (si τ1 48 k (nI t)).1 51 (k + 1) = nI A := by rw [si_rd, if_neg (by decide)]; exact b2'
    generalize si σ 65 k (nI t) = σ1 at *
    generalize si τ1 48 k (nI t) = τ2 at *
    by_cases hA : A = 0
    · have ex' : ∃ t' q, t + 1 ≤ t' ∧ t' < nt ∧ ctS S F n R (many - k - 1) t' q := by
        obtain ⟨t', q, h1, h2, h3⟩ := ex
        refine ⟨t', q, ?_, h2, h3⟩
        by_cases e : t' = t
        · rw [e] at h3; exact absurd hA (ne_of_bit ((bA q).mpr h3))
        · omega
      rw [hA]
      obtain ⟨σ', τ', u, A', e1, e2, e3, e4, e5, e6, e7, e8, e9, e10, e11⟩ := ih fx fm (t + 1) σ1 τ2 (by clear ex ex'; omega) (by clear ex ex'; omega) (by clear ex ex'; omega) (by clear ex ex'; omega) (fun t i h => by rw [(f1 61 _ (fun h => absurd h.1 (by decide))).1]; exact en t i h) (by rw [(f1 12404 0 (fun h => absurd h.1 (by decide))).1]; exact hn) (by rw [(f1 7600 0 (fun h => absurd h.1 (by decide))).1]; exact h76) (fun t i j h1 h2 h3 h4 => by rw [(g1 50 _ (fun h => h.elim (fun h => absurd h.1 (by decide)) (fun h => absurd h.1 (by decide)))).1]; exact sp t i j h1 h2 h3 h4) (by rw [(g1 1069 0 (fun h => h.elim (fun h => absurd h.1 (by decide)) (fun h => absurd h.1 (by decide)))).1]; exact h69) (by rw [(g1 1049 0 (fun h => h.elim (fun h => absurd h.1 (by decide)) (fun h => absurd h.1 (by decide)))).1]; exact h49) (fun q hq => by rw [(g1 47 q (fun h => h.elim (fun h => absurd h.1 (by decide)) (fun h => absurd h.1 (by decide)))).1]; exact c47 q hq) (by rw [(g1 51 k (fun h => h.elim (fun h => absurd h.2 (by omega)) (fun h => absurd h.1 (by decide)))).1]; exact c51) (by rw [r3, hA]) ex'
      exact ⟨σ', τ', u, A', e1, e2, e3, e4, e5, e6, e7, e8, e9, f1.trans e10, g1.trans e11⟩
    · obtain ⟨fx, rfl⟩ : ∃ f, fx = f + 1 := ⟨fx - 1, by clear ex; omega⟩
      obtain ⟨fm, rfl⟩ : ∃ f, fm = f + 1 := ⟨fm - 1, by clear ex; omega⟩
      have nA : ¬ nI A = (0 : Int32) := nI_ne0 (by clear ex; omega) (by clear ex; omega)
      refine ⟨σ1, τ2, t, A, ?_, ?_, lt, r1, r2, r3, b3, hA, bA, f1, g1⟩
      · rw [f_X5_chooseTerms_32, if_neg nA, nI_1 k]
        by_cases h : σ1.1 7600 0 ≤ nI (t + 1)
        · rw [if_pos h]
        · rw [if_neg h]
      · rw [f_X12_read_187, nI_1 k, ib_n (a := k + 1) (by clear ex; omega), decide_eq_true (show k + 1 < 25 by clear ex; omega), ncl (a := k + 1) (by clear ex; omega), r3, if_neg nA, grd_true]
        by_cases h : τ2.1 1049 0 ≤ nI (t + 1)
        · rw [if_pos h]
        · rw [if_neg h]
