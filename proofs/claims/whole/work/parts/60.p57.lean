/-! filled -/
theorem fl_sign {σ τ : St} {m : Nat} {f : Nat → Nat} (hm : m ≤ 10) (hf : ∀ j, j < m → f j < 64) (w : Int32) : (f_X12_in w 10 (9 + nI m) τ = 0 ∧ f_X11_signOf (lN (sp6 f m)) (nI m) (w - 10) σ = -1) ∨ (∃ j, j < m ∧ w = nI (10 + j) ∧ f_X12_in w 10 (9 + nI m) τ = 1 ∧ f_X11_signOf (lN (sp6 f m)) (nI m) (w - 10) σ = nI (f j)) := by
  have e9 : (9 : Int32) + nI m = nI (9 + m) := by rw [show (9 : Int32) = nI 9 from rfl, nadd]
  rw [m_in, e9]
  unfold f_X11_signOf
  have back : w = (w - 10) + 10 := by rw [Int32.sub_add_cancel]
  have wk : ∀ k, 10 ≤ k → w = nI k → w - 10 = nI (k - 10) := fun k h1 h2 => by rw [h2, show (10 : Int32) = nI 10 from rfl, nsub h1]
  have lt := sp6_lt m hf
  have big : sp6 f m < 18446744073709551616 := Nat.lt_of_lt_of_le lt (show 2 ^ (6 * m) ≤ 2 ^ 64 from Nat.pow_le_pow_right (by omega) (by omega))
  have out : (w - 10 < 0 ∨ nI m ≤ w - 10) → ¬ (10 ≤ w ∧ w ≤ nI (9 + m)) := fun h ⟨h1, h2⟩ => by
    rcases pk_ix w (n := 10 + m) (by omega) with q | q | ⟨k, q1, q2⟩
    · exact absurd (Int32.lt_of_lt_of_le q (show (0 : Int32) ≤ 10 by decide)) (Int32.not_lt.mpr h1)
    · have := Int32.le_trans q h2
      exact nI_ge (a := 9 + m) (b := 10 + m) (by omega) (by omega) this
    · have k10 : 10 ≤ k := by
        by_cases e : 10 ≤ k
        · exact e
        · rw [q2] at h1
          exact absurd h1 (nI_ge (b := 10) (by omega) (by omega))
      rw [wk k k10 q2] at h
      rcases h with h | h
      · exact nI_nlt (b := 0) (by omega) (by omega) h
      · exact nI_ge (by omega) (by omega) h
  rcases pk_ix (w - 10) (n := m) (by omega) with q | q | ⟨j, q1, q2⟩
  · exact Or.inl ⟨i00 (out (Or.inl q)), if_pos q⟩
  · refine Or.inl ⟨i00 (out (Or.inr q)), ?_⟩
    rw [if_neg (show ¬ w - 10 < nI m from Int32.not_lt.mpr q)]
    by_cases h : w - 10 < 0
    · rw [if_pos h]
    · rw [if_neg h]
  · right
    have ew : w = nI (10 + j) := by rw [back, q2, show (10 : Int32) = nI 10 from rfl, nadd, Nat.add_comm]
    refine ⟨j, q1, ew, ?_, ?_⟩
    · rw [if_pos]
      rw [ew]
      exact ⟨nI_le (a := 10) (by omega) (by omega), nI_le (by omega) (by omega)⟩
    · rw [q2, if_neg (show ¬ nI j < (0 : Int32) from nI_nlt (b := 0) (by omega) (by omega)), if_pos (nI_lt q1 (by omega)), show 6 * (nI m - 1 - nI j) = nI (6 * (m - 1 - j)) by rw [show (1 : Int32) = nI 1 from rfl, show (6 : Int32) = nI 6 from rfl, nsub (by omega), nsub (by omega), nmul], l_shr big (by omega), l_and, sp6_at m j hf q1, lN_i]
theorem c_filled {σ τ : St} (h : RFill σ τ) (x w : Int32) : ∃ r, f_X11_filled x w σ = some r ∧ f_X12_filled x w τ = some r := by
  obtain ⟨n, h1, h2, h3, h4⟩ := h
  unfold f_X11_filled f_X12_filled f_X12_filled_25
  rw [h2, h3]
  rcases ix2 (x := x) (n := n) (by omega) (grd (ib x 12) (if w = 0 then grd (ib x 12) (some (σ.1 70 x.toNatClampNeg)) else (if w = 1 then some (σ.1 71 x.toNatClampNeg) else grd (ib x 12) (some (f_X11_signOf (σ.2 72 x.toNatClampNeg) (σ.1 71 x.toNatClampNeg) (w - 10) σ))))) (some (-1)) with ⟨q1, q2⟩ | ⟨i, hi, rfl, q1, q2⟩
  · rw [q1, q2, if_pos rfl]; exact ⟨_, rfl, rfl⟩
  · obtain ⟨a1, m, f, a2, a3, a4, a5, a6⟩ := h4 i hi
    rw [q1, q2, if_neg one_ne, ib_n (a := i) (by omega), decide_eq_true (show i < 12 by omega), ncl (a := i) (by omega), a1, a4, a5, a6]
    simp only [grd_true]
    by_cases w0 : w = 0
    · rw [if_pos w0, if_pos w0, if_pos w0]; exact ⟨_, rfl, rfl⟩
    · rw [if_neg w0, if_neg w0]
      by_cases w1 : w = 1
      · rw [if_pos w1, if_pos w1, if_neg w0]; exact ⟨_, rfl, rfl⟩
      · rw [if_neg w1, if_neg w1]
        rcases fl_sign (σ := σ) (τ := τ) a2 (fun j hj => (a3 j hj).1) w with ⟨r1, r2⟩ | ⟨j, hj, rfl, r1, r2⟩
        · rw [r1, r2, if_pos rfl]; exact ⟨_, rfl, rfl⟩
        · have e : 12 * nI i + nI (10 + j) - 10 = nI (12 * i + j) := by
            rw [show (12 : Int32) = nI 12 from rfl, show (10 : Int32) = nI 10 from rfl, nmul, nadd, nsub (by omega)]
            congr 1; omega
          rw [r1, r2, if_neg one_ne, e, ib_n (by omega), decide_eq_true (show 12 * i + j < 144 by omega), grd_true, ncl (by omega), (a3 j hj).2]
          exact ⟨_, rfl, rfl⟩
