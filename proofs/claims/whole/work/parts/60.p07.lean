/-! a FAULT is told alike -/
abbrev VC : List Nat := [4811, 4812, 4802, 4803, 4804, 4805, 4806, 4807, 4808, 4809, 4810]
abbrev VCM : List Nat := [1008, 1009, 1011, 1003, 1004, 1005, 1006, 1007, 1010]
theorem fault_of {σ τ : St} {k : Int32} (h : σ.1 4804 0 = τ.1 1005 0) : RFault (si (si σ 4811 0 k) 4812 0 (σ.1 4804 0)) (si (si τ 1008 0 k) 1009 0 (τ.1 1005 0)) := by
  unfold RFault
  refine ⟨?_, ?_⟩
  · rw [si_rd, if_neg (by decide), si_rd, if_pos rfl, if_pos rfl, si_rd, if_neg (by decide), si_rd, if_pos rfl, if_pos rfl]
  · rw [si_rd, if_pos rfl, if_pos rfl, si_rd, if_pos rfl, if_pos rfl]; exact h
theorem tok_eq {σ τ : St} {n : Nat} {B : Nat → Nat} {p : Nat} (h : TokX σ n B p) (k : TokM τ n B p) : σ.1 4804 0 = τ.1 1005 0 := h.2.2.1.trans k.1.symm
theorem m_in (v a b : Int32) (τ : St) : f_X12_in v a b τ = if a ≤ v ∧ v ≤ b then 1 else 0 := by
  unfold f_X12_in
  by_cases h : v < a
  · rw [if_pos h, if_neg (fun k => absurd k.1 (Int32.not_le.mpr h))]
  · rw [if_neg h]
    by_cases h2 : b < v
    · rw [if_pos h2, if_neg (fun k => absurd k.2 (Int32.not_le.mpr h2))]
    · rw [if_neg h2, if_pos ⟨Int32.not_lt.mp h, Int32.not_lt.mp h2⟩]
theorem numf_lt {B : Nat → Nat} {q : Nat} : ∀ k, k ≤ 4 → (∀ i, i < k → B (q + i) ≤ 57) → numf B q k < 10 ^ k := by
  intro k
  induction k with
  | zero => intro _ _; exact Nat.zero_lt_one
  | succ k ih =>
    intro h1 h2
    have a := ih (by omega) (fun i hi => h2 i (by omega))
    have b := h2 k (by omega)
    unfold numf
    rw [Nat.pow_succ]
    omega
theorem tok_num {B : Nat → Nat} {n p : Nat} (h : tk B n p = 2) : numf B (tq B n p) (te B n p - tq B n p) < 10000 := by
  unfold tk at h
  by_cases h1 : n ≤ tq B n p
  · rw [if_pos h1] at h; omega
  · rw [if_neg h1] at h
    by_cases h2 : isL (B (tq B n p)) = true
    · rw [if_pos h2] at h; split at h <;> omega
    · rw [if_neg h2] at h
      by_cases h3 : isD (B (tq B n p)) = true
      · rw [if_pos h3] at h
        by_cases h4 : te B n p - tq B n p ≤ 4
        · have e : te B n p = rn isD B n (tq B n p) := by unfold te; rw [if_neg h1, if_neg h2, if_pos h3]
          refine Nat.lt_of_lt_of_le (numf_lt _ h4 (fun i hi => ?_)) (Nat.pow_le_pow_right (n := 10) (by omega) h4)
          have := rn_in (P := isD) (B := B) (n := n) (p := tq B n p) (i := tq B n p + i) (by omega) (by rw [← e]; omega)
          have := of_decide_eq_true this
          omega
        · rw [if_neg h4] at h; omega
      · rw [if_neg h3] at h; split at h <;> omega
theorem num_lock {N n : Nat} {B : Nat → Nat} {p lo hi : Nat} {σ τ : St} (hN : 802 < N) (hp : p ≤ n) (hX : TapeX σ n B) (hM : TapeM τ n B) (ha : σ.1 4802 0 = nI p) (hK : TokM τ n B p) (hlo : lo < 10000) (hhi : hi < 10000) :
    ok (f_X6_takeNumber N (nI lo) (nI hi) σ) (fun a => ok (f_X12_readNumber N (nI lo) (nI hi) τ) (fun c => ((a.1 = 0 ∧ c.1 = 0 ∧ RFault a.2 c.2) ∨ (a.1 = 1 ∧ c.1 = 1 ∧ ∃ v, lo ≤ v ∧ v ≤ hi ∧ a.2.1 4809 0 = nI v ∧ c.2.1 1011 0 = nI v ∧ a.2.1 4802 0 = nI (te B n p) ∧ TokM c.2 n B (te B n p) ∧ p < te B n p ∧ te B n p ≤ n ∧ Fr VN σ a.2 ∧ Fr (1011 :: VM) τ c.2)) ∧ Fr VC σ a.2 ∧ Fr VCM τ c.2)) := by
  have hn := hX.1
  have hs := srt_1 (c := B (tq B n p)) (tk_lt B n p)
  have htk := tk_lt B n p
  unfold f_X6_takeNumber
  refine ok_bo_of (x_next (by omega) hp hX ha) (fun σ1 h1 => ?_)
  obtain ⟨hK1, f1⟩ := h1
  rw [hK1.2.1]
  unfold f_X12_readNumber
  rw [hK.2.2.1, show (2 : Int32) = nI 2 from rfl]
  have bad : ∀ k : Int32, ok (bd (f_X8_refuse k σ1) (fun r5_ σ5 => grd (zbb r5_) (some (r5_, σ5)))) (fun a => ok (bd (f_X12_fails k τ) (fun r6_ σ6 => grd (zbb r6_) (some (r6_, σ6)))) (fun c => ((a.1 = 0 ∧ c.1 = 0 ∧ RFault a.2 c.2) ∨ (a.1 = 1 ∧ c.1 = 1 ∧ ∃ v, lo ≤ v ∧ v ≤ hi ∧ a.2.1 4809 0 = nI v ∧ c.2.1 1011 0 = nI v ∧ a.2.1 4802 0 = nI (te B n p) ∧ TokM c.2 n B (te B n p) ∧ p < te B n p ∧ te B n p ≤ n ∧ Fr VN σ a.2 ∧ Fr (1011 :: VM) τ c.2)) ∧ Fr VC σ a.2 ∧ Fr VCM τ c.2)) := by
    intro k
    unfold f_X8_refuse f_X12_fails
    rw [bd_some, show zbb 0 = true from rfl, grd_true, ok_some, bd_some, show zbb 0 = true from rfl, grd_true, ok_some]
    exact ⟨Or.inl ⟨rfl, rfl, fault_of (tok_eq hK1 hK)⟩, ((f1.wide rfl).si _ _ _ rfl).si _ _ _ rfl, ((Fr.refl _ _).si _ _ _ rfl).si _ _ _ rfl⟩
  by_cases e : tk B n p = 2
  · rw [if_pos ((neq (by omega) (by omega)).mpr e), if_pos ((neq (by omega) (by omega)).mpr (hs.2.1.mpr e)), hK1.2.2.2.2.1 e, hK.2.2.2.2.2 e, m_in]
    have hv := tok_num e
    generalize hvd : numf B (tq B n p) (te B n p - tq B n p) = v at *
    have bad2 := bad 2
    unfold f_X6_takeNumber_34
    have alt : ok (bd (f_X8_refuse 2 σ1) (fun r7_ σ7 => if r7_ = 0 then some ((0 : Int32), σ7) else some (1, σ7))) (fun a => ok (bd (f_X12_fails 2 τ) (fun r6_ σ6 => grd (zbb r6_) (some (r6_, σ6)))) (fun c => ((a.1 = 0 ∧ c.1 = 0 ∧ RFault a.2 c.2) ∨ (a.1 = 1 ∧ c.1 = 1 ∧ ∃ v, lo ≤ v ∧ v ≤ hi ∧ a.2.1 4809 0 = nI v ∧ c.2.1 1011 0 = nI v ∧ a.2.1 4802 0 = nI (te B n p) ∧ TokM c.2 n B (te B n p) ∧ p < te B n p ∧ te B n p ≤ n ∧ Fr VN σ a.2 ∧ Fr (1011 :: VM) τ c.2)) ∧ Fr VC σ a.2 ∧ Fr VCM τ c.2)) := by
      unfold f_X8_refuse at bad2 ⊢
      rw [bd_some, show zbb 0 = true from rfl, grd_true] at bad2
      rw [bd_some, if_pos rfl]
      exact bad2
    by_cases h1 : lo ≤ v
    · rw [if_neg (nI_nlt h1 (by omega))]
      by_cases h2 : v ≤ hi
      · rw [if_pos (nI_le h2 (by omega)), if_pos (show nI lo ≤ nI v ∧ nI v ≤ nI hi from ⟨nI_le h1 (by omega), nI_le h2 (by omega)⟩), if_neg (by decide), ok_some]
        have g1 : Fr [1011] τ (si τ 1011 0 (nI v)) := (Fr.refl _ _).si _ _ _ rfl
        have hle := te_le (B := B) hp
        refine ok_bo_of (m_scan hN hle (hM.fr g1 rfl) (by rw [g1.i 1006 rfl]; exact hK.2.1)) (fun τ1 h3 => ok_some.mpr ?_)
        obtain ⟨hK3, f3⟩ := h3
        have hgt := te_gt (B := B) (n := n) (p := p) (by omega)
        have hge := tq_ge B n p
        refine ⟨Or.inr ⟨rfl, rfl, v, h1, h2, ?_, ?_, hK1.1, hK3, by omega, hle, f1, (g1.wide rfl).trans (f3.wide rfl)⟩, f1.wide rfl, (g1.wide rfl).trans (f3.wide rfl)⟩
        · show σ1.1 4809 0 = nI v
          rw [hK1.2.2.2.2.1 e, hvd]
        · show τ1.1 1011 0 = nI v
          rw [f3.i 1011 rfl, si_rd]; rfl
      · rw [if_neg (nI_ge (by omega) (by omega)), if_neg (show ¬ (nI lo ≤ nI v ∧ nI v ≤ nI hi) from fun k => nI_ge (by omega) (by omega) k.2), if_pos rfl]
        exact alt
    · rw [if_pos (nI_lt (by omega) (by omega)), if_neg (show ¬ (nI lo ≤ nI v ∧ nI v ≤ nI hi) from fun k => nI_ge (by omega) (by omega) k.1), if_pos rfl]
      exact alt
  · rw [if_neg (fun h => e ((neq (by omega) (by omega)).mp h)), if_neg (fun h => e (hs.2.1.mp ((neq (by omega) (by omega)).mp h)))]
    exact bad 1
