/-! filled -/
theorem lshr_c : ∀ k, k < 64 → ((nI k).toInt64.toUInt64 &&& Int64.toUInt64 63).toNat = k := by decide +kernel
theorem l_shr {a k : Nat} (ha : a < 18446744073709551616) (hk : k < 64) : lushr (lN a) (nI k) = lN (a / 2 ^ k) := by
  unfold lushr
  have e : (lN a).toUInt64 >>> ((nI k).toInt64.toUInt64 &&& Int64.toUInt64 63) = UInt64.ofNat (a / 2 ^ k) := by
    apply UInt64.toNat_inj.mp
    rw [UInt64.toNat_shiftRight, lshr_c k hk, Nat.mod_eq_of_lt hk, Nat.shiftRight_eq_div_pow]
    have e1 : (lN a).toUInt64.toNat = a := Nat.mod_eq_of_lt ha
    have e2 : (UInt64.ofNat (a / 2 ^ k)).toNat = a / 2 ^ k := Nat.mod_eq_of_lt (Nat.lt_of_le_of_lt (Nat.div_le_self _ _) ha)
    rw [e1, e2]
  rw [e]; rfl
theorem l_and (b : Nat) : lN b &&& 63 = lN (b % 64) := by
  apply Int64.toBitVec_inj.mp
  rw [Int64.toBitVec_and]
  apply BitVec.eq_of_toNat_eq
  rw [BitVec.toNat_and]
  show (b % 2 ^ 64) &&& (63 % 2 ^ 64) = (b % 64) % 2 ^ 64
  rw [show (63 % 2 ^ 64 : Nat) = 2 ^ 6 - 1 from rfl, Nat.and_two_pow_sub_one_eq_mod]
  omega
theorem sp6_at {f : Nat → Nat} : ∀ (m j : Nat), (∀ i, i < m → f i < 64) → j < m → sp6 f m / 2 ^ (6 * (m - 1 - j)) % 64 = f j := by
  intro m
  induction m with
  | zero => intro j _ h; omega
  | succ m ih =>
    intro j hf hj
    show (sp6 f m * 64 + f m) / 2 ^ (6 * (m + 1 - 1 - j)) % 64 = f j
    have hfm := hf m (by omega)
    by_cases e : j = m
    · rw [e, show 6 * (m + 1 - 1 - m) = 0 by omega, Nat.pow_zero, Nat.div_one]; omega
    · rw [show 6 * (m + 1 - 1 - j) = 6 + 6 * (m - 1 - j) by omega, Nat.pow_add, ← Nat.div_div_eq_div_mul, show (sp6 f m * 64 + f m) / 2 ^ 6 = sp6 f m by omega]
      exact ih j (fun i hi => hf i (by omega)) (by omega)
theorem sp6_lt {f : Nat → Nat} : ∀ (m : Nat), (∀ i, i < m → f i < 64) → sp6 f m < 2 ^ (6 * m) := by
  intro m
  induction m with
  | zero => intro _; exact Nat.one_pos
  | succ m ih =>
    intro hf
    have h1 := ih (fun i hi => hf i (by omega))
    have h2 := hf m (by omega)
    show sp6 f m * 64 + f m < 2 ^ (6 * (m + 1))
    rw [show 6 * (m + 1) = 6 * m + 6 by omega, Nat.pow_add]
    omega
