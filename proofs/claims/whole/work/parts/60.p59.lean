/-! improve -/
abbrev klt (c r c0 r0 : Nat) : Prop := c < c0 ∨ (c = c0 ∧ r < r0)
theorem lcmp_ge {a b : Nat} (ha : a < 9223372036854775808) (hb : b < 9223372036854775808) : 0 ≤ lg_cmp (lN a) (lN b) ↔ b ≤ a := by
  unfold lg_cmp
  by_cases h : b < a
  · rw [if_pos (show lN a > lN b from (pk_lLT hb ha).mpr h)]
    exact ⟨fun _ => by omega, fun _ => by decide⟩
  · rw [if_neg (show ¬ lN a > lN b from fun q => h ((pk_lLT hb ha).mp q))]
    by_cases e : a = b
    · rw [if_pos (by rw [e])]; exact ⟨fun _ => by omega, fun _ => by decide⟩
    · rw [if_neg (fun q => e ((pk_lEQ ha hb).mp q))]; exact ⟨fun q => absurd q (by decide), fun _ => by omega⟩
theorem x_improve {σ : St} {p c r c0 r0 : Nat} (hp : p < 13) (hc : c < 2147483648) (hr : r < 9223372036854775808) (hc0 : c0 < 2147483648) (hr0 : r0 < 9223372036854775808) (h53 : σ.1 53 p = nI c0) (h54 : σ.2 54 p = lN r0) :
    f_X2_improve (nI p) (nI c) (lN r) σ = some (if klt c r c0 r0 then sl (si σ 53 p (nI c)) 54 p (lN r) else σ) := by
  unfold f_X2_improve f_X2_improve_31
  rw [ib_n (by omega), decide_eq_true hp, ncl (by omega), h53, h54]
  simp only [grd_true]
  by_cases h1 : c < c0
  · rw [if_pos (nI_lt h1 hc0), if_pos (show klt c r c0 r0 from Or.inl h1)]
  · rw [if_neg (nI_nlt (by omega) hc)]
    by_cases h2 : c = c0
    · rw [if_pos (by rw [h2])]
      by_cases h3 : r0 ≤ r
      · rw [if_pos ((lcmp_ge hr hr0).mpr h3), if_neg (show ¬ klt c r c0 r0 from fun q => by omega)]
      · rw [if_neg (fun q => h3 ((lcmp_ge hr hr0).mp q)), if_pos (show klt c r c0 r0 from Or.inr ⟨h2, by omega⟩)]
    · rw [if_neg (fun q => h2 ((neq hc hc0).mp q)), if_neg (show ¬ klt c r c0 r0 from fun q => by omega)]
