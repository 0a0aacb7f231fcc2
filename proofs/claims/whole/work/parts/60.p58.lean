/-! PAINT -/
theorem x_paint {σ : St} {L : Lv} (hL : LOk L) (hx : LX 1 σ L) {s : Nat} (hs : s < L.n) : f_X6_paintOf 1 (nI s) σ = some (nI (L.w s * L.h s)) := by
  have h40 := hL.1
  obtain ⟨_, c2, c3, _⟩ := hx.2.1 s hs
  unfold f_X6_paintOf
  rw [ib_n (by omega), decide_eq_true (show s < 40 by omega), grd_true, grd_true, ncl (by omega), c2, c3, nmul]
theorem m_paint {τ : St} {L : Lv} (hL : LOk L) (hm : LM τ L) {s : Nat} (hs : s < L.n) : f_X12_paint (nI s) τ = some (nI (L.w s * L.h s)) := by
  have h40 := hL.1
  obtain ⟨_, c2, c3, _⟩ := hm.2.1 s hs
  unfold f_X12_paint
  rw [ib_n (by omega), decide_eq_true (show s < 80 by omega), grd_true, grd_true, ncl (by omega), c2, c3, nmul]
theorem paint_lt {L : Lv} (hL : LOk L) {s : Nat} (hs : s < L.n) : 1 ≤ L.w s * L.h s ∧ L.w s * L.h s ≤ 3600 := by
  obtain ⟨d1, d2, _⟩ := hL.2.1 s hs
  exact ⟨Nat.mul_le_mul d1.1 d2.1, Nat.mul_le_mul d1.2 d2.2⟩
theorem x_cost {σ : St} {L : Lv} (hL : LOk L) (hx : LX 1 σ L) {s : Nat} (hs : s < L.n) : f_X2_costOf (nI s) σ = some (nI (L.w s * L.h s * 16 + 1)) := by
  unfold f_X2_costOf
  rw [x_paint hL hx hs, bo_some, show (16 : Int32) = nI 16 from rfl, nmul, nI_1]
