/-! improveBy -/
theorem x_improveBy {σ : St} {L : Lv} (hL : LOk L) (hx : LX 1 σ L) {s p q c r : Nat} (hs : s < L.n) (hp : p < 13) (h53 : σ.1 53 p = nI c) (hc : c < 2000000) (h54 : σ.2 54 p = lN r) : f_X2_improveBy (nI s) (nI p) (nI q) σ = f_X2_improve (nI q) (nI (c + (L.w s * L.h s * 16 + 1))) (lN (r * 64 + s)) σ := by
  have h40 := hL.1
  have nm : ¬ nI c = (2147483647 : Int32) := fun e => by
    have e2 : nI c = nI 2147483647 := e
    have := (neq (by omega) (by omega)).mp e2
    omega
  unfold f_X2_improveBy
  rw [ib_n (a := p) (by omega), decide_eq_true hp, ncl (a := p) (by omega), h53, h54, if_neg nm, x_cost hL hx hs, bo_some, x_withSign r (by omega), nadd]
  simp only [grd_true]
  cases f_X2_improve (nI q) (nI (c + (L.w s * L.h s * 16 + 1))) (lN (r * 64 + s)) σ with
  | none => rfl
  | some a => rfl
theorem x_improveBy0 {σ : St} {s p q : Nat} (hp : p < 13) (h53 : σ.1 53 p = 2147483647) : f_X2_improveBy (nI s) (nI p) (nI q) σ = some σ := by
  unfold f_X2_improveBy
  rw [ib_n (a := p) (by omega), decide_eq_true hp, ncl (a := p) (by omega), h53, grd_true, if_pos rfl]
