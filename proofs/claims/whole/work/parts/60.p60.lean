/-! what the class keeps of a TERM -/
theorem x_withSign (r : Nat) {s : Nat} (hs : s < 2147483648) (σ : St) : f_X11_withSign (lN r) (nI s) σ = lN (r * 64 + s) := by
  unfold f_X11_withSign
  rw [show (64 : Int64) = lN 64 from rfl, lN_mul, nI_l hs, lN_add]
theorem x_isNew {σ : St} {t K b : Nat} (ht : t < 40) (hK : K < 8) (hb : b < 3) (h : σ.1 47 t = nI K) : f_X2_isNew (nI t) (nI (2 ^ b)) σ = some (b2 (!K.testBit b), si σ 47 t (nI (K ||| 2 ^ b))) := by
  have key : ∀ K, K < 8 → ∀ b, b < 3 → ((nI K &&& nI (2 ^ b) = 0) ↔ K.testBit b = false) := by decide +kernel
  have k := key K hK b hb
  unfold f_X2_isNew f_X2_isNew_16
  rw [ib_n (by omega), decide_eq_true ht, ncl (by omega), h, show zbb 1 = true from rfl, show zbb 0 = true from rfl, nor]
  simp only [grd_true]
  cases e : K.testBit b with
  | false => rw [if_pos (k.mpr e)]; rfl
  | true => rw [if_neg (fun q => by rw [k.mp q] at e; cases e)]; rfl
