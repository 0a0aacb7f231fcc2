/-! calls that only look; feed, end, face, clear, say -/
theorem snd_at {f : Nat → Nat} {m i : Nat} (hm : m ≤ 8) (hi : i < m) (h : ∀ j, j < m → f j < 16) (σ : St) : f_X11_soundAt (nI (sp f m)) (nI i) σ = nI (f i) := by
  unfold f_X11_soundAt
  have hl := sp_lt h
  have h16 : (16 : Nat) ^ m ≤ 16 ^ 8 := Nat.pow_le_pow_right (by omega) hm
  rw [show (4 : Int32) = nI 4 from rfl, nmul, nushr (by omega) (by omega), show (15 : Int32) = nI 15 from rfl, nand]
  congr 1
  rw [show (15 : Nat) = 2 ^ 4 - 1 from rfl, Nat.and_two_pow_sub_one_eq_mod, Nat.shiftRight_eq_div_pow, Nat.pow_mul]
  exact sp_at h i hi
theorem snd_of {f : Nat → Nat} {m : Nat} (hm : m ≤ 8) (h : ∀ j, j < m → f j < 16) (w z : Int32) (σ τ : St) : (f_X11_soundOf (nI (sp f m)) (nI m) w z σ = z ∧ f_X12_in w 10 (nI (9 + m)) τ = 0) ∨ (∃ i, i < m ∧ w = nI (10 + i) ∧ f_X11_soundOf (nI (sp f m)) (nI m) w z σ = nI (f i) ∧ f_X12_in w 10 (nI (9 + m)) τ = 1) := by
  unfold f_X11_soundOf
  rw [m_in]
  rcases ix (x := w - 10) (n := m) (by omega) with ⟨hx, _⟩ | ⟨i, hi, hw, k1, k2, k3, k4⟩
  · left
    constructor
    · rcases hx with h1 | h1
      · rw [if_pos h1]
      · by_cases h0 : w - 10 < 0
        · rw [if_pos h0]
        · rw [if_neg h0, if_neg (Int32.not_lt.mpr h1)]
    · refine i00 (fun k => ?_)
      have h0 : ¬ w < 0 := fun q => by
        have a := Int32.lt_iff_toInt_lt.mp q
        have b := Int32.le_iff_toInt_le.mp k.1
        rw [show (10 : Int32).toInt = 10 from rfl] at b
        rw [show (0 : Int32).toInt = 0 from rfl] at a
        omega
      obtain ⟨j, j1, j2⟩ := nI_of2 (M := nI (9 + m)) (n := 9 + m) (nint (by omega)) h0 k.2
      rw [j2] at k hx
      have j3 : 10 ≤ j := (nle (a := 10) (by omega) (by omega)).mp k.1
      have e : nI j - 10 = nI (j - 10) := nsub (b := 10) j3
      rw [e] at hx
      rcases hx with hx | hx
      · exact nI_pos (by omega) hx
      · exact nI_ge (by omega) (by omega) hx
  · right
    have hwi : w = nI (10 + i) := by
      have : w = (w - 10) + 10 := by rw [Int32.sub_add_cancel]
      rw [this, hw, show (10 : Int32) = nI 10 from rfl, nadd, Nat.add_comm]
    refine ⟨i, hi, hwi, ?_, ?_⟩
    · rw [if_neg k1, if_pos k3, hw]; exact snd_at hm hi h σ
    · rw [hwi]
      exact i10 ⟨nI_le (a := 10) (by omega) (by omega), nI_le (by omega) (by omega)⟩
theorem n9m (m : Nat) : (9 : Int32) + nI m = nI (9 + m) := by rw [show (9 : Int32) = nI 9 from rfl, nadd]
theorem c_fault {σ τ : St} (h : RFault σ τ) (x : Int32) : f_X11_fault x σ = f_X12_fault x τ := by
  unfold f_X11_fault f_X12_fault; rw [h.1, h.2]
theorem c_rule {σ τ : St} {L : Lv} (h : RList σ τ L) (x : Int32) : ∃ r, f_X11_rule x σ = some r ∧ f_X12_rule x τ = some r := by
  obtain ⟨_, ⟨a1, _, a3, a4, a5, a6⟩, ⟨b1, _, b3, b4, b5, b6⟩⟩ := h
  simp only [Nat.reduceMul, Nat.reduceAdd, Nat.reduceSub] at a1 a3 a4 a5 a6
  unfold f_X11_rule f_X12_rule
  rw [m_in]
  by_cases h0 : x = 0
  · rw [if_pos h0, if_pos h0, show ib 0 2 = true from rfl, grd_true, a1, b1]; exact ⟨_, rfl, rfl⟩
  · rw [if_neg h0, if_neg h0]
    by_cases h1 : x < 1
    · rw [if_pos h1, i00 (fun k => absurd h1 (Int32.not_lt.mpr k.1)), if_pos rfl]; exact ⟨_, rfl, rfl⟩
    · rw [if_neg h1]
      by_cases h4 : x ≤ 4
      · rw [if_pos h4, i10 ⟨Int32.not_lt.mp h1, h4⟩, if_neg one_ne]
        have hx0 : ¬ x < 0 := fun q => h1 (Int32.lt_trans q (by decide))
        obtain ⟨j, j1, rfl⟩ := nI_of2 (M := 4) (n := 4) rfl hx0 h4
        have j0 : 1 ≤ j := by
          cases j with
          | zero => exact absurd rfl h0
          | succ k => omega
        have e : nI j - 1 = nI (j - 1) := nsub (b := 1) j0
        rw [e, ib_n (by omega), decide_eq_true (by omega), grd_true, ib_n (by omega), decide_eq_true (by omega), grd_true, ncl (by omega)]
        have hj : j = 1 ∨ j = 2 ∨ j = 3 ∨ j = 4 := by omega
        rcases hj with rfl | rfl | rfl | rfl
        · exact ⟨_, rfl, by rw [b3, ← a3]⟩
        · exact ⟨_, rfl, by rw [b4, ← a4]⟩
        · exact ⟨_, rfl, by rw [b5, ← a5]⟩
        · exact ⟨_, rfl, by rw [b6, ← a6]⟩
      · rw [if_neg h4, i00 (fun k => h4 k.2), if_pos rfl]; exact ⟨_, rfl, rfl⟩
theorem LOk_c {L : Lv} (h : LOk L) {s : Nat} (hs : s < L.n) : L.c s ≤ 3 := by
  obtain ⟨_, _, _, c1, c2, _⟩ := h.2.1 s hs
  by_cases e : L.k s = 1
  · exact (c1 e).2
  · rw [c2 e]; omega
theorem LOk_d {L : Lv} (h : LOk L) {s : Nat} (hs : s < L.n) : ∀ i, i < L.c s → L.d s i < 16 := (h.2.1 s hs).2.2.2.2.2
theorem c_sign {σ τ : St} {L : Lv} (h : RList σ τ L) (x w : Int32) : ∃ r, f_X11_sign x w σ = some r ∧ f_X12_sign x w τ = some r := by
  obtain ⟨hL, hx, hm⟩ := h
  have h40 : L.n ≤ 40 := hL.1
  have e1 : σ.1 1200 0 = nI L.n := hx.1
  have e2 : τ.1 3 0 = nI L.n := hm.1
  unfold f_X11_sign f_X12_sign f_X6_has
  simp only [Nat.reduceMul, Nat.reduceAdd]
  rw [e1, e2, show ib 0 2 = true from rfl, grd_true, m_in]
  rcases ix (x := x) (n := L.n) (by omega) with ⟨q, hy⟩ | ⟨s, hs, rfl, k1, k2, k3, k4⟩
  · rw [i00 hy, if_pos rfl]
    rcases q with q | q
    · rw [if_pos q, if_pos rfl]; exact ⟨_, rfl, rfl⟩
    · by_cases q0 : x < 0
      · rw [if_pos q0, if_pos rfl]; exact ⟨_, rfl, rfl⟩
      · rw [if_neg q0, if_pos q, if_pos rfl]; exact ⟨_, rfl, rfl⟩
  · rw [if_neg k1, if_neg k2, if_neg one_ne, i10 k4, if_neg one_ne, ib_n (by omega), decide_eq_true (by omega), ib_n (by omega), decide_eq_true (by omega), ncl (by omega)]
    simp only [grd_true]
    obtain ⟨a1, a2, a3, a4, a5, a6, a7⟩ := hx.2.1 s hs
    simp only [Nat.reduceMul, Nat.reduceAdd, Nat.reduceSub] at a1 a2 a3 a4 a5 a6 a7
    obtain ⟨b1, b2, b3, b4, b5, b6, b7⟩ := hm.2.1 s hs
    rw [a2, a3, a4, a5, a6, b2, b3, b4, b5]
    by_cases w0 : w = 0
    · rw [if_pos w0, if_pos w0]; exact ⟨_, rfl, rfl⟩
    rw [if_neg w0, if_neg w0]
    by_cases w1 : w = 1
    · rw [if_pos w1, if_pos w1]; exact ⟨_, rfl, rfl⟩
    rw [if_neg w1, if_neg w1]
    by_cases w2 : w = 2
    · rw [if_pos w2, if_pos w2]; exact ⟨_, rfl, rfl⟩
    rw [if_neg w2, if_neg w2]
    by_cases w3 : w = 3
    · rw [if_pos w3, if_pos w3]; exact ⟨_, rfl, rfl⟩
    rw [if_neg w3, if_neg w3, n9m]
    have hc := LOk_c hL hs
    rcases snd_of (m := L.c s) (by omega) (LOk_d hL hs) w (-9) σ τ with ⟨c1, c2⟩ | ⟨i, hi, rfl, c1, c2⟩
    · rw [c1, c2, if_pos rfl]; exact ⟨_, rfl, rfl⟩
    · have ea : 3 * nI s + nI (10 + i) - 10 = nI (3 * s + i) := by
        rw [show (3 : Int32) = nI 3 from rfl, nmul, nadd, show (10 : Int32) = nI 10 from rfl, nsub (by omega)]
        congr 1; omega
      rw [c1, c2, if_neg one_ne, ea, ib_n (by omega), decide_eq_true (by omega), grd_true, ncl (by omega), b6 i hi]
      exact ⟨_, rfl, rfl⟩
theorem c_about {σ τ : St} {nt : Nat} {T : Nat → Tv} (h : RTerms σ τ nt T) (x w : Int32) : ∃ r, f_X11_about x w σ = some r ∧ f_X12_about x w τ = some r := by
  obtain ⟨hL, hx, hm⟩ := h
  have h40 : nt ≤ 40 := hL.1
  have e1 : σ.1 7600 0 = nI nt := hx.1
  have e2 : τ.1 1049 0 = nI nt := hm.1
  unfold f_X11_about f_X12_about f_X9_has f_X12_isTerm f_X12_about_20
  rw [e1, e2, m_in]
  rcases ix (x := x) (n := nt) (by omega) with ⟨q, hy⟩ | ⟨t, ht, rfl, k1, k2, k3, k4⟩
  · rw [i00 hy, show zbb 0 = true from rfl, grd_true, bo_some, if_pos rfl]
    rcases q with q | q
    · rw [if_pos q, if_pos rfl]; exact ⟨_, rfl, rfl⟩
    · by_cases q0 : x < 0
      · rw [if_pos q0, if_pos rfl]; exact ⟨_, rfl, rfl⟩
      · rw [if_neg q0, if_pos q, if_pos rfl]; exact ⟨_, rfl, rfl⟩
  · rw [if_neg k1, if_neg k2, if_neg one_ne, i10 k4, show zbb 1 = true from rfl, grd_true, bo_some, if_neg one_ne, ib_n (by omega), decide_eq_true (by omega), ncl (by omega)]
    simp only [grd_true]
    obtain ⟨a1, a2, a3, a4⟩ := hx.2 t ht
    obtain ⟨b1, b2, b3, b4⟩ := hm.2 t ht
    obtain ⟨d1, d2, d3⟩ := hL.2 t ht
    rw [a2, a3, a4, b3, b4]
    by_cases w0 : w = 0
    · subst w0; rw [if_pos rfl, if_pos rfl, if_pos rfl]; exact ⟨_, rfl, rfl⟩
    rw [if_neg w0, if_neg w0]
    by_cases w1 : w = 1
    · rw [if_pos w1, if_pos w1, if_neg w0]
      by_cases e : lg_cmp (T t).kd 0 = 0
      · rw [if_pos e]; exact ⟨_, rfl, rfl⟩
      · rw [if_neg e]; exact ⟨_, rfl, rfl⟩
    rw [if_neg w1, if_neg w1, n9m]
    rcases snd_of (m := (T t).n) d2 d3 w (-9) σ τ with ⟨c1, c2⟩ | ⟨i, hi, rfl, c1, c2⟩
    · rw [c1, c2, if_pos rfl]; exact ⟨_, rfl, rfl⟩
    · have ea : 8 * nI t + nI (10 + i) - 10 = nI (8 * t + i) := by
        rw [show (8 : Int32) = nI 8 from rfl, nmul, nadd, show (10 : Int32) = nI 10 from rfl, nsub (by omega)]
        congr 1; omega
      rw [c1, c2, if_neg one_ne, ea, ib_n (by omega), decide_eq_true (by omega), grd_true, ncl (by omega), b2 i hi]
      exact ⟨_, rfl, rfl⟩
theorem ix2 {x : Int32} {n : Nat} (hn : n < 2147483648) {α : Type} (A B : α) : ((if x < 0 then B else if x < nI n then A else B) = B ∧ ∀ τ, f_X12_in x 0 (nI n - 1) τ = 0) ∨ (∃ j, j < n ∧ x = nI j ∧ (if x < 0 then B else if x < nI n then A else B) = A ∧ ∀ τ, f_X12_in x 0 (nI n - 1) τ = 1) := by
  rcases ix (x := x) hn with ⟨q, hy⟩ | ⟨t, ht, hx, k1, k2, k3, k4⟩
  · left
    refine ⟨?_, fun τ => by rw [m_in]; exact i00 hy⟩
    by_cases q0 : x < 0
    · rw [if_pos q0]
    · rw [if_neg q0, if_neg]
      rcases q with q | q
      · exact absurd q q0
      · exact Int32.not_lt.mpr q
  · right
    exact ⟨t, ht, hx, by rw [if_neg k1, if_pos k3], fun τ => by rw [m_in]; exact i10 k4⟩
theorem c_written {σ τ : St} {ns : Nat} (h : RRow σ τ ns) (x : Int32) : ∃ r, f_X11_written x σ = some r ∧ f_X12_written x τ = some r := by
  obtain ⟨n, h1, h2, h3, h4⟩ := h
  unfold f_X11_written f_X12_written
  rw [h2, h3]
  rcases ix2 (x := x) (n := n) (by omega) (grd (ib x 24) (some (σ.1 58 x.toNatClampNeg))) (some (-1)) with ⟨q1, q2⟩ | ⟨j, hj, rfl, q1, q2⟩
  · rw [q1, q2, if_pos rfl]; exact ⟨_, rfl, rfl⟩
  · rw [q1, q2, if_neg one_ne, ib_n (by omega), decide_eq_true (by omega), grd_true, grd_true, ncl (by omega), (h4 j hj).1]; exact ⟨_, rfl, rfl⟩
theorem c_readTerm {σ τ : St} (h : RRead σ τ) (x w : Int32) : ∃ r, f_X11_readTerm x w σ = some r ∧ f_X12_readTerm x w τ = some r := by
  obtain ⟨n, h1, h2, h3, h4⟩ := h
  unfold f_X11_readTerm f_X12_readTerm
  rw [h2, h3]
  rcases ix2 (x := x) (n := n) (by omega) (if w = 0 then grd (ib x 24) (some (σ.1 65 x.toNatClampNeg)) else (if w = 1 then grd (ib x 24) (some (σ.1 66 x.toNatClampNeg)) else some (-1))) (some (-1)) with ⟨q1, q2⟩ | ⟨j, hj, rfl, q1, q2⟩
  · rw [q1, q2, if_pos rfl]; exact ⟨_, rfl, rfl⟩
  · rw [q1, q2, if_neg one_ne, ib_n (by omega), decide_eq_true (by omega), grd_true, grd_true, ncl (by omega), (h4 j hj).1, (h4 j hj).2]
    by_cases w0 : w = 0
    · rw [if_pos w0, if_pos w0]; exact ⟨_, rfl, rfl⟩
    · rw [if_neg w0, if_neg w0]
      by_cases w1 : w = 1
      · rw [if_pos w1, if_pos w1]; exact ⟨_, rfl, rfl⟩
      · rw [if_neg w1, if_neg w1]; exact ⟨_, rfl, rfl⟩
theorem c_grouped {σ τ : St} (h : RGroup σ τ) (x w : Int32) : ∃ r, f_X11_grouped x w σ = some r ∧ f_X12_grouped x w τ = some r := by
  obtain ⟨n, h1, h2, h3, h4⟩ := h
  unfold f_X11_grouped f_X12_grouped
  rw [h2, h3]
  rcases ix2 (x := x) (n := n) (by omega) (if w = 0 then grd (ib x 24) (some (σ.1 44 x.toNatClampNeg)) else (if w = 1 then grd (ib x 24) (some (σ.1 45 x.toNatClampNeg)) else some (-1))) (some (-1)) with ⟨q1, q2⟩ | ⟨j, hj, rfl, q1, q2⟩
  · rw [q1, q2, if_pos rfl]; exact ⟨_, rfl, rfl⟩
  · rw [q1, q2, if_neg one_ne, ib_n (by omega), decide_eq_true (by omega), grd_true, grd_true, ncl (by omega), (h4 j hj).1, (h4 j hj).2]
    by_cases w0 : w = 0
    · rw [if_pos w0, if_pos w0]; exact ⟨_, rfl, rfl⟩
    · rw [if_neg w0, if_neg w0]
      by_cases w1 : w = 1
      · rw [if_pos w1, if_pos w1]; exact ⟨_, rfl, rfl⟩
      · rw [if_neg w1, if_neg w1]; exact ⟨_, rfl, rfl⟩
