/-! the reference's SHAPES -/
abbrev pcS (L : Lv) (e : Nat) : Int32 := 100 * nI L.sq / nI (max L.sq e)
theorem big {x : Nat} (h : x < 1000) : x < 2147483648 := Nat.lt_of_lt_of_le h (by decide)
theorem m_beside {τ : St} {G : Nat} (hg : τ.1 2 0 = nI G) (x y : Nat) : f_X12_beside (nI x) (nI y) τ = some (nI (x + y + G)) := by
  unfold f_X12_beside
  rw [hg, show ib 0 8 = true from rfl, grd_true, nadd, nadd]
theorem x_percentOf {σ : St} {L : Lv} (hL : LOk L) (hx : LX 1 σ L) {e : Nat} (he : e < 2147483648) : f_X6_percentOf 1 (nI e) σ = some (pcS L e) := by
  unfold f_X6_percentOf
  rw [x_shrunk (show σ.1 (8 * 1 + 8 - 6) 1 = nI L.sq from hx.2.2.2.1) hL.2.2.2.1 he, bo_some]

theorem m_open1 {r rn : Nat} {τ : St} {L : Lv} (h40 : L.n ≤ 40) (hm : LM τ L) {g : Nat → Nat} {a sh : Nat} (hsh : sh < 11) (hrn : rn < 1000) (et : (xtb.getD 9 []).getD sh 0 - 48 = nI 1) (ha : a + 1 ≤ rn) (hg : ∀ i, a ≤ i → i < a + 1 → g i < L.n ∧ τ.1 r i = nI (g i)) :
    f_X12_percentOf r rn (nI a) (nI sh) τ = f_X12_percentOf_162 r rn (nI sh) (nI (L.w (g a))) (nI (L.h (g a))) 0 0 0 0 0 0 τ := by
  obtain ⟨q0, r0⟩ := hg a (by omega) (by omega)
  obtain ⟨_, w0, h0, _⟩ := hm.2.1 (g a) q0
  have b0 : ib (nI a) rn = true := by rw [ib_n (by omega), decide_eq_true (by omega)]
  have c0 : (nI a).toNatClampNeg = a := ncl (by omega)
  have d0 : ib (nI (g a)) 80 = true := by rw [ib_n (by omega), decide_eq_true (by omega)]
  have k0 : (nI (g a)).toNatClampNeg = g a := ncl (by omega)
  have l1 : nI 1 ≤ (1 : Int32) := by decide
  have l2 : nI 1 ≤ (2 : Int32) := by decide
  have l3 : nI 1 ≤ (3 : Int32) := by decide
  unfold f_X12_percentOf
  rw [show xtl.getD 9 0 = 11 from rfl, ib_n (a := sh) (by omega), decide_eq_true hsh, ncl (a := sh) (by omega), et]
  simp only [f_X12_percentOf_52, f_X12_percentOf_74, f_X12_percentOf_96, f_X12_percentOf_118, f_X12_percentOf_140, grd_true, b0, c0, r0, d0, k0, w0, h0, if_pos l1, if_pos l2, if_pos l3]
theorem m_open2 {r rn : Nat} {τ : St} {L : Lv} (h40 : L.n ≤ 40) (hm : LM τ L) {g : Nat → Nat} {a sh : Nat} (hsh : sh < 11) (hrn : rn < 1000) (et : (xtb.getD 9 []).getD sh 0 - 48 = nI 2) (ha : a + 2 ≤ rn) (hg : ∀ i, a ≤ i → i < a + 2 → g i < L.n ∧ τ.1 r i = nI (g i)) :
    f_X12_percentOf r rn (nI a) (nI sh) τ = f_X12_percentOf_162 r rn (nI sh) (nI (L.w (g a))) (nI (L.h (g a))) (nI (L.w (g (a + 1)))) (nI (L.h (g (a + 1)))) 0 0 0 0 τ := by
  obtain ⟨q0, r0⟩ := hg a (by omega) (by omega)
  obtain ⟨_, w0, h0, _⟩ := hm.2.1 (g a) q0
  have b0 : ib (nI a) rn = true := by rw [ib_n (by omega), decide_eq_true (by omega)]
  have c0 : (nI a).toNatClampNeg = a := ncl (by omega)
  have d0 : ib (nI (g a)) 80 = true := by rw [ib_n (by omega), decide_eq_true (by omega)]
  have k0 : (nI (g a)).toNatClampNeg = g a := ncl (by omega)
  obtain ⟨q1, r1⟩ := hg (a + 1) (by omega) (by omega)
  obtain ⟨_, w1, h1, _⟩ := hm.2.1 (g (a + 1)) q1
  have b1 : ib (nI (a + 1)) rn = true := by rw [ib_n (by omega), decide_eq_true (by omega)]
  have c1 : (nI (a + 1)).toNatClampNeg = (a + 1) := ncl (by omega)
  have d1 : ib (nI (g (a + 1))) 80 = true := by rw [ib_n (by omega), decide_eq_true (by omega)]
  have k1 : (nI (g (a + 1))).toNatClampNeg = g (a + 1) := ncl (by omega)
  have n1 : nI a + 1 = nI (a + 1) := nadd a 1
  have l1 : ¬ nI 2 ≤ (1 : Int32) := by decide
  have l2 : nI 2 ≤ (2 : Int32) := by decide
  have l3 : nI 2 ≤ (3 : Int32) := by decide
  unfold f_X12_percentOf
  rw [show xtl.getD 9 0 = 11 from rfl, ib_n (a := sh) (by omega), decide_eq_true hsh, ncl (a := sh) (by omega), et]
  simp only [f_X12_percentOf_52, f_X12_percentOf_74, f_X12_percentOf_96, f_X12_percentOf_118, f_X12_percentOf_140, grd_true, b0, c0, r0, d0, k0, w0, h0, n1, b1, c1, r1, d1, k1, w1, h1, if_neg l1, if_pos l2, if_pos l3]
theorem m_open3 {r rn : Nat} {τ : St} {L : Lv} (h40 : L.n ≤ 40) (hm : LM τ L) {g : Nat → Nat} {a sh : Nat} (hsh : sh < 11) (hrn : rn < 1000) (et : (xtb.getD 9 []).getD sh 0 - 48 = nI 3) (ha : a + 3 ≤ rn) (hg : ∀ i, a ≤ i → i < a + 3 → g i < L.n ∧ τ.1 r i = nI (g i)) :
    f_X12_percentOf r rn (nI a) (nI sh) τ = f_X12_percentOf_162 r rn (nI sh) (nI (L.w (g a))) (nI (L.h (g a))) (nI (L.w (g (a + 1)))) (nI (L.h (g (a + 1)))) (nI (L.w (g (a + 2)))) (nI (L.h (g (a + 2)))) 0 0 τ := by
  obtain ⟨q0, r0⟩ := hg a (by omega) (by omega)
  obtain ⟨_, w0, h0, _⟩ := hm.2.1 (g a) q0
  have b0 : ib (nI a) rn = true := by rw [ib_n (by omega), decide_eq_true (by omega)]
  have c0 : (nI a).toNatClampNeg = a := ncl (by omega)
  have d0 : ib (nI (g a)) 80 = true := by rw [ib_n (by omega), decide_eq_true (by omega)]
  have k0 : (nI (g a)).toNatClampNeg = g a := ncl (by omega)
  obtain ⟨q1, r1⟩ := hg (a + 1) (by omega) (by omega)
  obtain ⟨_, w1, h1, _⟩ := hm.2.1 (g (a + 1)) q1
  have b1 : ib (nI (a + 1)) rn = true := by rw [ib_n (by omega), decide_eq_true (by omega)]
  have c1 : (nI (a + 1)).toNatClampNeg = (a + 1) := ncl (by omega)
  have d1 : ib (nI (g (a + 1))) 80 = true := by rw [ib_n (by omega), decide_eq_true (by omega)]
  have k1 : (nI (g (a + 1))).toNatClampNeg = g (a + 1) := ncl (by omega)
  have n1 : nI a + 1 = nI (a + 1) := nadd a 1
  obtain ⟨q2, r2⟩ := hg (a + 2) (by omega) (by omega)
  obtain ⟨_, w2, h2, _⟩ := hm.2.1 (g (a + 2)) q2
  have b2 : ib (nI (a + 2)) rn = true := by rw [ib_n (by omega), decide_eq_true (by omega)]
  have c2 : (nI (a + 2)).toNatClampNeg = (a + 2) := ncl (by omega)
  have d2 : ib (nI (g (a + 2))) 80 = true := by rw [ib_n (by omega), decide_eq_true (by omega)]
  have k2 : (nI (g (a + 2))).toNatClampNeg = g (a + 2) := ncl (by omega)
  have n2 : nI a + 2 = nI (a + 2) := nadd a 2
  have l1 : ¬ nI 3 ≤ (1 : Int32) := by decide
  have l2 : ¬ nI 3 ≤ (2 : Int32) := by decide
  have l3 : nI 3 ≤ (3 : Int32) := by decide
  unfold f_X12_percentOf
  rw [show xtl.getD 9 0 = 11 from rfl, ib_n (a := sh) (by omega), decide_eq_true hsh, ncl (a := sh) (by omega), et]
  simp only [f_X12_percentOf_52, f_X12_percentOf_74, f_X12_percentOf_96, f_X12_percentOf_118, f_X12_percentOf_140, grd_true, b0, c0, r0, d0, k0, w0, h0, n1, b1, c1, r1, d1, k1, w1, h1, n2, b2, c2, r2, d2, k2, w2, h2, if_neg l1, if_neg l2, if_pos l3]
theorem m_open4 {r rn : Nat} {τ : St} {L : Lv} (h40 : L.n ≤ 40) (hm : LM τ L) {g : Nat → Nat} {a sh : Nat} (hsh : sh < 11) (hrn : rn < 1000) (et : (xtb.getD 9 []).getD sh 0 - 48 = nI 4) (ha : a + 4 ≤ rn) (hg : ∀ i, a ≤ i → i < a + 4 → g i < L.n ∧ τ.1 r i = nI (g i)) :
    f_X12_percentOf r rn (nI a) (nI sh) τ = f_X12_percentOf_162 r rn (nI sh) (nI (L.w (g a))) (nI (L.h (g a))) (nI (L.w (g (a + 1)))) (nI (L.h (g (a + 1)))) (nI (L.w (g (a + 2)))) (nI (L.h (g (a + 2)))) (nI (L.w (g (a + 3)))) (nI (L.h (g (a + 3)))) τ := by
  obtain ⟨q0, r0⟩ := hg a (by omega) (by omega)
  obtain ⟨_, w0, h0, _⟩ := hm.2.1 (g a) q0
  have b0 : ib (nI a) rn = true := by rw [ib_n (by omega), decide_eq_true (by omega)]
  have c0 : (nI a).toNatClampNeg = a := ncl (by omega)
  have d0 : ib (nI (g a)) 80 = true := by rw [ib_n (by omega), decide_eq_true (by omega)]
  have k0 : (nI (g a)).toNatClampNeg = g a := ncl (by omega)
  obtain ⟨q1, r1⟩ := hg (a + 1) (by omega) (by omega)
  obtain ⟨_, w1, h1, _⟩ := hm.2.1 (g (a + 1)) q1
  have b1 : ib (nI (a + 1)) rn = true := by rw [ib_n (by omega), decide_eq_true (by omega)]
  have c1 : (nI (a + 1)).toNatClampNeg = (a + 1) := ncl (by omega)
  have d1 : ib (nI (g (a + 1))) 80 = true := by rw [ib_n (by omega), decide_eq_true (by omega)]
  have k1 : (nI (g (a + 1))).toNatClampNeg = g (a + 1) := ncl (by omega)
  have n1 : nI a + 1 = nI (a + 1) := nadd a 1
  obtain ⟨q2, r2⟩ := hg (a + 2) (by omega) (by omega)
  obtain ⟨_, w2, h2, _⟩ := hm.2.1 (g (a + 2)) q2
  have b2 : ib (nI (a + 2)) rn = true := by rw [ib_n (by omega), decide_eq_true (by omega)]
  have c2 : (nI (a + 2)).toNatClampNeg = (a + 2) := ncl (by omega)
  have d2 : ib (nI (g (a + 2))) 80 = true := by rw [ib_n (by omega), decide_eq_true (by omega)]
  have k2 : (nI (g (a + 2))).toNatClampNeg = g (a + 2) := ncl (by omega)
  have n2 : nI a + 2 = nI (a + 2) := nadd a 2
  obtain ⟨q3, r3⟩ := hg (a + 3) (by omega) (by omega)
  obtain ⟨_, w3, h3, _⟩ := hm.2.1 (g (a + 3)) q3
  have b3 : ib (nI (a + 3)) rn = true := by rw [ib_n (by omega), decide_eq_true (by omega)]
  have c3 : (nI (a + 3)).toNatClampNeg = (a + 3) := ncl (by omega)
  have d3 : ib (nI (g (a + 3))) 80 = true := by rw [ib_n (by omega), decide_eq_true (by omega)]
  have k3 : (nI (g (a + 3))).toNatClampNeg = g (a + 3) := ncl (by omega)
  have n3 : nI a + 3 = nI (a + 3) := nadd a 3
  have l1 : ¬ nI 4 ≤ (1 : Int32) := by decide
  have l2 : ¬ nI 4 ≤ (2 : Int32) := by decide
  have l3 : ¬ nI 4 ≤ (3 : Int32) := by decide
  unfold f_X12_percentOf
  rw [show xtl.getD 9 0 = 11 from rfl, ib_n (a := sh) (by omega), decide_eq_true hsh, ncl (a := sh) (by omega), et]
  simp only [f_X12_percentOf_52, f_X12_percentOf_74, f_X12_percentOf_96, f_X12_percentOf_118, f_X12_percentOf_140, grd_true, b0, c0, r0, d0, k0, w0, h0, n1, b1, c1, r1, d1, k1, w1, h1, n2, b2, c2, r2, d2, k2, w2, h2, n3, b3, c3, r3, d3, k3, w3, h3, if_neg l1, if_neg l2, if_neg l3]
theorem xsz0 : (xtb.getD 9 []).getD 0 0 - 48 = nI 1 := by decide
theorem xsz1 : (xtb.getD 9 []).getD 1 0 - 48 = nI 2 := by decide
theorem xsz2 : (xtb.getD 9 []).getD 2 0 - 48 = nI 2 := by decide
theorem xsz3 : (xtb.getD 9 []).getD 3 0 - 48 = nI 3 := by decide
theorem xsz4 : (xtb.getD 9 []).getD 4 0 - 48 = nI 3 := by decide
theorem xsz5 : (xtb.getD 9 []).getD 5 0 - 48 = nI 3 := by decide
theorem xsz6 : (xtb.getD 9 []).getD 6 0 - 48 = nI 3 := by decide
theorem xsz7 : (xtb.getD 9 []).getD 7 0 - 48 = nI 3 := by decide
theorem xsz8 : (xtb.getD 9 []).getD 8 0 - 48 = nI 3 := by decide
theorem xsz9 : (xtb.getD 9 []).getD 9 0 - 48 = nI 4 := by decide
theorem xsz10 : (xtb.getD 9 []).getD 10 0 - 48 = nI 4 := by decide
theorem m_pOf0 {r rn : Nat} {τ : St} {L : Lv} (hL : LOk L) (hm : LM τ L) {g : Nat → Nat} {a : Nat} (hrn : rn < 1000) (ha : a + 1 ≤ rn) (hg : ∀ i, a ≤ i → i < a + 1 → g i < L.n ∧ τ.1 r i = nI (g i)) : f_X12_percentOf r rn (nI a) (nI 0) τ = some (pcS L (max (shW L g a 0) (shH L g a 0))) := by
  have h40 := hL.1
  have hgap : L.gap ≤ 9 := hL.2.2.1
  have eg : τ.1 2 0 = nI L.gap := hm.2.2.1
  have eq : τ.1 2 1 = nI L.sq := hm.2.2.2.1
  have h8 := hL.2.2.2.1
  have sz : ∀ i, a ≤ i → i < a + 1 → L.w (g i) ≤ 60 ∧ L.h (g i) ≤ 60 := fun i h1 h2 => by
    obtain ⟨d1, d2, _⟩ := hL.2.1 (g i) (hg i h1 h2).1
    exact ⟨d1.2, d2.2⟩
  have hg' : ∀ i, a ≤ i → i < a + 1 → g i < L.n ∧ τ.1 r i = nI (g i) := hg
  have sz' : ∀ i, a ≤ i → i < a + 1 → L.w (g i) ≤ 60 ∧ L.h (g i) ≤ 60 := sz
  obtain ⟨y0, u0⟩ := sz' a (by omega) (by omega)
  rw [m_open1 h40 hm (by decide) hrn xsz0 ha hg', f_X12_percentOf_162]
  rw [if_pos (show nI 0 = (0 : Int32) by decide)]
  simp (disch := exact big (by omega)) only [m_beside eg, m_greater, bo_some, m_percent eq h8]
  simp only [shW, shH]
theorem m_pOf1 {r rn : Nat} {τ : St} {L : Lv} (hL : LOk L) (hm : LM τ L) {g : Nat → Nat} {a : Nat} (hrn : rn < 1000) (ha : a + 2 ≤ rn) (hg : ∀ i, a ≤ i → i < a + 2 → g i < L.n ∧ τ.1 r i = nI (g i)) : f_X12_percentOf r rn (nI a) (nI 1) τ = some (pcS L (max (shW L g a 1) (shH L g a 1))) := by
  have h40 := hL.1
  have hgap : L.gap ≤ 9 := hL.2.2.1
  have eg : τ.1 2 0 = nI L.gap := hm.2.2.1
  have eq : τ.1 2 1 = nI L.sq := hm.2.2.2.1
  have h8 := hL.2.2.2.1
  have sz : ∀ i, a ≤ i → i < a + 2 → L.w (g i) ≤ 60 ∧ L.h (g i) ≤ 60 := fun i h1 h2 => by
    obtain ⟨d1, d2, _⟩ := hL.2.1 (g i) (hg i h1 h2).1
    exact ⟨d1.2, d2.2⟩
  have hg' : ∀ i, a ≤ i → i < a + 2 → g i < L.n ∧ τ.1 r i = nI (g i) := hg
  have sz' : ∀ i, a ≤ i → i < a + 2 → L.w (g i) ≤ 60 ∧ L.h (g i) ≤ 60 := sz
  obtain ⟨y0, u0⟩ := sz' a (by omega) (by omega)
  obtain ⟨y1, u1⟩ := sz' (a + 1) (by omega) (by omega)
  rw [m_open2 h40 hm (by decide) hrn xsz1 ha hg', f_X12_percentOf_162]
  rw [if_neg (show ¬ nI 1 = (0 : Int32) by decide)]
  rw [if_pos (show nI 1 = (1 : Int32) by decide)]
  simp (disch := exact big (by omega)) only [m_beside eg, m_greater, bo_some, m_percent eq h8]
  simp only [shW, shH]
theorem m_pOf2 {r rn : Nat} {τ : St} {L : Lv} (hL : LOk L) (hm : LM τ L) {g : Nat → Nat} {a : Nat} (hrn : rn < 1000) (ha : a + 2 ≤ rn) (hg : ∀ i, a ≤ i → i < a + 2 → g i < L.n ∧ τ.1 r i = nI (g i)) : f_X12_percentOf r rn (nI a) (nI 2) τ = some (pcS L (max (shW L g a 2) (shH L g a 2))) := by
  have h40 := hL.1
  have hgap : L.gap ≤ 9 := hL.2.2.1
  have eg : τ.1 2 0 = nI L.gap := hm.2.2.1
  have eq : τ.1 2 1 = nI L.sq := hm.2.2.2.1
  have h8 := hL.2.2.2.1
  have sz : ∀ i, a ≤ i → i < a + 2 → L.w (g i) ≤ 60 ∧ L.h (g i) ≤ 60 := fun i h1 h2 => by
    obtain ⟨d1, d2, _⟩ := hL.2.1 (g i) (hg i h1 h2).1
    exact ⟨d1.2, d2.2⟩
  have hg' : ∀ i, a ≤ i → i < a + 2 → g i < L.n ∧ τ.1 r i = nI (g i) := hg
  have sz' : ∀ i, a ≤ i → i < a + 2 → L.w (g i) ≤ 60 ∧ L.h (g i) ≤ 60 := sz
  obtain ⟨y0, u0⟩ := sz' a (by omega) (by omega)
  obtain ⟨y1, u1⟩ := sz' (a + 1) (by omega) (by omega)
  rw [m_open2 h40 hm (by decide) hrn xsz2 ha hg', f_X12_percentOf_162]
  rw [if_neg (show ¬ nI 2 = (0 : Int32) by decide), if_neg (show ¬ nI 2 = (1 : Int32) by decide)]
  rw [if_pos (show nI 2 = (2 : Int32) by decide)]
  simp (disch := exact big (by omega)) only [m_beside eg, m_greater, bo_some, m_percent eq h8]
  simp only [shW, shH]
theorem m_pOf3 {r rn : Nat} {τ : St} {L : Lv} (hL : LOk L) (hm : LM τ L) {g : Nat → Nat} {a : Nat} (hrn : rn < 1000) (ha : a + 3 ≤ rn) (hg : ∀ i, a ≤ i → i < a + 3 → g i < L.n ∧ τ.1 r i = nI (g i)) : f_X12_percentOf r rn (nI a) (nI 3) τ = some (pcS L (max (shW L g a 3) (shH L g a 3))) := by
  have h40 := hL.1
  have hgap : L.gap ≤ 9 := hL.2.2.1
  have eg : τ.1 2 0 = nI L.gap := hm.2.2.1
  have eq : τ.1 2 1 = nI L.sq := hm.2.2.2.1
  have h8 := hL.2.2.2.1
  have sz : ∀ i, a ≤ i → i < a + 3 → L.w (g i) ≤ 60 ∧ L.h (g i) ≤ 60 := fun i h1 h2 => by
    obtain ⟨d1, d2, _⟩ := hL.2.1 (g i) (hg i h1 h2).1
    exact ⟨d1.2, d2.2⟩
  have hg' : ∀ i, a ≤ i → i < a + 3 → g i < L.n ∧ τ.1 r i = nI (g i) := hg
  have sz' : ∀ i, a ≤ i → i < a + 3 → L.w (g i) ≤ 60 ∧ L.h (g i) ≤ 60 := sz
  obtain ⟨y0, u0⟩ := sz' a (by omega) (by omega)
  obtain ⟨y1, u1⟩ := sz' (a + 1) (by omega) (by omega)
  obtain ⟨y2, u2⟩ := sz' (a + 2) (by omega) (by omega)
  rw [m_open3 h40 hm (by decide) hrn xsz3 ha hg', f_X12_percentOf_162]
  rw [if_neg (show ¬ nI 3 = (0 : Int32) by decide), if_neg (show ¬ nI 3 = (1 : Int32) by decide), if_neg (show ¬ nI 3 = (2 : Int32) by decide)]
  rw [if_pos (show nI 3 = (3 : Int32) by decide)]
  rw [m_beside eg, bo_some, m_beside eg, bo_some, m_greater (big (by omega)) (big (by omega)), m_greater (big (by omega)) (big (by omega)), m_percent eq h8 (big (by omega)) (big (by omega)), bo_some]
  simp only [shW, shH]
theorem m_pOf4 {r rn : Nat} {τ : St} {L : Lv} (hL : LOk L) (hm : LM τ L) {g : Nat → Nat} {a : Nat} (hrn : rn < 1000) (ha : a + 3 ≤ rn) (hg : ∀ i, a ≤ i → i < a + 3 → g i < L.n ∧ τ.1 r i = nI (g i)) : f_X12_percentOf r rn (nI a) (nI 4) τ = some (pcS L (max (shW L g a 4) (shH L g a 4))) := by
  have h40 := hL.1
  have hgap : L.gap ≤ 9 := hL.2.2.1
  have eg : τ.1 2 0 = nI L.gap := hm.2.2.1
  have eq : τ.1 2 1 = nI L.sq := hm.2.2.2.1
  have h8 := hL.2.2.2.1
  have sz : ∀ i, a ≤ i → i < a + 3 → L.w (g i) ≤ 60 ∧ L.h (g i) ≤ 60 := fun i h1 h2 => by
    obtain ⟨d1, d2, _⟩ := hL.2.1 (g i) (hg i h1 h2).1
    exact ⟨d1.2, d2.2⟩
  have hg' : ∀ i, a ≤ i → i < a + 3 → g i < L.n ∧ τ.1 r i = nI (g i) := hg
  have sz' : ∀ i, a ≤ i → i < a + 3 → L.w (g i) ≤ 60 ∧ L.h (g i) ≤ 60 := sz
  obtain ⟨y0, u0⟩ := sz' a (by omega) (by omega)
  obtain ⟨y1, u1⟩ := sz' (a + 1) (by omega) (by omega)
  obtain ⟨y2, u2⟩ := sz' (a + 2) (by omega) (by omega)
  rw [m_open3 h40 hm (by decide) hrn xsz4 ha hg', f_X12_percentOf_162]
  rw [if_neg (show ¬ nI 4 = (0 : Int32) by decide), if_neg (show ¬ nI 4 = (1 : Int32) by decide), if_neg (show ¬ nI 4 = (2 : Int32) by decide), if_neg (show ¬ nI 4 = (3 : Int32) by decide)]
  rw [if_pos (show nI 4 = (4 : Int32) by decide)]
  rw [m_beside eg, bo_some, m_beside eg, bo_some, m_greater (big (by omega)) (big (by omega)), m_greater (big (by omega)) (big (by omega)), m_percent eq h8 (big (by omega)) (big (by omega)), bo_some]
  simp only [shW, shH]
theorem m_pOf5 {r rn : Nat} {τ : St} {L : Lv} (hL : LOk L) (hm : LM τ L) {g : Nat → Nat} {a : Nat} (hrn : rn < 1000) (ha : a + 3 ≤ rn) (hg : ∀ i, a ≤ i → i < a + 3 → g i < L.n ∧ τ.1 r i = nI (g i)) : f_X12_percentOf r rn (nI a) (nI 5) τ = some (pcS L (max (shW L g a 5) (shH L g a 5))) := by
  have h40 := hL.1
  have hgap : L.gap ≤ 9 := hL.2.2.1
  have eg : τ.1 2 0 = nI L.gap := hm.2.2.1
  have eq : τ.1 2 1 = nI L.sq := hm.2.2.2.1
  have h8 := hL.2.2.2.1
  have sz : ∀ i, a ≤ i → i < a + 3 → L.w (g i) ≤ 60 ∧ L.h (g i) ≤ 60 := fun i h1 h2 => by
    obtain ⟨d1, d2, _⟩ := hL.2.1 (g i) (hg i h1 h2).1
    exact ⟨d1.2, d2.2⟩
  have hg' : ∀ i, a ≤ i → i < a + 3 → g i < L.n ∧ τ.1 r i = nI (g i) := hg
  have sz' : ∀ i, a ≤ i → i < a + 3 → L.w (g i) ≤ 60 ∧ L.h (g i) ≤ 60 := sz
  obtain ⟨y0, u0⟩ := sz' a (by omega) (by omega)
  obtain ⟨y1, u1⟩ := sz' (a + 1) (by omega) (by omega)
  obtain ⟨y2, u2⟩ := sz' (a + 2) (by omega) (by omega)
  rw [m_open3 h40 hm (by decide) hrn xsz5 ha hg', f_X12_percentOf_162]
  rw [if_neg (show ¬ nI 5 = (0 : Int32) by decide), if_neg (show ¬ nI 5 = (1 : Int32) by decide), if_neg (show ¬ nI 5 = (2 : Int32) by decide), if_neg (show ¬ nI 5 = (3 : Int32) by decide), if_neg (show ¬ nI 5 = (4 : Int32) by decide)]
  rw [if_pos (show nI 5 = (5 : Int32) by decide)]
  simp (disch := exact big (by omega)) only [m_beside eg, m_greater, bo_some, m_percent eq h8]
  simp only [shW, shH]
theorem m_pOf6 {r rn : Nat} {τ : St} {L : Lv} (hL : LOk L) (hm : LM τ L) {g : Nat → Nat} {a : Nat} (hrn : rn < 1000) (ha : a + 3 ≤ rn) (hg : ∀ i, a ≤ i → i < a + 3 → g i < L.n ∧ τ.1 r i = nI (g i)) : f_X12_percentOf r rn (nI a) (nI 6) τ = some (pcS L (max (shW L g a 6) (shH L g a 6))) := by
  have h40 := hL.1
  have hgap : L.gap ≤ 9 := hL.2.2.1
  have eg : τ.1 2 0 = nI L.gap := hm.2.2.1
  have eq : τ.1 2 1 = nI L.sq := hm.2.2.2.1
  have h8 := hL.2.2.2.1
  have sz : ∀ i, a ≤ i → i < a + 3 → L.w (g i) ≤ 60 ∧ L.h (g i) ≤ 60 := fun i h1 h2 => by
    obtain ⟨d1, d2, _⟩ := hL.2.1 (g i) (hg i h1 h2).1
    exact ⟨d1.2, d2.2⟩
  have hg' : ∀ i, a ≤ i → i < a + 3 → g i < L.n ∧ τ.1 r i = nI (g i) := hg
  have sz' : ∀ i, a ≤ i → i < a + 3 → L.w (g i) ≤ 60 ∧ L.h (g i) ≤ 60 := sz
  obtain ⟨y0, u0⟩ := sz' a (by omega) (by omega)
  obtain ⟨y1, u1⟩ := sz' (a + 1) (by omega) (by omega)
  obtain ⟨y2, u2⟩ := sz' (a + 2) (by omega) (by omega)
  rw [m_open3 h40 hm (by decide) hrn xsz6 ha hg', f_X12_percentOf_162]
  rw [if_neg (show ¬ nI 6 = (0 : Int32) by decide), if_neg (show ¬ nI 6 = (1 : Int32) by decide), if_neg (show ¬ nI 6 = (2 : Int32) by decide), if_neg (show ¬ nI 6 = (3 : Int32) by decide), if_neg (show ¬ nI 6 = (4 : Int32) by decide), if_neg (show ¬ nI 6 = (5 : Int32) by decide)]
  rw [if_pos (show nI 6 = (6 : Int32) by decide)]
  simp (disch := exact big (by omega)) only [m_beside eg, m_greater, bo_some, m_percent eq h8]
  simp only [shW, shH]
theorem m_pOf7 {r rn : Nat} {τ : St} {L : Lv} (hL : LOk L) (hm : LM τ L) {g : Nat → Nat} {a : Nat} (hrn : rn < 1000) (ha : a + 3 ≤ rn) (hg : ∀ i, a ≤ i → i < a + 3 → g i < L.n ∧ τ.1 r i = nI (g i)) : f_X12_percentOf r rn (nI a) (nI 7) τ = some (pcS L (max (shW L g a 7) (shH L g a 7))) := by
  have h40 := hL.1
  have hgap : L.gap ≤ 9 := hL.2.2.1
  have eg : τ.1 2 0 = nI L.gap := hm.2.2.1
  have eq : τ.1 2 1 = nI L.sq := hm.2.2.2.1
  have h8 := hL.2.2.2.1
  have sz : ∀ i, a ≤ i → i < a + 3 → L.w (g i) ≤ 60 ∧ L.h (g i) ≤ 60 := fun i h1 h2 => by
    obtain ⟨d1, d2, _⟩ := hL.2.1 (g i) (hg i h1 h2).1
    exact ⟨d1.2, d2.2⟩
  have hg' : ∀ i, a ≤ i → i < a + 3 → g i < L.n ∧ τ.1 r i = nI (g i) := hg
  have sz' : ∀ i, a ≤ i → i < a + 3 → L.w (g i) ≤ 60 ∧ L.h (g i) ≤ 60 := sz
  obtain ⟨y0, u0⟩ := sz' a (by omega) (by omega)
  obtain ⟨y1, u1⟩ := sz' (a + 1) (by omega) (by omega)
  obtain ⟨y2, u2⟩ := sz' (a + 2) (by omega) (by omega)
  rw [m_open3 h40 hm (by decide) hrn xsz7 ha hg', f_X12_percentOf_162]
  rw [if_neg (show ¬ nI 7 = (0 : Int32) by decide), if_neg (show ¬ nI 7 = (1 : Int32) by decide), if_neg (show ¬ nI 7 = (2 : Int32) by decide), if_neg (show ¬ nI 7 = (3 : Int32) by decide), if_neg (show ¬ nI 7 = (4 : Int32) by decide), if_neg (show ¬ nI 7 = (5 : Int32) by decide), if_neg (show ¬ nI 7 = (6 : Int32) by decide)]
  rw [if_pos (show nI 7 = (7 : Int32) by decide)]
  simp (disch := exact big (by omega)) only [m_beside eg, m_greater, bo_some, m_percent eq h8]
  simp only [shW, shH]
theorem m_pOf8 {r rn : Nat} {τ : St} {L : Lv} (hL : LOk L) (hm : LM τ L) {g : Nat → Nat} {a : Nat} (hrn : rn < 1000) (ha : a + 3 ≤ rn) (hg : ∀ i, a ≤ i → i < a + 3 → g i < L.n ∧ τ.1 r i = nI (g i)) : f_X12_percentOf r rn (nI a) (nI 8) τ = some (pcS L (max (shW L g a 8) (shH L g a 8))) := by
  have h40 := hL.1
  have hgap : L.gap ≤ 9 := hL.2.2.1
  have eg : τ.1 2 0 = nI L.gap := hm.2.2.1
  have eq : τ.1 2 1 = nI L.sq := hm.2.2.2.1
  have h8 := hL.2.2.2.1
  have sz : ∀ i, a ≤ i → i < a + 3 → L.w (g i) ≤ 60 ∧ L.h (g i) ≤ 60 := fun i h1 h2 => by
    obtain ⟨d1, d2, _⟩ := hL.2.1 (g i) (hg i h1 h2).1
    exact ⟨d1.2, d2.2⟩
  have hg' : ∀ i, a ≤ i → i < a + 3 → g i < L.n ∧ τ.1 r i = nI (g i) := hg
  have sz' : ∀ i, a ≤ i → i < a + 3 → L.w (g i) ≤ 60 ∧ L.h (g i) ≤ 60 := sz
  obtain ⟨y0, u0⟩ := sz' a (by omega) (by omega)
  obtain ⟨y1, u1⟩ := sz' (a + 1) (by omega) (by omega)
  obtain ⟨y2, u2⟩ := sz' (a + 2) (by omega) (by omega)
  rw [m_open3 h40 hm (by decide) hrn xsz8 ha hg', f_X12_percentOf_162]
  rw [if_neg (show ¬ nI 8 = (0 : Int32) by decide), if_neg (show ¬ nI 8 = (1 : Int32) by decide), if_neg (show ¬ nI 8 = (2 : Int32) by decide), if_neg (show ¬ nI 8 = (3 : Int32) by decide), if_neg (show ¬ nI 8 = (4 : Int32) by decide), if_neg (show ¬ nI 8 = (5 : Int32) by decide), if_neg (show ¬ nI 8 = (6 : Int32) by decide), if_neg (show ¬ nI 8 = (7 : Int32) by decide)]
  rw [if_pos (show nI 8 = (8 : Int32) by decide)]
  simp (disch := exact big (by omega)) only [m_beside eg, m_greater, bo_some, m_percent eq h8]
  simp only [shW, shH]
theorem m_pOf9 {r rn : Nat} {τ : St} {L : Lv} (hL : LOk L) (hm : LM τ L) {g : Nat → Nat} {a : Nat} (hrn : rn < 1000) (ha : a + 4 ≤ rn) (hg : ∀ i, a ≤ i → i < a + 4 → g i < L.n ∧ τ.1 r i = nI (g i)) : f_X12_percentOf r rn (nI a) (nI 9) τ = some (pcS L (max (shW L g a 9) (shH L g a 9))) := by
  have h40 := hL.1
  have hgap : L.gap ≤ 9 := hL.2.2.1
  have eg : τ.1 2 0 = nI L.gap := hm.2.2.1
  have eq : τ.1 2 1 = nI L.sq := hm.2.2.2.1
  have h8 := hL.2.2.2.1
  have sz : ∀ i, a ≤ i → i < a + 4 → L.w (g i) ≤ 60 ∧ L.h (g i) ≤ 60 := fun i h1 h2 => by
    obtain ⟨d1, d2, _⟩ := hL.2.1 (g i) (hg i h1 h2).1
    exact ⟨d1.2, d2.2⟩
  have hg' : ∀ i, a ≤ i → i < a + 4 → g i < L.n ∧ τ.1 r i = nI (g i) := hg
  have sz' : ∀ i, a ≤ i → i < a + 4 → L.w (g i) ≤ 60 ∧ L.h (g i) ≤ 60 := sz
  obtain ⟨y0, u0⟩ := sz' a (by omega) (by omega)
  obtain ⟨y1, u1⟩ := sz' (a + 1) (by omega) (by omega)
  obtain ⟨y2, u2⟩ := sz' (a + 2) (by omega) (by omega)
  obtain ⟨y3, u3⟩ := sz' (a + 3) (by omega) (by omega)
  rw [m_open4 h40 hm (by decide) hrn xsz9 ha hg', f_X12_percentOf_162]
  rw [if_neg (show ¬ nI 9 = (0 : Int32) by decide), if_neg (show ¬ nI 9 = (1 : Int32) by decide), if_neg (show ¬ nI 9 = (2 : Int32) by decide), if_neg (show ¬ nI 9 = (3 : Int32) by decide), if_neg (show ¬ nI 9 = (4 : Int32) by decide), if_neg (show ¬ nI 9 = (5 : Int32) by decide), if_neg (show ¬ nI 9 = (6 : Int32) by decide), if_neg (show ¬ nI 9 = (7 : Int32) by decide), if_neg (show ¬ nI 9 = (8 : Int32) by decide)]
  rw [if_pos (show nI 9 = (9 : Int32) by decide)]
  simp (disch := exact big (by omega)) only [m_beside eg, m_greater, bo_some, m_percent eq h8]
  simp only [shW, shH]
theorem m_pOf10 {r rn : Nat} {τ : St} {L : Lv} (hL : LOk L) (hm : LM τ L) {g : Nat → Nat} {a : Nat} (hrn : rn < 1000) (ha : a + 4 ≤ rn) (hg : ∀ i, a ≤ i → i < a + 4 → g i < L.n ∧ τ.1 r i = nI (g i)) : f_X12_percentOf r rn (nI a) (nI 10) τ = some (pcS L (max (shW L g a 10) (shH L g a 10))) := by
  have h40 := hL.1
  have hgap : L.gap ≤ 9 := hL.2.2.1
  have eg : τ.1 2 0 = nI L.gap := hm.2.2.1
  have eq : τ.1 2 1 = nI L.sq := hm.2.2.2.1
  have h8 := hL.2.2.2.1
  have sz : ∀ i, a ≤ i → i < a + 4 → L.w (g i) ≤ 60 ∧ L.h (g i) ≤ 60 := fun i h1 h2 => by
    obtain ⟨d1, d2, _⟩ := hL.2.1 (g i) (hg i h1 h2).1
    exact ⟨d1.2, d2.2⟩
  have hg' : ∀ i, a ≤ i → i < a + 4 → g i < L.n ∧ τ.1 r i = nI (g i) := hg
  have sz' : ∀ i, a ≤ i → i < a + 4 → L.w (g i) ≤ 60 ∧ L.h (g i) ≤ 60 := sz
  obtain ⟨y0, u0⟩ := sz' a (by omega) (by omega)
  obtain ⟨y1, u1⟩ := sz' (a + 1) (by omega) (by omega)
  obtain ⟨y2, u2⟩ := sz' (a + 2) (by omega) (by omega)
  obtain ⟨y3, u3⟩ := sz' (a + 3) (by omega) (by omega)
  rw [m_open4 h40 hm (by decide) hrn xsz10 ha hg', f_X12_percentOf_162]
  rw [if_neg (show ¬ nI 10 = (0 : Int32) by decide), if_neg (show ¬ nI 10 = (1 : Int32) by decide), if_neg (show ¬ nI 10 = (2 : Int32) by decide), if_neg (show ¬ nI 10 = (3 : Int32) by decide), if_neg (show ¬ nI 10 = (4 : Int32) by decide), if_neg (show ¬ nI 10 = (5 : Int32) by decide), if_neg (show ¬ nI 10 = (6 : Int32) by decide), if_neg (show ¬ nI 10 = (7 : Int32) by decide), if_neg (show ¬ nI 10 = (8 : Int32) by decide), if_neg (show ¬ nI 10 = (9 : Int32) by decide)]
  simp (disch := exact big (by omega)) only [m_beside eg, m_greater, bo_some, m_percent eq h8]
  simp only [shW, shH]
theorem m_percentOf {r rn : Nat} {τ : St} {L : Lv} (hL : LOk L) (hm : LM τ L) {g : Nat → Nat} {a sh : Nat} (hsh : sh < 11) (hrn : rn < 1000) (ha : a + szS sh ≤ rn) (hg : ∀ i, a ≤ i → i < a + szS sh → g i < L.n ∧ τ.1 r i = nI (g i)) : f_X12_percentOf r rn (nI a) (nI sh) τ = some (pcS L (max (shW L g a sh) (shH L g a sh))) := by
  have hs : sh = 0 ∨ sh = 1 ∨ sh = 2 ∨ sh = 3 ∨ sh = 4 ∨ sh = 5 ∨ sh = 6 ∨ sh = 7 ∨ sh = 8 ∨ sh = 9 ∨ sh = 10 := by omega
  rcases hs with rfl | rfl | rfl | rfl | rfl | rfl | rfl | rfl | rfl | rfl | rfl
  · exact m_pOf0 hL hm hrn ha hg
  · exact m_pOf1 hL hm hrn ha hg
  · exact m_pOf2 hL hm hrn ha hg
  · exact m_pOf3 hL hm hrn ha hg
  · exact m_pOf4 hL hm hrn ha hg
  · exact m_pOf5 hL hm hrn ha hg
  · exact m_pOf6 hL hm hrn ha hg
  · exact m_pOf7 hL hm hrn ha hg
  · exact m_pOf8 hL hm hrn ha hg
  · exact m_pOf9 hL hm hrn ha hg
  · exact m_pOf10 hL hm hrn ha hg
