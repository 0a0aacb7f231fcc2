/-! SHAPES -/
abbrev szS (sh : Nat) : Nat := ([1, 2, 2, 3, 3, 3, 3, 3, 3, 4, 4] : List Nat).getD sh 0
def shW (L : Lv) (g : Nat → Nat) (a sh : Nat) : Nat := match sh with
  | 0 => L.w (g a)
  | 1 => L.w (g a) + L.w (g (a + 1)) + L.gap
  | 2 => max (L.w (g a)) (L.w (g (a + 1)))
  | 3 => L.w (g a) + (L.w (g (a + 1)) + L.w (g (a + 2)) + L.gap) + L.gap
  | 4 => max (L.w (g a)) (max (L.w (g (a + 1))) (L.w (g (a + 2))))
  | 5 => L.w (g a) + max (L.w (g (a + 1))) (L.w (g (a + 2))) + L.gap
  | 6 => max (L.w (g a)) (L.w (g (a + 1))) + L.w (g (a + 2)) + L.gap
  | 7 => max (L.w (g a)) (L.w (g (a + 1)) + L.w (g (a + 2)) + L.gap)
  | 8 => max (L.w (g a) + L.w (g (a + 1)) + L.gap) (L.w (g (a + 2)))
  | 9 => max (L.w (g a)) (L.w (g (a + 1))) + max (L.w (g (a + 2))) (L.w (g (a + 3))) + L.gap
  | _ => max (L.w (g a) + L.w (g (a + 1)) + L.gap) (L.w (g (a + 2)) + L.w (g (a + 3)) + L.gap)
def shH (L : Lv) (g : Nat → Nat) (a sh : Nat) : Nat := match sh with
  | 0 => L.h (g a)
  | 1 => max (L.h (g a)) (L.h (g (a + 1)))
  | 2 => L.h (g a) + L.h (g (a + 1)) + L.gap
  | 3 => max (L.h (g a)) (max (L.h (g (a + 1))) (L.h (g (a + 2))))
  | 4 => L.h (g a) + (L.h (g (a + 1)) + L.h (g (a + 2)) + L.gap) + L.gap
  | 5 => max (L.h (g a)) (L.h (g (a + 1)) + L.h (g (a + 2)) + L.gap)
  | 6 => max (L.h (g a) + L.h (g (a + 1)) + L.gap) (L.h (g (a + 2)))
  | 7 => L.h (g a) + max (L.h (g (a + 1))) (L.h (g (a + 2))) + L.gap
  | 8 => max (L.h (g a)) (L.h (g (a + 1))) + L.h (g (a + 2)) + L.gap
  | 9 => max (L.h (g a) + L.h (g (a + 1)) + L.gap) (L.h (g (a + 2)) + L.h (g (a + 3)) + L.gap)
  | _ => max (L.h (g a)) (L.h (g (a + 1))) + max (L.h (g (a + 2))) (L.h (g (a + 3))) + L.gap
theorem ed_stop {r rn N n x4 xn4 x5 xn5 : Nat} {x6 x7 x8 x9 : Int32} {sh p : Nat} {σ : St} (hsh : sh < 11) (h : p = 3 ∨ (p < 3 ∧ st_5.getD (sh * 3 + p) 0 = 0)) : f_X3_edgeIn_81 r rn N (n + 1) (nI sh) x4 xn4 x5 xn5 x6 x7 x8 x9 (nI p) σ = some (imax x7 x8) := by
  rw [f_X3_edgeIn_81]
  unfold f_X3_edgeIn_206
  rcases h with rfl | ⟨h1, h2⟩
  · rw [if_pos (by decide)]
  · rw [if_neg (show ¬ (3 : Int32) ≤ nI p from nI_ge (b := 3) h1 (by omega)), show (3 : Int32) = nI 3 from rfl, nmul, nadd, ib_n (by omega), decide_eq_true (show sh * 3 + p < 33 by omega), grd_true, ncl (by omega), h2, if_pos rfl]
theorem ed_one {r rn N n x4 x5 : Nat} {x7 : Int32} {sh p G nx gap : Nat} {al ac g : Nat → Nat} {σ : St} (hsh : sh < 11) (hp : p < 3) (ht : st_5.getD (sh * 3 + p) 0 = nI 1) (hrn : rn < 1000) (hnx : nx + 1 ≤ rn) (hg : ∀ i, nx ≤ i → i < nx + 1 → g i < 40 ∧ σ.1 r i = nI (g i) ∧ σ.1 x4 (g i) = nI (al (g i)) ∧ σ.1 x5 (g i) = nI (ac (g i)) ∧ al (g i) < 100 ∧ ac (g i) < 100) (hgap : gap < 100) (hG : G < 1000) :
    f_X3_edgeIn_81 r rn N (n + 1) (nI sh) x4 40 x5 40 (nI gap) x7 (nI G) (nI nx) (nI p) σ = f_X3_edgeIn_81 r rn N n (nI sh) x4 40 x5 40 (nI gap) (x7 + (nI gap + nI (al (g nx)))) (nI (max G (ac (g nx)))) (nI (nx + 1)) (nI (p + 1)) σ := by
  obtain ⟨a1, a2, a3, a4, a5, a6⟩ := hg nx (by omega) (by omega)
  rw [f_X3_edgeIn_81, if_neg (show ¬ (3 : Int32) ≤ nI p from nI_ge (b := 3) hp (by omega)), show (3 : Int32) = nI 3 from rfl, nmul, nadd, ib_n (by omega), decide_eq_true (show sh * 3 + p < 33 by omega), grd_true, ncl (a := sh * 3 + p) (by omega), ht, if_neg (nI_ne0 (by omega) (by omega)), nadd, if_pos (show nI (nx + 1) ≤ Int32.ofNat rn from nI_le hnx (by omega)), ib_n (a := nx) (by omega), decide_eq_true (show nx < rn by omega), ncl (a := nx) (by omega), a2, ib_n (a := g nx) (by omega), decide_eq_true a1, ncl (a := g nx) (by omega), a3, a4]
  simp only [grd_true]
  unfold f_X3_edgeIn_174
  rw [if_neg (show ¬ nI 1 = (2 : Int32) by decide), nmax (a := G) (by omega) (by omega), nI_1, nadd nx 1]
theorem ed_two {r rn N n x4 x5 : Nat} {x7 : Int32} {sh p G nx gap : Nat} {al ac g : Nat → Nat} {σ : St} (hsh : sh < 11) (hp : p < 3) (ht : st_5.getD (sh * 3 + p) 0 = nI 2) (hrn : rn < 1000) (hnx : nx + 2 ≤ rn) (hg : ∀ i, nx ≤ i → i < nx + 2 → g i < 40 ∧ σ.1 r i = nI (g i) ∧ σ.1 x4 (g i) = nI (al (g i)) ∧ σ.1 x5 (g i) = nI (ac (g i)) ∧ al (g i) < 100 ∧ ac (g i) < 100) (hgap : gap < 100) (hG : G < 1000) :
    f_X3_edgeIn_81 r rn N (n + 1) (nI sh) x4 40 x5 40 (nI gap) x7 (nI G) (nI nx) (nI p) σ = f_X3_edgeIn_81 r rn N n (nI sh) x4 40 x5 40 (nI gap) (x7 + (nI gap + nI (max (al (g nx)) (al (g (nx + 1)))))) (nI (max G (ac (g nx) + (gap + ac (g (nx + 1)))))) (nI (nx + 2)) (nI (p + 1)) σ := by
  obtain ⟨a1, a2, a3, a4, a5, a6⟩ := hg nx (by omega) (by omega)
  obtain ⟨b1, b2, b3, b4, b5, b6⟩ := hg (nx + 1) (by omega) (by omega)
  have t2 : nI 2 = (2 : Int32) := by decide
  have t0 : ¬ nI 2 = (0 : Int32) := by decide
  have n1 : nI nx + 1 = nI (nx + 1) := nadd nx 1
  have p1 : nI p + 1 = nI (p + 1) := nadd p 1
  have n2 : nI nx + nI 2 = nI (nx + 2) := nadd nx 2
  have le : nI (nx + 2) ≤ Int32.ofNat rn := nI_le hnx (by omega)
  have e1 : nI (ac (g nx)) + (nI gap + nI (ac (g (nx + 1)))) = nI (ac (g nx) + (gap + ac (g (nx + 1)))) := by rw [nadd, nadd]
  have e2 : imax (nI (al (g nx))) (nI (al (g (nx + 1)))) = nI (max (al (g nx)) (al (g (nx + 1)))) := nmax (by omega) (by omega)
  have e3 : imax (nI G) (nI (ac (g nx) + (gap + ac (g (nx + 1))))) = nI (max G (ac (g nx) + (gap + ac (g (nx + 1))))) := nmax (by omega) (by omega)
  rw [f_X3_edgeIn_81, if_neg (show ¬ (3 : Int32) ≤ nI p from nI_ge (b := 3) hp (by omega)), show (3 : Int32) = nI 3 from rfl, nmul, nadd, ib_n (by omega), decide_eq_true (show sh * 3 + p < 33 by omega), grd_true, ncl (a := sh * 3 + p) (by omega), ht, if_neg t0, n2, if_pos le, if_pos t2]
  rw [n1, ib_n (a := nx) (by omega), decide_eq_true (show nx < rn by omega), ncl (a := nx) (by omega), a2, ib_n (a := g nx) (by omega), decide_eq_true a1, ncl (a := g nx) (by omega), a3, a4]
  rw [grd_true, grd_true, grd_true, grd_true, ib_n (a := nx + 1) (by omega), decide_eq_true (show nx + 1 < rn by omega), ncl (a := nx + 1) (by omega), b2, ib_n (a := g (nx + 1)) (by omega), decide_eq_true b1, ncl (a := g (nx + 1)) (by omega), b3, b4]
  rw [grd_true, grd_true, grd_true, grd_true, f_X3_edgeIn_174, e1, e2, e3, n2, p1]
theorem neg_gap (gap A : Nat) : -nI gap + (nI gap + nI A) = nI A := by
  rw [← Int32.add_assoc, Int32.add_left_neg, Int32.zero_add]
theorem x_edgeIn {r rn N : Nat} (hN : 802 < N) {σ : St} {L : Lv} (hL : LOk L) (hx : LX 1 σ L) {g : Nat → Nat} {a sh : Nat} (hsh : sh < 11) (hrn : rn < 1000) (ha : a + szS sh ≤ rn) (hg : ∀ i, a ≤ i → i < a + szS sh → g i < L.n ∧ σ.1 r i = nI (g i)) : f_X3_edgeIn r rn N (nI sh) (nI a) σ = some (nI (max (shW L g a sh) (shH L g a sh))) := by
  have h40 := hL.1
  have hgap : L.gap ≤ 9 := hL.2.2.1
  have eg : σ.1 10 0 = nI L.gap := hx.2.2.1
  have arr : ∀ i, a ≤ i → i < a + szS sh → g i < 40 ∧ σ.1 r i = nI (g i) ∧ σ.1 4 (g i) = nI (L.w (g i)) ∧ σ.1 5 (g i) = nI (L.h (g i)) ∧ L.w (g i) ≤ 60 ∧ L.h (g i) ≤ 60 := fun i h1 h2 => by
    obtain ⟨q1, q2⟩ := hg i h1 h2
    obtain ⟨_, c2, c3, _⟩ := hx.2.1 (g i) q1
    obtain ⟨d1, d2, _⟩ := hL.2.1 (g i) q1
    exact ⟨by omega, q2, c2, c3, d1.2, d2.2⟩
  have over : ∀ i, a ≤ i → i < a + szS sh → g i < 40 ∧ σ.1 r i = nI (g i) ∧ σ.1 5 (g i) = nI (L.h (g i)) ∧ σ.1 4 (g i) = nI (L.w (g i)) ∧ L.h (g i) < 100 ∧ L.w (g i) < 100 := fun i h1 h2 => by
    obtain ⟨q1, q2, q3, q4, q5, q6⟩ := arr i h1 h2
    exact ⟨q1, q2, q4, q3, by omega, by omega⟩
  have beside : ∀ i, a ≤ i → i < a + szS sh → g i < 40 ∧ σ.1 r i = nI (g i) ∧ σ.1 4 (g i) = nI (L.w (g i)) ∧ σ.1 5 (g i) = nI (L.h (g i)) ∧ L.w (g i) < 100 ∧ L.h (g i) < 100 := fun i h1 h2 => by
    obtain ⟨q1, q2, q3, q4, q5, q6⟩ := arr i h1 h2
    exact ⟨q1, q2, q3, q4, by omega, by omega⟩
  obtain ⟨M, rfl⟩ : ∃ f, N = f + 1 + 1 + 1 + 1 := ⟨N - 4, by omega⟩
  unfold f_X3_edgeIn f_X3_edgeIn_26 f_X3_edgeIn_54
  rw [ib_n (a := sh) (by omega), decide_eq_true hsh, ncl (a := sh) (by omega), show ib 0 4 = true from rfl, eg]
  simp only [grd_true]
  have z0 : (0 : Int32) = nI 0 := rfl
  have hs : sh = 0 ∨ sh = 1 ∨ sh = 2 ∨ sh = 3 ∨ sh = 4 ∨ sh = 5 ∨ sh = 6 ∨ sh = 7 ∨ sh = 8 ∨ sh = 9 ∨ sh = 10 := by omega
  rcases hs with rfl | rfl | rfl | rfl | rfl | rfl | rfl | rfl | rfl | rfl | rfl
  · have ha' : a + 1 ≤ rn := ha
    have arr' : ∀ i, a ≤ i → i < a + 1 → _ := arr
    have hyp' : ∀ i, a ≤ i → i < a + 1 → _ := beside
    have q0 := arr' (a + 0) (by omega) (by omega)
    simp only [Nat.add_zero] at q0
    rw [show st_4.getD 0 0 = 0 from rfl, if_neg (by decide), if_neg (by decide), z0]
    rw [ed_one (al := L.w) (ac := L.h) (g := g) (by omega) (by omega) rfl hrn (by omega) (fun i h1 h2 => hyp' i (by omega) (by omega)) (by omega) (by omega)]
    rw [ed_stop (by omega) (Or.inr ⟨by omega, rfl⟩)]
    rw [neg_gap]
    rw [nmax (by omega) (by omega)]
    unfold shW shH
    congr 2
  · have ha' : a + 2 ≤ rn := ha
    have arr' : ∀ i, a ≤ i → i < a + 2 → _ := arr
    have hyp' : ∀ i, a ≤ i → i < a + 2 → _ := beside
    have q0 := arr' (a + 0) (by omega) (by omega)
    have q1 := arr' (a + 1) (by omega) (by omega)
    simp only [Nat.add_zero] at q0
    rw [show st_4.getD 1 0 = 0 from rfl, if_neg (by decide), if_neg (by decide), z0]
    rw [ed_one (al := L.w) (ac := L.h) (g := g) (by omega) (by omega) rfl hrn (by omega) (fun i h1 h2 => hyp' i (by omega) (by omega)) (by omega) (by omega)]
    rw [ed_one (al := L.w) (ac := L.h) (g := g) (by omega) (by omega) rfl hrn (by omega) (fun i h1 h2 => hyp' i (by omega) (by omega)) (by omega) (by omega)]
    rw [ed_stop (by omega) (Or.inr ⟨by omega, rfl⟩)]
    rw [neg_gap, nadd, nadd]
    try simp only [Nat.add_assoc, Nat.reduceAdd]
    rw [nmax (by omega) (by omega)]
    simp only [shW, shH]
    congr 2
    omega
  · have ha' : a + 2 ≤ rn := ha
    have arr' : ∀ i, a ≤ i → i < a + 2 → _ := arr
    have hyp' : ∀ i, a ≤ i → i < a + 2 → _ := over
    have q0 := arr' (a + 0) (by omega) (by omega)
    have q1 := arr' (a + 1) (by omega) (by omega)
    simp only [Nat.add_zero] at q0
    rw [show st_4.getD 2 0 = 1 from rfl, if_pos rfl, if_pos rfl, z0]
    rw [ed_one (al := L.h) (ac := L.w) (g := g) (by omega) (by omega) rfl hrn (by omega) (fun i h1 h2 => hyp' i (by omega) (by omega)) (by omega) (by omega)]
    rw [ed_one (al := L.h) (ac := L.w) (g := g) (by omega) (by omega) rfl hrn (by omega) (fun i h1 h2 => hyp' i (by omega) (by omega)) (by omega) (by omega)]
    rw [ed_stop (by omega) (Or.inr ⟨by omega, rfl⟩)]
    rw [neg_gap, nadd, nadd]
    try simp only [Nat.add_assoc, Nat.reduceAdd]
    rw [nmax (by omega) (by omega)]
    simp only [shW, shH]
    congr 2
    omega
  · have ha' : a + 3 ≤ rn := ha
    have arr' : ∀ i, a ≤ i → i < a + 3 → _ := arr
    have hyp' : ∀ i, a ≤ i → i < a + 3 → _ := beside
    have q0 := arr' (a + 0) (by omega) (by omega)
    have q1 := arr' (a + 1) (by omega) (by omega)
    have q2 := arr' (a + 2) (by omega) (by omega)
    simp only [Nat.add_zero] at q0
    rw [show st_4.getD 3 0 = 0 from rfl, if_neg (by decide), if_neg (by decide), z0]
    rw [ed_one (al := L.w) (ac := L.h) (g := g) (by omega) (by omega) rfl hrn (by omega) (fun i h1 h2 => hyp' i (by omega) (by omega)) (by omega) (by omega)]
    rw [ed_one (al := L.w) (ac := L.h) (g := g) (by omega) (by omega) rfl hrn (by omega) (fun i h1 h2 => hyp' i (by omega) (by omega)) (by omega) (by omega)]
    rw [ed_one (al := L.w) (ac := L.h) (g := g) (by omega) (by omega) rfl hrn (by omega) (fun i h1 h2 => hyp' i (by omega) (by omega)) (by omega) (by omega)]
    rw [ed_stop (by omega) (Or.inl rfl)]
    rw [neg_gap, nadd, nadd, nadd, nadd]
    try simp only [Nat.add_assoc, Nat.reduceAdd]
    rw [nmax (by omega) (by omega)]
    simp only [shW, shH]
    congr 2
    omega
  · have ha' : a + 3 ≤ rn := ha
    have arr' : ∀ i, a ≤ i → i < a + 3 → _ := arr
    have hyp' : ∀ i, a ≤ i → i < a + 3 → _ := over
    have q0 := arr' (a + 0) (by omega) (by omega)
    have q1 := arr' (a + 1) (by omega) (by omega)
    have q2 := arr' (a + 2) (by omega) (by omega)
    simp only [Nat.add_zero] at q0
    rw [show st_4.getD 4 0 = 1 from rfl, if_pos rfl, if_pos rfl, z0]
    rw [ed_one (al := L.h) (ac := L.w) (g := g) (by omega) (by omega) rfl hrn (by omega) (fun i h1 h2 => hyp' i (by omega) (by omega)) (by omega) (by omega)]
    rw [ed_one (al := L.h) (ac := L.w) (g := g) (by omega) (by omega) rfl hrn (by omega) (fun i h1 h2 => hyp' i (by omega) (by omega)) (by omega) (by omega)]
    rw [ed_one (al := L.h) (ac := L.w) (g := g) (by omega) (by omega) rfl hrn (by omega) (fun i h1 h2 => hyp' i (by omega) (by omega)) (by omega) (by omega)]
    rw [ed_stop (by omega) (Or.inl rfl)]
    rw [neg_gap, nadd, nadd, nadd, nadd]
    try simp only [Nat.add_assoc, Nat.reduceAdd]
    rw [nmax (by omega) (by omega)]
    simp only [shW, shH]
    congr 2
    omega
  · have ha' : a + 3 ≤ rn := ha
    have arr' : ∀ i, a ≤ i → i < a + 3 → _ := arr
    have hyp' : ∀ i, a ≤ i → i < a + 3 → _ := beside
    have q0 := arr' (a + 0) (by omega) (by omega)
    have q1 := arr' (a + 1) (by omega) (by omega)
    have q2 := arr' (a + 2) (by omega) (by omega)
    simp only [Nat.add_zero] at q0
    rw [show st_4.getD 5 0 = 0 from rfl, if_neg (by decide), if_neg (by decide), z0]
    rw [ed_one (al := L.w) (ac := L.h) (g := g) (by omega) (by omega) rfl hrn (by omega) (fun i h1 h2 => hyp' i (by omega) (by omega)) (by omega) (by omega)]
    rw [ed_two (al := L.w) (ac := L.h) (g := g) (by omega) (by omega) rfl hrn (by omega) (fun i h1 h2 => hyp' i (by omega) (by omega)) (by omega) (by omega)]
    rw [ed_stop (by omega) (Or.inr ⟨by omega, rfl⟩)]
    rw [neg_gap, nadd, nadd]
    try simp only [Nat.add_assoc, Nat.reduceAdd]
    rw [nmax (by omega) (by omega)]
    simp only [shW, shH]
    congr 2
    omega
  · have ha' : a + 3 ≤ rn := ha
    have arr' : ∀ i, a ≤ i → i < a + 3 → _ := arr
    have hyp' : ∀ i, a ≤ i → i < a + 3 → _ := beside
    have q0 := arr' (a + 0) (by omega) (by omega)
    have q1 := arr' (a + 1) (by omega) (by omega)
    have q2 := arr' (a + 2) (by omega) (by omega)
    simp only [Nat.add_zero] at q0
    rw [show st_4.getD 6 0 = 0 from rfl, if_neg (by decide), if_neg (by decide), z0]
    rw [ed_two (al := L.w) (ac := L.h) (g := g) (by omega) (by omega) rfl hrn (by omega) (fun i h1 h2 => hyp' i (by omega) (by omega)) (by omega) (by omega)]
    rw [ed_one (al := L.w) (ac := L.h) (g := g) (by omega) (by omega) rfl hrn (by omega) (fun i h1 h2 => hyp' i (by omega) (by omega)) (by omega) (by omega)]
    rw [ed_stop (by omega) (Or.inr ⟨by omega, rfl⟩)]
    rw [neg_gap, nadd, nadd]
    try simp only [Nat.add_assoc, Nat.reduceAdd]
    rw [nmax (by omega) (by omega)]
    simp only [shW, shH]
    congr 2
    omega
  · have ha' : a + 3 ≤ rn := ha
    have arr' : ∀ i, a ≤ i → i < a + 3 → _ := arr
    have hyp' : ∀ i, a ≤ i → i < a + 3 → _ := over
    have q0 := arr' (a + 0) (by omega) (by omega)
    have q1 := arr' (a + 1) (by omega) (by omega)
    have q2 := arr' (a + 2) (by omega) (by omega)
    simp only [Nat.add_zero] at q0
    rw [show st_4.getD 7 0 = 1 from rfl, if_pos rfl, if_pos rfl, z0]
    rw [ed_one (al := L.h) (ac := L.w) (g := g) (by omega) (by omega) rfl hrn (by omega) (fun i h1 h2 => hyp' i (by omega) (by omega)) (by omega) (by omega)]
    rw [ed_two (al := L.h) (ac := L.w) (g := g) (by omega) (by omega) rfl hrn (by omega) (fun i h1 h2 => hyp' i (by omega) (by omega)) (by omega) (by omega)]
    rw [ed_stop (by omega) (Or.inr ⟨by omega, rfl⟩)]
    rw [neg_gap, nadd, nadd]
    try simp only [Nat.add_assoc, Nat.reduceAdd]
    rw [nmax (by omega) (by omega)]
    simp only [shW, shH]
    congr 2
    omega
  · have ha' : a + 3 ≤ rn := ha
    have arr' : ∀ i, a ≤ i → i < a + 3 → _ := arr
    have hyp' : ∀ i, a ≤ i → i < a + 3 → _ := over
    have q0 := arr' (a + 0) (by omega) (by omega)
    have q1 := arr' (a + 1) (by omega) (by omega)
    have q2 := arr' (a + 2) (by omega) (by omega)
    simp only [Nat.add_zero] at q0
    rw [show st_4.getD 8 0 = 1 from rfl, if_pos rfl, if_pos rfl, z0]
    rw [ed_two (al := L.h) (ac := L.w) (g := g) (by omega) (by omega) rfl hrn (by omega) (fun i h1 h2 => hyp' i (by omega) (by omega)) (by omega) (by omega)]
    rw [ed_one (al := L.h) (ac := L.w) (g := g) (by omega) (by omega) rfl hrn (by omega) (fun i h1 h2 => hyp' i (by omega) (by omega)) (by omega) (by omega)]
    rw [ed_stop (by omega) (Or.inr ⟨by omega, rfl⟩)]
    rw [neg_gap, nadd, nadd]
    try simp only [Nat.add_assoc, Nat.reduceAdd]
    rw [nmax (by omega) (by omega)]
    simp only [shW, shH]
    congr 2
    omega
  · have ha' : a + 4 ≤ rn := ha
    have arr' : ∀ i, a ≤ i → i < a + 4 → _ := arr
    have hyp' : ∀ i, a ≤ i → i < a + 4 → _ := beside
    have q0 := arr' (a + 0) (by omega) (by omega)
    have q1 := arr' (a + 1) (by omega) (by omega)
    have q2 := arr' (a + 2) (by omega) (by omega)
    have q3 := arr' (a + 3) (by omega) (by omega)
    simp only [Nat.add_zero] at q0
    rw [show st_4.getD 9 0 = 0 from rfl, if_neg (by decide), if_neg (by decide), z0]
    rw [ed_two (al := L.w) (ac := L.h) (g := g) (by omega) (by omega) rfl hrn (by omega) (fun i h1 h2 => hyp' i (by omega) (by omega)) (by omega) (by omega)]
    rw [ed_two (al := L.w) (ac := L.h) (g := g) (by omega) (by omega) rfl hrn (by omega) (fun i h1 h2 => hyp' i (by omega) (by omega)) (by omega) (by omega)]
    rw [ed_stop (by omega) (Or.inr ⟨by omega, rfl⟩)]
    rw [neg_gap, nadd, nadd]
    try simp only [Nat.add_assoc, Nat.reduceAdd]
    rw [nmax (by omega) (by omega)]
    simp only [shW, shH]
    congr 2
    omega
  · have ha' : a + 4 ≤ rn := ha
    have arr' : ∀ i, a ≤ i → i < a + 4 → _ := arr
    have hyp' : ∀ i, a ≤ i → i < a + 4 → _ := over
    have q0 := arr' (a + 0) (by omega) (by omega)
    have q1 := arr' (a + 1) (by omega) (by omega)
    have q2 := arr' (a + 2) (by omega) (by omega)
    have q3 := arr' (a + 3) (by omega) (by omega)
    simp only [Nat.add_zero] at q0
    rw [show st_4.getD 10 0 = 1 from rfl, if_pos rfl, if_pos rfl, z0]
    rw [ed_two (al := L.h) (ac := L.w) (g := g) (by omega) (by omega) rfl hrn (by omega) (fun i h1 h2 => hyp' i (by omega) (by omega)) (by omega) (by omega)]
    rw [ed_two (al := L.h) (ac := L.w) (g := g) (by omega) (by omega) rfl hrn (by omega) (fun i h1 h2 => hyp' i (by omega) (by omega)) (by omega) (by omega)]
    rw [ed_stop (by omega) (Or.inr ⟨by omega, rfl⟩)]
    rw [neg_gap, nadd, nadd]
    try simp only [Nat.add_assoc, Nat.reduceAdd]
    rw [nmax (by omega) (by omega)]
    simp only [shW, shH]
    congr 2
    omega
