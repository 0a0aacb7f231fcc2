/-! waysOn -/
def LUp (L : Lv) (s m : Nat) (f : Nat → Nat) : Lv := (L.n, L.w, L.h, up L.k s 1, up L.c s m, up L.d s f, L.nm, L.mn, L.gap, L.sq, L.lst, L.ech)
theorem LUp_ok {L : Lv} (hL : LOk L) {s m : Nat} {f : Nat → Nat} (h1 : 1 ≤ m) (h2 : m ≤ 3) (h3 : ∀ i, i < m → f i < 16) : LOk (LUp L s m f) := by
  obtain ⟨a1, a2, a3⟩ := hL
  refine ⟨a1, fun r hr => ?_, a3⟩
  obtain ⟨b1, b2, b3, b4, b5, b6⟩ := a2 r hr
  show (1 ≤ L.w r ∧ L.w r ≤ 60) ∧ (1 ≤ L.h r ∧ L.h r ≤ 60) ∧ up L.k s 1 r ≤ 3 ∧ (up L.k s 1 r = 1 → 1 ≤ up L.c s m r ∧ up L.c s m r ≤ 3) ∧ (up L.k s 1 r ≠ 1 → up L.c s m r = 0) ∧ ∀ i, i < up L.c s m r → up L.d s f r i < 16
  by_cases e : r = s
  · rw [e, up_is, up_is, up_is]
    exact ⟨by rw [← e]; exact b1, by rw [← e]; exact b2, by omega, fun _ => ⟨h1, h2⟩, fun q => absurd rfl q, h3⟩
  · rw [up_ne _ _ e, up_ne _ _ e, up_ne _ _ e]
    exact ⟨b1, b2, b3, b4, b5, b6⟩
theorem LUp_X {σ : St} {L : Lv} (h : LX 2 σ L) {s m : Nat} {f : Nat → Nat} (hs : s < L.n) (h40 : L.n ≤ 40) : ok (f_X6_putSounds 2 (nI s) (nI (sp f m)) (nI m) σ) (fun σ' => LX 2 σ' (LUp L s m f) ∧ Fr [14, 15, 16] σ σ') := by
  unfold f_X6_putSounds
  simp only [Nat.reduceMul, Nat.reduceAdd, Nat.reduceSub]
  rw [ib_n (by omega), decide_eq_true (show s < 40 by omega), ncl (by omega)]
  simp only [grd_true]
  rw [ok_some]
  have f1 : Fr [14, 15, 16] σ (si (si (si σ 14 s 1) 16 s (nI (sp f m))) 15 s (nI m)) := (((Fr.refl _ _).si _ _ _ rfl).si _ _ _ rfl).si _ _ _ rfl
  obtain ⟨b1, b2, b3, b4, b5, b6⟩ := h
  simp only [Nat.reduceMul, Nat.reduceAdd, Nat.reduceSub] at b1 b2 b3 b4 b5 b6
  refine ⟨⟨?_, fun r hr => ?_, ?_, ?_, ?_, ?_⟩, f1⟩
  · show (si (si (si σ 14 s 1) 16 s (nI (sp f m))) 15 s (nI m)).1 1400 0 = nI L.n
    rw [f1.i 1400 rfl]; exact b1
  · show (si (si (si σ 14 s 1) 16 s (nI (sp f m))) 15 s (nI m)).2 11 r = L.nm r ∧ (si (si (si σ 14 s 1) 16 s (nI (sp f m))) 15 s (nI m)).1 12 r = nI (L.w r) ∧ (si (si (si σ 14 s 1) 16 s (nI (sp f m))) 15 s (nI m)).1 13 r = nI (L.h r) ∧ (si (si (si σ 14 s 1) 16 s (nI (sp f m))) 15 s (nI m)).1 14 r = nI (up L.k s 1 r) ∧ (si (si (si σ 14 s 1) 16 s (nI (sp f m))) 15 s (nI m)).1 15 r = nI (up L.c s m r) ∧ (si (si (si σ 14 s 1) 16 s (nI (sp f m))) 15 s (nI m)).1 16 r = nI (sp (up L.d s f r) (up L.c s m r)) ∧ (si (si (si σ 14 s 1) 16 s (nI (sp f m))) 15 s (nI m)).2 17 r = L.mn r
    obtain ⟨c1, c2, c3, c4, c5, c6, c7⟩ := b2 r hr
    rw [f1.l 11 rfl, f1.i 12 rfl, f1.i 13 rfl, f1.l 17 rfl]
    simp only [si_rd, reduceIte, Nat.reduceEqDiff]
    by_cases e : r = s
    · subst e
      simp only [up_is, reduceIte]
      exact ⟨c1, c2, c3, rfl, trivial, trivial, c7⟩
    · simp only [up_ne _ _ e, if_neg e]
      exact ⟨c1, c2, c3, c4, c5, c6, c7⟩
  · show (si (si (si σ 14 s 1) 16 s (nI (sp f m))) 15 s (nI m)).1 18 0 = nI L.gap
    rw [f1.i 18 rfl]; exact b3
  · show (si (si (si σ 14 s 1) 16 s (nI (sp f m))) 15 s (nI m)).1 18 1 = nI L.sq
    rw [f1.i 18 rfl]; exact b4
  · show (si (si (si σ 14 s 1) 16 s (nI (sp f m))) 15 s (nI m)).1 18 2 = nI L.lst
    rw [f1.i 18 rfl]; exact b5
  · show (si (si (si σ 14 s 1) 16 s (nI (sp f m))) 15 s (nI m)).1 18 3 = nI L.ech
    rw [f1.i 18 rfl]; exact b6
theorem m_on84 {N s v : Nat} {x1 x2 : Int32} {k33 : Int32 → Int32 → Int32 → St → Option (Int32 × St)} {Q : Int32 × St → Prop} (hs : s < 40) (hv : v < 60) : ∀ (k fuel i : Nat) (τ1 : St), 3 - i = k → k < fuel → i ≤ 3 → (∀ τ', (∀ j, j < i → τ'.1 36 (3 * s + j) = τ1.1 36 (3 * s + j)) → (∀ j, i ≤ j → j < 3 → τ'.1 36 (3 * s + j) = τ1.1 69 (3 * v + j)) → FrP (fun a j => a = 36 ∧ 3 * s ≤ j ∧ j < 3 * s + 3) τ1 τ' → ok (k33 x1 x2 (nI (s + 1)) τ') Q) → ok (f_X12_waysOn_84 N k33 fuel x1 x2 (nI s) (nI v) (nI i) τ1) Q := by
  intro k
  induction k with
  | zero =>
    intro fuel i τ1 hk hf hi kk
    obtain ⟨fuel, rfl⟩ : ∃ f, fuel = f + 1 := ⟨fuel - 1, by omega⟩
    rw [f_X12_waysOn_84, if_pos (show (3 : Int32) ≤ nI i from nI_le (a := 3) (by omega) (by omega)), nI_1]
    exact kk τ1 (fun j hj => rfl) (fun j h1 h2 => by omega) (FrP.refl _ _)
  | succ k ih =>
    intro fuel i τ1 hk hf hi kk
    obtain ⟨fuel, rfl⟩ : ∃ f, fuel = f + 1 := ⟨fuel - 1, by omega⟩
    have ea : 3 * nI s + nI i = nI (3 * s + i) := by rw [show (3 : Int32) = nI 3 from rfl, nmul, nadd]
    have eb : 3 * nI v + nI i = nI (3 * v + i) := by rw [show (3 : Int32) = nI 3 from rfl, nmul, nadd]
    rw [f_X12_waysOn_84, if_neg (show ¬ (3 : Int32) ≤ nI i from nI_ge (b := 3) (by omega) (by omega)), ea, eb, ib_n (by omega), decide_eq_true (show 3 * v + i < 180 by omega), ib_n (by omega), decide_eq_true (show 3 * s + i < 120 by omega), grd_true, grd_true, ncl (by omega), ncl (by omega), nI_1]
    have f1 : FrP (fun a j => a = 36 ∧ 3 * s ≤ j ∧ j < 3 * s + 3) τ1 (si τ1 36 (3 * s + i) (τ1.1 69 (3 * v + i))) := (FrP.refl _ _).si _ _ _ ⟨rfl, by omega, by omega⟩
    refine ih fuel (i + 1) _ (by omega) (by omega) (by omega) (fun τ' y1 y2 y3 => kk τ' (fun j hj => ?_) (fun j h1 h2 => ?_) (f1.trans y3))
    · rw [y1 j (by omega), si_rd, if_pos rfl, if_neg (by omega)]
    · by_cases e : j = i
      · rw [e, y1 i (by omega), si_rd, if_pos rfl, if_pos rfl]
      · rw [y2 j (by omega) h2, (f1 69 (3 * v + j) (by simp)).1]
theorem on_loop {N : Nat} (hN : 802 < N) {σ0 τ0 : St} {ns nt n : Nat} {T : Nat → Tv} (hT : TOk nt T) {g : Nat → Nat} (hns : ns ≤ 40) (hn24 : n ≤ 24) (rv : RVals σ0 τ0 ns) (tm : TM τ0 nt T) (h69 : τ0.1 1069 0 = nI n) (h3 : τ0.1 3 0 = nI ns) (hg : ∀ i, i < n → g i < ns ∧ τ0.1 44 i = nI (g i)) (x1 x2 : Int32) : ∀ (k fx fm s : Nat) (σ τ : St) (L : Lv), ns - s = k → k < fx → k < fm → s ≤ ns → L.n = ns → LOk L → LX 2 σ L → NM τ L → Fr [14, 15, 16] σ0 σ → Fr [34, 35, 36] τ0 τ →
    ok (f_X10_applyTo_3 2 N fx x1 x2 (nI s) σ) (fun σ' => ok (f_X12_waysOn_33 N fm x1 x2 (nI s) τ) (fun c => ∃ L', LOk L' ∧ L'.n = ns ∧ LX 2 σ' L' ∧ Fr [14, 15, 16] σ0 σ' ∧ c.1 = (if wy (fun t => spB L' (T t) g) nt n n 0 ≤ 1000000000 then nI (wy (fun t => spB L' (T t) g) nt n n 0) else -3) ∧ Fr [34, 35, 36, 37, 50, 46] τ0 c.2)) := by
  intro k
  induction k with
  | zero =>
    intro fx fm s σ τ L hk hfx hfm hs hLn hL lx nm fs ft
    obtain ⟨fx, rfl⟩ : ∃ f, fx = f + 1 := ⟨fx - 1, by omega⟩
    obtain ⟨fm, rfl⟩ : ∃ f, fm = f + 1 := ⟨fm - 1, by omega⟩
    have e1 : σ.1 (1000 + 200 * 2 + 0) 0 = nI L.n := lx.1
    rw [f_X10_applyTo_3, f_X12_waysOn_33, e1, hLn, show ib 0 2 = true from rfl, grd_true, ft.i 3 rfl, h3, if_pos (nI_le (by omega) (by omega)), if_pos (nI_le (by omega) (by omega)), ok_some]
    obtain ⟨⟨r2, τ2⟩, m2, q2, g2⟩ := m_waysNow hN hL hT (g := g) hn24 nm (tm.fr ft rfl) (by rw [ft.i 1069 rfl]; exact h69) (fun i hi => ⟨by rw [hLn]; exact (hg i hi).1, by rw [ft.i 44 rfl]; exact (hg i hi).2⟩)
    rw [m2, bd_some, ok_some]
    exact ⟨L, hL, hLn, lx, fs, q2, (ft.wide rfl).trans (g2.wide rfl)⟩
  | succ k ih =>
    intro fx fm s σ τ L hk hfx hfm hs hLn hL lx nm fs ft
    obtain ⟨fx, rfl⟩ : ∃ f, fx = f + 1 := ⟨fx - 1, by omega⟩
    obtain ⟨fm, rfl⟩ : ∃ f, fm = f + 1 := ⟨fm - 1, by omega⟩
    have e1 : σ.1 (1000 + 200 * 2 + 0) 0 = nI L.n := lx.1
    have rv1 : RVals σ τ ns := rv.fr fs ft rfl rfl
    obtain ⟨r, r1, r2, r3⟩ := val_at hN rv1 (nI s) x1 x2
    rw [f_X10_applyTo_3, f_X12_waysOn_33, e1, hLn, show ib 0 2 = true from rfl, grd_true, ft.i 3 rfl, h3, if_neg (nI_ge (by omega) (by omega)), if_neg (nI_ge (by omega) (by omega)), r1, bo_some, r2, bo_some]
    rcases r3 with rfl | ⟨v, nv, hnv, hv, hn60, rfl⟩
    · rw [if_pos (by decide), if_pos rfl, nI_1]
      exact ih fx fm (s + 1) σ τ L (by omega) (by omega) (by omega) (by omega) hLn hL lx nm fs ft
    · obtain ⟨n', d, h1, h2, h3', h4, h5, h6, h7⟩ := rv1
      have hnn : n' = nv := (neq (by omega) (by omega)).mp (h3'.symm.trans hnv)
      subst hnn
      obtain ⟨z1, z2, z3, mm, ff, z4, z5, z6, z7, z8, z9⟩ := h7 v hv
      rw [if_neg (nI_pos (by omega)), if_neg (nneg v (by omega)), ib_n (a := v) (by omega), decide_eq_true (show v < 60 by omega), ib_n (a := s) (by omega), decide_eq_true (show s < 40 by omega), ncl (a := v) (by omega), ncl (a := s) (by omega), z7, z8, z9]
      simp only [grd_true]
      obtain ⟨σ1, e2, lx1, f1⟩ := LUp_X (s := s) (m := mm) (f := ff) lx (by omega) (by omega)
      rw [e2, bo_some, nI_1, ← nI_0]
      have f2 : Fr [34, 35] τ (si (si τ 34 s 1) 35 s (nI mm)) := ((Fr.refl _ _).si _ _ _ rfl).si _ _ _ rfl
      have r34 : ∀ j, (si (si τ 34 s 1) 35 s (nI mm)).1 34 j = if j = s then 1 else τ.1 34 j := fun j => by simp only [si_rd, reduceIte, Nat.reduceEqDiff]
      have r35 : ∀ j, (si (si τ 34 s 1) 35 s (nI mm)).1 35 j = if j = s then nI mm else τ.1 35 j := fun j => by simp only [si_rd, reduceIte, Nat.reduceEqDiff]
      generalize si (si τ 34 s 1) 35 s (nI mm) = τ2 at *
      have main : ok (f_X12_waysOn_84 N (f_X12_waysOn_33 N fm) N x1 x2 (nI s) (nI v) (nI 0) τ2) (fun c => ok (f_X10_applyTo_3 2 N fx x1 x2 (nI (s + 1)) σ1) (fun σ' => ∃ L', LOk L' ∧ L'.n = ns ∧ LX 2 σ' L' ∧ Fr [14, 15, 16] σ0 σ' ∧ c.1 = (if wy (fun t => spB L' (T t) g) nt n n 0 ≤ 1000000000 then nI (wy (fun t => spB L' (T t) g) nt n n 0) else -3) ∧ Fr [34, 35, 36, 37, 50, 46] τ0 c.2)) := by
        refine m_on84 (by omega) (by omega) 3 N 0 τ2 rfl (by omega) (by omega) (fun τ3 _ y2 y3 => ?_)
        have nm3 : NM τ3 (LUp L s mm ff) := by
          refine ⟨fun r hr => ?_, ?_⟩
          · show τ3.1 34 r = nI (up L.k s 1 r) ∧ τ3.1 35 r = nI (up L.c s mm r) ∧ (∀ i, i < up L.c s mm r → τ3.1 36 (3 * r + i) = nI (up L.d s ff r i)) ∧ τ3.2 10 r = L.mn r
            rw [(y3 34 r (by simp)).1, (y3 35 r (by simp)).1, (y3 10 r (by simp)).2, r34, r35, f2.l 10 rfl]
            obtain ⟨w1, w2, w3, w4⟩ := nm.1 r hr
            by_cases e : r = s
            · subst e
              rw [if_pos rfl, if_pos rfl, up_is, up_is, up_is]
              refine ⟨rfl, rfl, fun i hi => ?_, w4⟩
              rw [y2 i (by omega) (by omega), f2.i 69 rfl]; exact (z6 i hi).2
            · rw [if_neg e, if_neg e, up_ne _ _ e, up_ne _ _ e, up_ne _ _ e]
              refine ⟨w1, w2, fun i hi => ?_, w4⟩
              have hc3 := LOk_c hL hr
              rw [(y3 36 (3 * r + i) (by simp; omega)).1, f2.i 36 rfl]; exact w3 i hi
          · show τ3.1 2 3 = nI L.ech
            rw [(y3 2 3 (by simp)).1, f2.i 2 rfl]; exact nm.2
        obtain ⟨σ', ea, c, ec, hh⟩ := ih fx fm (s + 1) σ1 τ3 (LUp L s mm ff) (by omega) (by omega) (by omega) (by omega) hLn (LUp_ok hL z4 z5 (fun i hi => (z6 i hi).1)) lx1 nm3 (fs.trans f1) ((ft.trans (f2.wide rfl)).trans (y3.toFr (fun a j h => by rw [h.1]; rfl)))
        rw [ec, ok_some, ea, ok_some]
        exact hh
      obtain ⟨c, ec, σ', ea, hh⟩ := main
      rw [ea, ok_some, ec, ok_some]
      exact hh
theorem c_waysOn {N : Nat} (hN : 802 < N) {σ τ : St} {L : Lv} {nt : Nat} {T : Nat → Tv} (rl : RList σ τ L) (rT : RTerms σ τ nt T) (rr : RRow σ τ L.n) (rv : RVals σ τ L.n) (x1 x2 : Int32) : ok (f_X11_waysOn N x1 x2 σ) (fun a => ok (f_X12_waysOn N x1 x2 τ) (fun c => a.1 = c.1 ∧ Fr [60, 8601, 8602, 8603, 8604, 8605, 8606, 1400, 11, 12, 13, 14, 15, 16, 17, 18] σ a.2 ∧ Fr [34, 35, 36, 37, 50, 46] τ c.2)) := by
  obtain ⟨n, g, hn, h1, h2, hg⟩ := row_g rl.1.1 rr
  unfold f_X11_waysOn f_X12_waysOn
  have same : ∀ r : Int32, ok (some (r, σ)) (fun a => ok (some (r, τ)) (fun c => a.1 = c.1 ∧ Fr [60, 8601, 8602, 8603, 8604, 8605, 8606, 1400, 11, 12, 13, 14, 15, 16, 17, 18] σ a.2 ∧ Fr [34, 35, 36, 37, 50, 46] τ c.2)) := by
    intro r; rw [ok_some, ok_some]; exact ⟨rfl, Fr.refl _ _, Fr.refl _ _⟩
  obtain ⟨dq, dc⟩ := day_eq x1 σ τ
  rw [dq, bo_some]
  rcases dc with ⟨d0, _⟩ | ⟨d1, _⟩
  · rw [d0, if_pos rfl, if_pos rfl]; exact same _
  rw [d1, if_neg one_ne, if_neg one_ne]
  obtain ⟨dq3, dc3⟩ := day_eq x2 σ τ
  rw [dq3, bo_some]
  rcases dc3 with ⟨d0, _⟩ | ⟨d1, _⟩
  · rw [d0, if_pos rfl, if_pos rfl]; exact same _
  rw [d1, if_neg one_ne, if_neg one_ne, h1, h2]
  by_cases hn0 : n = 0
  · rw [hn0, if_pos (show nI 0 = (0 : Int32) from rfl), if_pos (show nI 0 = (0 : Int32) from rfl)]; exact same _
  have hne : ¬ nI n = (0 : Int32) := nI_ne0 (by omega) (by omega)
  rw [if_neg hne, if_neg hne]
  obtain ⟨σ1, e1, lx1, f1⟩ := x_become21 rl.1.1 rl.2.1
  obtain ⟨τ1, m1, nm, g1⟩ := m_asListed hN rl.1 rl.2.2
  rw [e1, bo_some, m1, bo_some]
  unfold f_X10_applyTo
  have rv1 : RVals σ1 τ1 L.n := rv.fr f1 g1 rfl rfl
  have h40L := rl.1.1
  obtain ⟨σ2, e2, c, m2, L', hL', hLn, lx2, f2, hc, g2⟩ := on_loop (n := n) (g := g) hN rT.1 rl.1.1 hn rv1 (rT.2.2.fr g1 rfl) (by rw [g1.i 1069 rfl]; exact h2) (by rw [g1.i 3 rfl]; exact rl.2.2.1) (fun i hi => ⟨(hg i hi).1, by rw [g1.i 44 rfl]; exact (hg i hi).2.2⟩) x1 x2 L.n N N 0 σ1 τ1 L rfl (by omega) (by omega) (by omega) rfl rl.1 lx1 nm (Fr.refl _ _) (Fr.refl _ _)
  have e2' : f_X10_applyTo_3 2 N N x1 x2 0 σ1 = some σ2 := e2
  have m2' : f_X12_waysOn_33 N N x1 x2 0 τ1 = some c := m2
  rw [e2', bo_some, m2']
  have F2 : Fr [1400, 11, 12, 13, 14, 15, 16, 17, 18] σ σ2 := f1.trans (f2.wide rfl)
  obtain ⟨⟨r3, σ3⟩, e3, q3, f3⟩ := x_countWays (o := 2) hN (Or.inr rfl) hL' rT.1 (g := g) hn (by omega) lx2 (rT.2.1.fr F2 rfl) (by rw [F2.i 12404 rfl]; exact h1) (fun i hi => ⟨by rw [hLn]; exact (hg i hi).1, by rw [F2.i 58 rfl]; exact (hg i hi).2.1⟩)
  rw [e3, bd_some, ok_some, ok_some]
  exact ⟨q3.trans hc.symm, (F2.wide rfl).trans (f3.wide rfl), (g1.wide rfl).trans g2⟩
