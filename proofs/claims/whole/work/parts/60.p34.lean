/-! spells, judge -/
theorem nsbit {a k : Nat} (ha : a < 2147483648) (hk : k < 32) : (nI a >>> (nI k &&& 31)) &&& nI 1 = nI (if a.testBit k then 1 else 0) := by
  rw [pk_shrN ha (nI k &&& 31) k (nshl_c k hk), nand, Nat.and_one_is_mod]
  congr 1
  rw [Nat.testBit_eq_decide_div_mod_eq]
  by_cases h : a / 2 ^ k % 2 = 1
  · simp [h]
  · simp [h]; omega
theorem m_asListed {N : Nat} (hN : 802 < N) {τ : St} {L : Lv} (hL : LOk L) (h : LM τ L) : ok (f_X12_asListed N τ) (fun τ' => NM τ' L ∧ Fr [34, 35, 36] τ τ') := by
  unfold f_X12_asListed
  have h40 := hL.1
  have inner : ∀ (s : Nat) (k2 : Int32 → St → Option St) (Q : St → Prop), s < 40 → ∀ (k fuel i : Nat) (τ1 : St), 3 - i = k → k < fuel → i ≤ 3 → (∀ τ', (∀ j, j < i → τ'.1 36 (3 * s + j) = τ1.1 36 (3 * s + j)) → (∀ j, i ≤ j → j < 3 → τ'.1 36 (3 * s + j) = τ1.1 9 (3 * s + j)) → FrP (fun a j => a = 36 ∧ 3 * s ≤ j ∧ j < 3 * s + 3) τ1 τ' → ok (k2 (nI (s + 1)) τ') Q) → ok (f_X12_asListed_38 N k2 fuel (nI s) (nI i) τ1) Q := by
    intro s k2 Q hs k
    induction k with
    | zero =>
      intro fuel i τ1 hk hf hi kk
      obtain ⟨fuel, rfl⟩ : ∃ f, fuel = f + 1 := ⟨fuel - 1, by omega⟩
      rw [f_X12_asListed_38, if_pos (show (3 : Int32) ≤ nI i from nI_le (a := 3) (by omega) (by omega)), nI_1]
      exact kk τ1 (fun j hj => rfl) (fun j h1 h2 => by omega) (FrP.refl _ _)
    | succ k ih =>
      intro fuel i τ1 hk hf hi kk
      obtain ⟨fuel, rfl⟩ : ∃ f, fuel = f + 1 := ⟨fuel - 1, by omega⟩
      have ea : 3 * nI s + nI i = nI (3 * s + i) := by rw [show (3 : Int32) = nI 3 from rfl, nmul, nadd]
      rw [f_X12_asListed_38, if_neg (show ¬ (3 : Int32) ≤ nI i from nI_ge (b := 3) (by omega) (by omega)), ea, ib_n (by omega), decide_eq_true (show 3 * s + i < 240 by omega), ib_n (by omega), decide_eq_true (show 3 * s + i < 120 by omega), grd_true, grd_true, ncl (by omega), nI_1]
      have f1 : FrP (fun a j => a = 36 ∧ 3 * s ≤ j ∧ j < 3 * s + 3) τ1 (si τ1 36 (3 * s + i) (τ1.1 9 (3 * s + i))) := (FrP.refl _ _).si _ _ _ ⟨rfl, by omega, by omega⟩
      refine ih fuel (i + 1) _ (by omega) (by omega) (by omega) (fun τ' y1 y2 y3 => kk τ' (fun j hj => ?_) (fun j h1 h2 => ?_) (f1.trans y3))
      · rw [y1 j (by omega), si_rd, if_pos rfl, if_neg (by omega)]
      · by_cases e : j = i
        · rw [e, y1 i (by omega), si_rd, if_pos rfl, if_pos rfl]
        · rw [y2 j (by omega) h2, (f1 9 (3 * s + j) (by simp)).1]
  have outer : ∀ (k fuel s : Nat) (τ1 : St), L.n - s = k → k < fuel → s ≤ L.n → (∀ r, r < s → τ1.1 34 r = nI (L.k r) ∧ τ1.1 35 r = nI (L.c r) ∧ (∀ i, i < L.c r → τ1.1 36 (3 * r + i) = nI (L.d r i))) → Fr [34, 35, 36] τ τ1 → ok (f_X12_asListed_2 N fuel (nI s) τ1) (fun τ' => NM τ' L ∧ Fr [34, 35, 36] τ τ') := by
    intro k
    induction k with
    | zero =>
      intro fuel s τ1 hk hf hs hd f
      obtain ⟨fuel, rfl⟩ : ∃ f, fuel = f + 1 := ⟨fuel - 1, by omega⟩
      rw [f_X12_asListed_2, show ib 0 2 = true from rfl, grd_true, f.i 3 rfl, h.1, if_pos (nI_le (by omega) (by omega)), ok_some]
      refine ⟨⟨fun r hr => ?_, ?_⟩, f⟩
      · obtain ⟨q1, q2, q3⟩ := hd r (by omega)
        exact ⟨q1, q2, q3, by rw [f.l 10 rfl]; exact (h.2.1 r hr).2.2.2.2.2.2⟩
      · rw [f.i 2 rfl]; exact h.2.2.2.2.2
    | succ k ih =>
      intro fuel s τ1 hk hf hs hd f
      obtain ⟨fuel, rfl⟩ : ∃ f, fuel = f + 1 := ⟨fuel - 1, by omega⟩
      obtain ⟨b1, b2, b3, b4, b5, b6, b7⟩ := h.2.1 s (by omega)
      rw [f_X12_asListed_2, show ib 0 2 = true from rfl, grd_true, f.i 3 rfl, h.1, if_neg (nI_ge (by omega) (by omega)), ib_n (by omega), decide_eq_true (show s < 80 by omega), ib_n (by omega), decide_eq_true (show s < 40 by omega), ncl (by omega)]
      simp only [grd_true]
      rw [f.i 7 rfl, f.i 8 rfl, b4, b5, ← nI_0]
      have f2 : Fr [34, 35] τ1 (si (si τ1 34 s (nI (L.k s))) 35 s (nI (L.c s))) := ((Fr.refl _ _).si _ _ _ rfl).si _ _ _ rfl
      have r34 : ∀ j, (si (si τ1 34 s (nI (L.k s))) 35 s (nI (L.c s))).1 34 j = if j = s then nI (L.k s) else τ1.1 34 j := fun j => by simp only [si_rd, reduceIte, Nat.reduceEqDiff]
      have r35 : ∀ j, (si (si τ1 34 s (nI (L.k s))) 35 s (nI (L.c s))).1 35 j = if j = s then nI (L.c s) else τ1.1 35 j := fun j => by simp only [si_rd, reduceIte, Nat.reduceEqDiff]
      generalize si (si τ1 34 s (nI (L.k s))) 35 s (nI (L.c s)) = τ2 at *
      refine inner s _ _ (by omega) 3 N 0 τ2 rfl (by omega) (by omega) (fun τ3 _ y2 y3 => ih fuel (s + 1) τ3 (by omega) (by omega) (by omega) (fun r hr => ?_) ?_)
      · rw [(y3 34 r (by simp)).1, (y3 35 r (by simp)).1, r34, r35]
        by_cases er : r = s
        · subst er
          rw [if_pos rfl, if_pos rfl]
          refine ⟨rfl, rfl, fun i hi => ?_⟩
          have hc3 := LOk_c hL (show r < L.n by omega)
          rw [y2 i (by omega) (by omega), f2.i 9 rfl, f.i 9 rfl]; exact b6 i hi
        · rw [if_neg er, if_neg er]
          obtain ⟨q1, q2, q3⟩ := hd r (by omega)
          refine ⟨q1, q2, fun i hi => ?_⟩
          have hc3 := LOk_c hL (show r < L.n by omega)
          rw [(y3 36 (3 * r + i) (by simp; omega)).1, f2.i 36 rfl]; exact q3 i hi
      · exact (f.trans (f2.wide rfl)).trans (y3.toFr (fun a j h => by rw [h.1]; rfl))
  exact outer L.n N 0 τ rfl (by omega) (by omega) (fun r hr => by omega) (Fr.refl _ _)
theorem TM_t {τ : St} {nt t : Nat} {T : Nat → Tv} (h : TM τ nt T) (h40 : nt ≤ 40) (ht : t < nt) : TMt τ t (T t) := by
  obtain ⟨a1, a2, a3, a4⟩ := h.2 t ht
  exact ⟨by omega, a1, a2, a3, a4⟩
theorem TOk_t {nt t : Nat} {T : Nat → Tv} (h : TOk nt T) (ht : t < nt) : TvOk (T t) := h.2 t ht
theorem TM.fr {τ τ' : St} {nt : Nat} {T : Nat → Tv} {V : List Nat} (h : TM τ nt T) (f : Fr V τ τ') (hv : ([1049, 30, 31, 32, 33] : List Nat).all (fun a => !V.contains a) = true) : TM τ' nt T := by
  have q := f.at hv
  unfold TM at h ⊢
  rw [(q 1049 (by decide)).1, (q 30 (by decide)).2, (q 31 (by decide)).1, (q 32 (by decide)).1, (q 33 (by decide)).2]
  exact h
theorem TX.fr {τ τ' : St} {nt : Nat} {T : Nat → Tv} {V : List Nat} (h : TX τ nt T) (f : Fr V τ τ') (hv : ([7600, 34, 35, 36, 37] : List Nat).all (fun a => !V.contains a) = true) : TX τ' nt T := by
  have q := f.at hv
  unfold TX at h ⊢
  rw [(q 7600 (by decide)).1, (q 34 (by decide)).2, (q 35 (by decide)).1, (q 36 (by decide)).1, (q 37 (by decide)).2]
  exact h
/-- the row that is WRITTEN, as numbers -/
theorem row_g {σ τ : St} {ns : Nat} (hns : ns ≤ 40) (h : RRow σ τ ns) : ∃ (n : Nat) (g : Nat → Nat), n ≤ 24 ∧ σ.1 12404 0 = nI n ∧ τ.1 1069 0 = nI n ∧ (∀ i, i < n → g i < ns ∧ σ.1 58 i = nI (g i) ∧ τ.1 44 i = nI (g i)) := by
  obtain ⟨n, h1, h2, h3, h4⟩ := h
  refine ⟨n, fun i => (τ.1 44 i).toNatClampNeg, h1, h2, h3, fun i hi => ?_⟩
  obtain ⟨a, s, b, c⟩ := h4 i hi
  show (τ.1 44 i).toNatClampNeg < ns ∧ σ.1 58 i = nI (τ.1 44 i).toNatClampNeg ∧ τ.1 44 i = nI (τ.1 44 i).toNatClampNeg
  rw [a, c, ncl (by omega)]; exact ⟨b, rfl, rfl⟩
theorem c_spells {N : Nat} (hN : 802 < N) {σ τ : St} {L : Lv} {nt : Nat} {T : Nat → Tv} (rl : RList σ τ L) (rT : RTerms σ τ nt T) (rr : RRow σ τ L.n) (x : Int32) : ok (f_X11_spells N x σ) (fun a => ok (f_X12_spells N x τ) (fun c => a.1 = c.1 ∧ Fr VS σ a.2 ∧ Fr [34, 35, 36, 37] τ c.2)) := by
  obtain ⟨n, g, hn, h1, h2, hg⟩ := row_g rl.1.1 rr
  have hL := rl.1
  have h40 : nt ≤ 40 := rT.1.1
  have e1 : σ.1 7600 0 = nI nt := rT.2.1.1
  have e2 : τ.1 1049 0 = nI nt := rT.2.2.1
  unfold f_X11_spells f_X12_spells f_X9_has f_X12_isTerm
  rw [e1, e2, m_in]
  have same : ∀ r : Int32, ok (some (r, σ)) (fun a => ok (some (r, τ)) (fun c => a.1 = c.1 ∧ Fr VS σ a.2 ∧ Fr [34, 35, 36, 37] τ c.2)) := by
    intro r; rw [ok_some, ok_some]; exact ⟨rfl, Fr.refl _ _, Fr.refl _ _⟩
  rcases ix (x := x) (n := nt) (by omega) with ⟨q, hy⟩ | ⟨t, ht, rfl, k1, k2, k3, k4⟩
  · rw [i00 hy, show zbb 0 = true from rfl, grd_true, bo_some, if_pos rfl]
    rcases q with q | q
    · rw [if_pos q, if_pos rfl]; exact same _
    · by_cases q0 : x < 0
      · rw [if_pos q0, if_pos rfl]; exact same _
      · rw [if_neg q0, if_pos q, if_pos rfl]; exact same _
  rw [if_neg k1, if_neg k2, if_neg one_ne, i10 k4, show zbb 1 = true from rfl, grd_true, bo_some, if_neg one_ne, h1, h2]
  by_cases hn0 : n = 0
  · rw [hn0, if_pos (show nI 0 = (0 : Int32) from rfl), if_pos (show nI 0 = (0 : Int32) from rfl)]; exact same _
  have hne : ¬ nI n = (0 : Int32) := nI_ne0 (by omega) (by omega)
  rw [if_neg hne, if_neg hne]
  have hT := TOk_t rT.1 ht
  unfold f_X5_isSpellingOf
  obtain ⟨σ1, l1, sx, f1⟩ := x_look (Or.inl rfl) rl.2.1 rT.2.1 h40 ht
  rw [l1, bo_some, f1.i 12404 rfl, h1]
  have hrow : RowX σ1 58 L.n n g := fun i hi => ⟨(hg i hi).1, by rw [f1.i 58 rfl]; exact (hg i hi).2.1⟩
  obtain ⟨E, e3, hE, hb⟩ := x_endsFrom (r := 58) (rn := 24) hN sx hL hT hn hn (by omega) hrow (a := 0) (by omega)
  have e3' : f_X7_endsFrom 58 24 N (nI n) 0 σ1 = some (nI E) := e3
  rw [e3', bo_some, show (1 : Int32) = nI 1 from rfl, nbit (by omega) (by omega)]
  obtain ⟨τ1, m1, nm, g1⟩ := m_asListed hN hL rl.2.2
  rw [m1, bo_some, g1.i 1069 rfl, h2]
  obtain ⟨⟨r2, τ2⟩, m2, hr2, g2⟩ := m_isSpelling (r := 44) (rn := 24) (t := t) (T := T t) hN (by omega) hL hT (g := g) (a := 0) (b := n) (by omega) (by omega) (by omega) nm (TM_t (rT.2.2.fr g1 rfl) h40 ht) (fun i _ hi => ⟨(hg i hi).1, by rw [g1.i 44 rfl]; exact (hg i hi).2.2⟩)
  have m2' : f_X12_isSpelling 44 24 N 0 (nI n) (nI t) τ1 = some (r2, τ2) := m2
  rw [m2', bd_some]
  have hr2 : r2 = b2 (spB L (T t) g 0 n) := hr2
  have G2 : Fr [34, 35, 36, 37] τ τ2 := (g1.wide rfl).trans (g2.toFr (fun a j h => by rw [show a = 37 from h]; rfl))
  have hbn := hb n
  cases hs : spB L (T t) g 0 n with
  | true =>
    have : E.testBit n = true := hbn.mpr ⟨by omega, by omega, hs⟩
    rw [this, if_pos rfl, if_pos rfl, bd_some, if_neg (show ¬ nI 1 = (0 : Int32) by decide), ok_some, hr2, hs, if_neg (show ¬ b2 true = 0 by decide), ok_some]
    exact ⟨rfl, f1, G2⟩
  | false =>
    have : ¬ E.testBit n = true := fun q => by have := (hbn.mp q).2.2; rw [hs] at this; cases this
    rw [if_neg this, if_neg (show ¬ nI 0 = nI 1 by decide), bd_some, if_pos rfl, ok_some, hr2, hs, if_pos ((b2_0 false).mpr rfl), ok_some]
    exact ⟨rfl, f1, G2⟩
