theorem m_waysNow {N : Nat} (hN : 802 < N) {L : Lv} {nt : Nat} {T : Nat → Tv} (hL : LOk L) (hT : TOk nt T) {g : Nat → Nat} {n : Nat} (hn24 : n ≤ 24) {τ0 : St} (nm : NM τ0 L) (tm : TM τ0 nt T) (h69 : τ0.1 1069 0 = nI n) (hg : ∀ i, i < n → g i < L.n ∧ τ0.1 44 i = nI (g i)) : ok (f_X12_waysNow N τ0) (fun c => c.1 = (if wy (fun t => spB L (T t) g) nt n n 0 ≤ 1000000000 then nI (wy (fun t => spB L (T t) g) nt n n 0) else -3) ∧ Fr [37, 50, 46] τ0 c.2) := by
  have h40 := hT.1
  unfold f_X12_waysNow
  obtain ⟨τ1, m1, sp, g1⟩ := m_makeSpells hN hL hT (g := g) hn24 nm tm h69 hg
  rw [m1, bo_some]
  have G1 : Fr [37, 50] τ0 τ1 := g1.toFr (fun a j h => by rcases h with h | h <;> (rw [h]; rfl))
  have k69 : τ1.1 1069 0 = nI n := by rw [G1.i 1069 rfl]; exact h69
  have k49 : τ1.1 1049 0 = nI nt := by rw [G1.i 1049 rfl]; exact tm.1
  rw [k69]
  -- all ends of one TERM
  have ends : ∀ (k t : Nat), k ≤ n → t < nt → ∀ (k9 : Int32 → St → Option (Int32 × St)) (k30 : Int32 → Int64 → Int32 → St → Option (Int32 × St)) (τ : St), (∀ i, n - k < i → i ≤ n → τ.1 46 i = nI (wy (fun t => spB L (T t) g) nt n (k - 1) i)) → Fr [46] τ1 τ → ∀ (kj fuel j A : Nat), n + 1 - j = kj → kj < fuel → n - k < j → j ≤ n + 1 → f_X12_waysNow_44 N k9 k30 fuel (nI (n - k)) (lN A) (nI t) (nI j) τ = k30 (nI (n - k)) (lN (A + sJ (spB L (T t) g (n - k)) (wy (fun t => spB L (T t) g) nt n (k - 1)) kj j)) (nI t + 1) τ := by
    intro k t hk ht k9 k30 τ hW f kj
    induction kj with
    | zero =>
      intro fuel j A hkj hf hij hj
      obtain ⟨fuel, rfl⟩ : ∃ f, fuel = f + 1 := ⟨fuel - 1, by omega⟩
      rw [f_X12_waysNow_44, f.i 1069 rfl, k69, if_pos (nI_lt (by omega) (by omega))]; rfl
    | succ kj ih =>
      intro fuel j A hkj hf hij hj
      obtain ⟨fuel, rfl⟩ : ∃ f, fuel = f + 1 := ⟨fuel - 1, by omega⟩
      have ei : 576 * nI t + 24 * nI (n - k) + nI j - 1 = nI (576 * t + 24 * (n - k) + j - 1) := by
        rw [show (576 : Int32) = nI 576 from rfl, show (24 : Int32) = nI 24 from rfl, nmul, nmul, nadd, nadd, show (1 : Int32) = nI 1 from rfl, nsub (by omega)]
      rw [f_X12_waysNow_44, f.i 1069 rfl, k69, if_neg (nI_nlt (by omega) (by omega)), ei, ib_n (by omega), decide_eq_true (show 576 * t + 24 * (n - k) + j - 1 < 23040 by omega), grd_true, ncl (by omega), f.i 50 rfl, sp t (n - k) j ht (by omega) hij (by omega), nI_1]
      unfold sJ
      have hle := wy_le (fun t => spB L (T t) g) nt n (k - 1) j
      cases hb : spB L (T t) g (n - k) j with
      | true =>
        rw [if_neg (show ¬ b2 true = 0 by decide), if_pos rfl, ib_n (by omega), decide_eq_true (show j < 25 by omega), grd_true, ncl (by omega), hW j hij (by omega), nI_l (by omega), lN_add, ih fuel (j + 1) _ (by omega) (by omega) (by omega) (by omega), Nat.add_assoc]
      | false =>
        rw [if_pos ((b2_0 false).mpr rfl), if_neg (by decide), ih fuel (j + 1) _ (by omega) (by omega) (by omega) (by omega), Nat.zero_add]
  -- all TERMS at one place
  have terms : ∀ (k : Nat), k ≤ n → ∀ (k9 : Int32 → St → Option (Int32 × St)) (Q : Int32 × St → Prop) (τ : St), (∀ i, n - k < i → i ≤ n → τ.1 46 i = nI (wy (fun t => spB L (T t) g) nt n (k - 1) i)) → Fr [46] τ1 τ → (∀ τ', (∀ i, n - k ≤ i → i ≤ n → τ'.1 46 i = nI (wy (fun t => spB L (T t) g) nt n k i)) → Fr [46] τ1 τ' → ok (k9 (nI (n - k) + (-1)) τ') Q) → ∀ (kt fuel t A : Nat), nt - t = kt → kt < fuel → t ≤ nt → A + sT (fun t => sJ (spB L (T t) g (n - k)) (wy (fun t => spB L (T t) g) nt n (k - 1)) k (n - k + 1)) kt t = (if k = 0 then 1 else 0) + sT (fun t => sJ (spB L (T t) g (n - k)) (wy (fun t => spB L (T t) g) nt n (k - 1)) k (n - k + 1)) nt 0 → ok (f_X12_waysNow_30 N k9 fuel (nI (n - k)) (lN A) (nI t) τ) Q := by
    intro k hk k9 Q τ hW f kk kt
    induction kt with
    | zero =>
      intro fuel t A hkt hf ht hA
      obtain ⟨fuel, rfl⟩ : ∃ f, fuel = f + 1 := ⟨fuel - 1, by omega⟩
      have hA' : A = (if k = 0 then 1 else 0) + sT (fun t => sJ (spB L (T t) g (n - k)) (wy (fun t => spB L (T t) g) nt n (k - 1)) k (n - k + 1)) nt 0 := hA
      have hbd0 : sT (fun t => sJ (spB L (T t) g (n - k)) (wy (fun t => spB L (T t) g) nt n (k - 1)) k (n - k + 1)) nt 0 ≤ nt * (k * 1000000001) :=
        sT_le nt 0 (fun i _ _ => sJ_le k (n - k + 1) (fun j _ _ => wy_le _ nt n (k - 1) j))
      have hbd2 : nt * (k * 1000000001) ≤ 40 * (24 * 1000000001) := Nat.mul_le_mul h40 (Nat.mul_le_mul_right _ (by omega))
      have hbd : A ≤ 1 + 40 * (24 * 1000000001) := by
        rw [hA']; split <;> omega
      -- what stands there then
      have hv : min A 1000000001 = wy (fun t => spB L (T t) g) nt n k (n - k) := by
        cases k with
        | zero =>
          have hz : ∀ kt t, sT (fun t => sJ (spB L (T t) g (n - 0)) (wy (fun t => spB L (T t) g) nt n (0 - 1)) 0 (n - 0 + 1)) kt t = 0 := by
            intro kt
            induction kt with
            | zero => intro t; rfl
            | succ kt ih => intro t; show 0 + _ = 0; rw [ih]
          rw [hA', hz, if_pos rfl]
          show 1 = (if n - 0 = n then 1 else 0)
          rw [if_pos (Nat.sub_zero n)]
        | succ k =>
          rw [wy_at, hA', if_neg (by omega), Nat.zero_add, Nat.add_sub_cancel, show n - (k + 1) + 1 = n - k by omega]
      rw [f_X12_waysNow_30, f.i 1049 rfl, k49, if_pos (nI_le (by omega) (by omega))]
      unfold f_X12_waysNow_121
      have fin : ok (grd (ib (nI (n - k)) 25) (k9 (nI (n - k) + (-1)) (si τ 46 (nI (n - k)).toNatClampNeg (nI (wy (fun t => spB L (T t) g) nt n k (n - k)))))) Q := by
        rw [ib_n (by omega), decide_eq_true (show n - k < 25 by omega), grd_true, ncl (by omega)]
        refine kk _ (fun i h1 h2 => ?_) (f.si _ _ _ rfl)
        rw [si_rd, if_pos rfl]
        by_cases ei : i = n - k
        · rw [if_pos ei, ei]
        · rw [if_neg ei, hW i (by omega) h2]
          cases k with
          | zero => omega
          | succ k => rw [wy_ne _ _ _ _ ei, Nat.add_sub_cancel]
      by_cases hc : A ≤ 1000000000
      · rw [if_pos (show lg_cmp (lN A) (1000000000 : Int64) ≤ 0 from (lcmp_le (b := 1000000000) (by omega) (by omega)).mpr hc), lN_i]
        rw [← hv, Nat.min_eq_left (by omega)] at fin
        exact fin
      · rw [if_neg (show ¬ lg_cmp (lN A) (1000000000 : Int64) ≤ 0 from fun q => hc ((lcmp_le (b := 1000000000) (by omega) (by omega)).mp q))]
        rw [← hv, Nat.min_eq_right (by omega)] at fin
        exact fin
    | succ kt ih =>
      intro fuel t A hkt hf ht hA
      obtain ⟨fuel, rfl⟩ : ∃ f, fuel = f + 1 := ⟨fuel - 1, by omega⟩
      rw [f_X12_waysNow_30, f.i 1049 rfl, k49, if_neg (nI_ge (by omega) (by omega)), nI_1, ends k t hk (by omega) k9 _ τ hW f k N (n - k + 1) A (by omega) (by omega) (by omega) (by omega), nI_1]
      refine ih fuel (t + 1) _ (by omega) (by omega) (by omega) ?_
      rw [← hA]
      show _ = A + (sJ (spB L (T t) g (n - k)) (wy (fun t => spB L (T t) g) nt n (k - 1)) k (n - k + 1) + sT _ kt (t + 1))
      rw [Nat.add_assoc]
  have places : ∀ (m fuel : Nat) (τ : St), m ≤ n + 1 → m < fuel → (∀ i, m ≤ i → i ≤ n → τ.1 46 i = nI (wy (fun t => spB L (T t) g) nt n (n - m) i)) → Fr [46] τ1 τ → ok (f_X12_waysNow_9 N fuel (nI m + (-1)) τ) (fun c => c.1 = (if wy (fun t => spB L (T t) g) nt n n 0 ≤ 1000000000 then nI (wy (fun t => spB L (T t) g) nt n n 0) else -3) ∧ Fr [37, 50, 46] τ0 c.2) := by
    intro m
    induction m with
    | zero =>
      intro fuel τ hm hf hW f
      obtain ⟨fuel, rfl⟩ : ∃ f, fuel = f + 1 := ⟨fuel - 1, by omega⟩
      have hw := hW 0 (by omega) (by omega)
      rw [Nat.sub_zero] at hw
      have hle := wy_le (fun t => spB L (T t) g) nt n n 0
      rw [f_X12_waysNow_9, if_pos (show nI 0 + (-1) < 0 by decide), show ib 0 25 = true from rfl, grd_true, hw]
      have FF : Fr [37, 50, 46] τ0 τ := (G1.wide rfl).trans (f.wide rfl)
      by_cases hc : wy (fun t => spB L (T t) g) nt n n 0 ≤ 1000000000
      · rw [if_pos (show nI _ ≤ (1000000000 : Int32) from nI_le (b := 1000000000) hc (by omega)), if_pos hc, grd_true, ok_some]
        exact ⟨rfl, FF⟩
      · rw [if_neg (show ¬ nI _ ≤ (1000000000 : Int32) from nI_ge (a := 1000000000) (by omega) (by omega)), if_neg hc, ok_some]
        exact ⟨rfl, FF⟩
    | succ m ih =>
      intro fuel τ hm hf hW f
      obtain ⟨fuel, rfl⟩ : ∃ f, fuel = f + 1 := ⟨fuel - 1, by omega⟩
      have e2 : nI (m + 1) + (-1) = nI m := by rw [← Int32.sub_eq_add_neg]; exact nsub (b := 1) (by omega)
      rw [e2, f_X12_waysNow_9, if_neg (nI_pos (by omega)), f.i 1069 rfl, k69]
      have go : ok (f_X12_waysNow_30 N (f_X12_waysNow_9 N fuel) N (nI (n - (n - m))) (lN (if n - m = 0 then 1 else 0)) (nI 0) τ) (fun c => c.1 = (if wy (fun t => spB L (T t) g) nt n n 0 ≤ 1000000000 then nI (wy (fun t => spB L (T t) g) nt n n 0) else -3) ∧ Fr [37, 50, 46] τ0 c.2) := by
        refine terms (n - m) (by omega) _ _ τ (fun i h1 h2 => ?_) f (fun τ' y1 y2 => ?_) nt N 0 _ (by omega) (by omega) (by omega) rfl
        · have := hW i (by omega) h2
          rw [show n - (m + 1) = n - m - 1 by omega] at this
          exact this
        · rw [show n - (n - m) = m by omega] at y1 ⊢
          exact ih fuel τ' (by omega) (by omega) y1 y2
      rw [show n - (n - m) = m by omega] at go
      by_cases hmn : m = n
      · rw [if_pos (by rw [hmn])]
        rw [if_pos (by omega)] at go
        exact go
      · rw [if_neg (fun q => hmn ((neq (by omega) (by omega)).mp q))]
        rw [if_neg (by omega)] at go
        exact go
  have e3 : nI n = nI (n + 1) + (-1) := by rw [← Int32.sub_eq_add_neg]; exact (nI_pred n).symm
  rw [e3]
  exact places (n + 1) N τ1 (Nat.le_refl _) (by omega) (fun i h1 h2 => by omega) (Fr.refl _ _)
theorem c_ways {N : Nat} (hN : 802 < N) {σ τ : St} {L : Lv} {nt : Nat} {T : Nat → Tv} (rl : RList σ τ L) (rT : RTerms σ τ nt T) (rr : RRow σ τ L.n) : ok (f_X11_ways N σ) (fun a => ok (f_X12_ways N τ) (fun c => a.1 = c.1 ∧ Fr (60 :: VS) σ a.2 ∧ Fr [34, 35, 36, 37, 50, 46] τ c.2)) := by
  obtain ⟨n, g, hn, h1, h2, hg⟩ := row_g rl.1.1 rr
  unfold f_X11_ways f_X12_ways
  rw [h1, h2]
  by_cases hn0 : n = 0
  · rw [hn0, if_pos (show nI 0 = (0 : Int32) from rfl), if_pos (show nI 0 = (0 : Int32) from rfl), ok_some, ok_some]
    exact ⟨rfl, Fr.refl _ _, Fr.refl _ _⟩
  have hne : ¬ nI n = (0 : Int32) := nI_ne0 (by omega) (by omega)
  rw [if_neg hne, if_neg hne]
  obtain ⟨⟨r1, σ1⟩, e1, q1, f1⟩ := x_countWays (o := 1) hN (Or.inl rfl) rl.1 rT.1 (g := g) hn (by omega) rl.2.1 rT.2.1 h1 (fun i hi => ⟨(hg i hi).1, (hg i hi).2.1⟩)
  obtain ⟨τ1, m1, nm, g1⟩ := m_asListed hN rl.1 rl.2.2
  obtain ⟨⟨r2, τ2⟩, m2, q2, g2⟩ := m_waysNow hN rl.1 rT.1 (g := g) hn nm (rT.2.2.fr g1 rfl) (by rw [g1.i 1069 rfl]; exact h2) (fun i hi => ⟨(hg i hi).1, by rw [g1.i 44 rfl]; exact (hg i hi).2.2⟩)
  rw [e1, bd_some, ok_some, m1, bo_some, m2, bd_some, ok_some]
  exact ⟨q1.trans q2.symm, f1, (g1.wide rfl).trans (g2.wide rfl)⟩
