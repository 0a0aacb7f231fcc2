/-! feed, filled, valueOn -/
theorem byte_eq (x : Int32) {k : Nat} (hk : k ≤ 24) : (ushr x (nI k)).toInt8 = (x >>> (nI k &&& 31)).toInt8 := by
  have a1 : (ushr x (nI k)).toBitVec = x.toBitVec >>> k := by
    apply BitVec.eq_of_toNat_eq
    unfold ushr
    rw [pk_ushr x (nI k) k (nushr_c k (by omega)), BitVec.toNat_ushiftRight, Nat.shiftRight_eq_div_pow]
  have a2 : (x >>> (nI k &&& 31)).toBitVec = x.toBitVec.sshiftRight k := by
    rw [Int32.toBitVec_shiftRight]
    show x.toBitVec.sshiftRight ((nI k &&& 31).toBitVec.smod 32).toNat = _
    rw [nshl_c k (by omega)]
  apply Int8.toBitVec_inj.1
  rw [Int32.toBitVec_toInt8, Int32.toBitVec_toInt8, a1, a2]
  apply BitVec.eq_of_getLsbD_eq
  intro i hi
  rw [BitVec.getLsbD_signExtend, BitVec.getLsbD_signExtend, if_pos (show i < 32 by omega), if_pos (show i < 32 by omega), BitVec.getLsbD_ushiftRight, BitVec.getLsbD_sshiftRight, if_pos (show k + i < 32 by omega), decide_eq_false (show ¬ 32 ≤ i by omega)]
  rfl
def RTn (m : Nat) (σ τ : St) : Prop := σ.1 4801 0 = nI m ∧ τ.1 1001 0 = nI m ∧ ∀ j, j < m → σ.1 20 j = τ.1 1 j ∧ (τ.1 1 j).toInt8.toInt32 = τ.1 1 j
theorem put_1 {m k : Nat} {v : Int32} {σ τ : St} (h : RTn m σ τ) (hm : m < 800) (hk : k ≤ 24) (N : Nat) : ∃ σ' τ', (∀ n, f_X8_put_3 N (n + 1) v (nI k) σ = f_X8_put_3 N n v (nI k + (-8)) σ') ∧ (∀ n k19 x1 x2 x3 x4 x5 x6, f_X12_feed_73 N k19 (n + 1) x1 x2 x3 x4 x5 x6 v (nI k) τ = f_X12_feed_73 N k19 n x1 x2 x3 x4 x5 x6 v (nI k + (-8)) τ') ∧ RTn (m + 1) σ' τ' ∧ Fr [4801, 20] σ σ' ∧ Fr [1001, 1] τ τ' := by
  obtain ⟨h1, h2, h3⟩ := h
  refine ⟨si (si σ 20 m ((ushr v (nI k)).toInt8.toInt32.toInt8.toInt32)) 4801 0 (nI (m + 1)), si (si τ 1 m ((v >>> (nI k &&& 31)).toInt8.toInt32.toInt8.toInt32)) 1001 0 (nI (m + 1)), fun n => ?_, fun n k19 x1 x2 x3 x4 x5 x6 => ?_, ⟨?_, ?_, fun j hj => ?_⟩, ((Fr.refl _ _).si _ _ _ rfl).si _ _ _ rfl, ((Fr.refl _ _).si _ _ _ rfl).si _ _ _ rfl⟩
  · rw [f_X8_put_3, if_neg (nI_pos (by omega)), h1, if_neg (show ¬ (800 : Int32) ≤ nI m from nI_ge (b := 800) hm (by omega)), ib_n (by omega), decide_eq_true hm, grd_true, ncl (by omega), nI_1]
  · rw [f_X12_feed_73, if_neg (nI_pos (by omega)), h2, ib_n (by omega), decide_eq_true hm, grd_true, ncl (by omega), nI_1]
  · simp only [si_rd, reduceIte]
  · simp only [si_rd, reduceIte]
  · simp only [si_rd, reduceIte, Nat.reduceEqDiff]
    by_cases e : j = m
    · simp only [if_pos e]
      rw [byte_eq v hk, Int8.toInt8_toInt32, Int8.toInt8_toInt32]
      exact ⟨rfl, rfl⟩
    · simp only [if_neg e]; exact h3 j (by omega)
theorem put_4 {m : Nat} {v : Int32} {σ τ : St} (h : RTn m σ τ) (hm : m + 4 ≤ 800) {N : Nat} (hN : 802 < N) : ∃ σ' τ', f_X8_put N v σ = some σ' ∧ (∀ k19 x1 x2 x3 x4 x5 x6, f_X12_feed_73 N k19 N x1 x2 x3 x4 x5 x6 v 24 τ = k19 x1 x2 x3 x4 x5 (x6 + 1) τ') ∧ RTn (m + 4) σ' τ' ∧ Fr [4801, 20] σ σ' ∧ Fr [1001, 1] τ τ' := by
  obtain ⟨σ1, τ1, a1, b1, c1, d1, e1⟩ := put_1 (v := v) (k := 24) h (by omega) (by omega) N
  obtain ⟨σ2, τ2, a2, b2, c2, d2, e2⟩ := put_1 (v := v) (k := 16) c1 (by omega) (by omega) N
  obtain ⟨σ3, τ3, a3, b3, c3, d3, e3⟩ := put_1 (v := v) (k := 8) c2 (by omega) (by omega) N
  obtain ⟨σ4, τ4, a4, b4, c4, d4, e4⟩ := put_1 (v := v) (k := 0) c3 (by omega) (by omega) N
  have t1 : nI 24 + (-8) = nI 16 := by decide
  have t2 : nI 16 + (-8) = nI 8 := by decide
  have t3 : nI 8 + (-8) = nI 0 := by decide
  obtain ⟨M, rfl⟩ : ∃ f, N = f + 5 := ⟨N - 5, by omega⟩
  refine ⟨σ4, τ4, ?_, fun k19 x1 x2 x3 x4 x5 x6 => ?_, c4, ((d1.trans d2).trans d3).trans d4, ((e1.trans e2).trans e3).trans e4⟩
  · unfold f_X8_put
    have q1 := a1 (M + 4)
    have q2 := a2 (M + 3)
    have q3 := a3 (M + 2)
    have q4 := a4 (M + 1)
    rw [t1] at q1; rw [t2] at q2; rw [t3] at q3
    refine q1.trans (q2.trans (q3.trans (q4.trans ?_)))
    rw [f_X8_put_3, if_pos (by decide)]
  · have q1 := b1 (M + 4) k19 x1 x2 x3 x4 x5 x6
    have q2 := b2 (M + 3) k19 x1 x2 x3 x4 x5 x6
    have q3 := b3 (M + 2) k19 x1 x2 x3 x4 x5 x6
    have q4 := b4 (M + 1) k19 x1 x2 x3 x4 x5 x6
    rw [t1] at q1; rw [t2] at q2; rw [t3] at q3
    refine q1.trans (q2.trans (q3.trans (q4.trans ?_)))
    rw [f_X12_feed_73, if_pos (by decide)]
theorem c_feed {N : Nat} (hN : 802 < N) {σ τ : St} (h : RTape σ τ) (x1 x2 x3 x4 x5 : Int32) : ok (f_X11_feed N x1 x2 x3 x4 x5 σ) (fun a => ok (f_X12_feed N x1 x2 x3 x4 x5 τ) (fun c => a.1 = c.1 ∧ RTape a.2 c.2 ∧ Fr [4801, 20] σ a.2 ∧ Fr [1001, 1] τ c.2)) := by
  obtain ⟨m, h1, h2, h3, h4⟩ := h
  have r0 : RTn m σ τ := ⟨h2, h3, h4⟩
  unfold f_X11_feed f_X12_feed
  rw [h2, h3, show (20 : Int32) = nI 20 from rfl, nadd]
  by_cases e : m + 20 ≤ 800
  · rw [if_pos (show nI (m + 20) ≤ (800 : Int32) from nI_le (b := 800) e (by omega)), if_pos (show nI (m + 20) ≤ (800 : Int32) from nI_le (b := 800) e (by omega))]
    obtain ⟨σ1, τ1, a1, b1, c1, d1, e1⟩ := put_4 (v := x1) r0 (by omega) hN
    obtain ⟨σ2, τ2, a2, b2, c2, d2, e2⟩ := put_4 (v := x2) c1 (by omega) hN
    obtain ⟨σ3, τ3, a3, b3, c3, d3, e3⟩ := put_4 (v := x3) c2 (by omega) hN
    obtain ⟨σ4, τ4, a4, b4, c4, d4, e4⟩ := put_4 (v := x4) c3 (by omega) hN
    obtain ⟨σ5, τ5, a5, b5, c5, d5, e5⟩ := put_4 (v := x5) c4 (by omega) hN
    rw [a1, bo_some, a2, bo_some, a3, bo_some, a4, bo_some, a5, bo_some, ok_some]
    obtain ⟨M, hMd⟩ : ∃ f, N = f + 6 := ⟨N - 6, by omega⟩
    have s0 : f_X12_feed_19 N N x1 x2 x3 x4 x5 0 τ = f_X12_feed_19 N (M + 5) x1 x2 x3 x4 x5 (0 + 1) τ1 := by
      conv => lhs; arg 2; rw [hMd]
      rw [f_X12_feed_19, if_neg (by decide), if_pos rfl, b1]
    have s1 : f_X12_feed_19 N (M + 5) x1 x2 x3 x4 x5 (0 + 1) τ1 = f_X12_feed_19 N (M + 4) x1 x2 x3 x4 x5 (0 + 1 + 1) τ2 := by
      rw [f_X12_feed_19, if_neg (by decide), if_neg (by decide), if_pos (by decide), b2]
    have s2 : f_X12_feed_19 N (M + 4) x1 x2 x3 x4 x5 (0 + 1 + 1) τ2 = f_X12_feed_19 N (M + 3) x1 x2 x3 x4 x5 (0 + 1 + 1 + 1) τ3 := by
      rw [f_X12_feed_19, if_neg (by decide), if_neg (by decide), if_neg (by decide), if_pos (by decide), b3]
    have s3 : f_X12_feed_19 N (M + 3) x1 x2 x3 x4 x5 (0 + 1 + 1 + 1) τ3 = f_X12_feed_19 N (M + 2) x1 x2 x3 x4 x5 (0 + 1 + 1 + 1 + 1) τ4 := by
      rw [f_X12_feed_19, if_neg (by decide), if_neg (by decide), if_neg (by decide), if_neg (by decide), if_pos (by decide), b4]
    have s4 : f_X12_feed_19 N (M + 2) x1 x2 x3 x4 x5 (0 + 1 + 1 + 1 + 1) τ4 = f_X12_feed_19 N (M + 1) x1 x2 x3 x4 x5 (0 + 1 + 1 + 1 + 1 + 1) τ5 := by
      rw [f_X12_feed_19, if_neg (by decide), if_neg (by decide), if_neg (by decide), if_neg (by decide), if_neg (by decide), b5]
    rw [s0, s1, s2, s3, s4, f_X12_feed_19, if_pos (by decide), ok_some]
    refine ⟨c5.1.trans c5.2.1.symm, ⟨m + 4 + 4 + 4 + 4 + 4, by omega, c5.1, c5.2.1, c5.2.2⟩, ((((d1.trans d2).trans d3).trans d4).trans d5), ((((e1.trans e2).trans e3).trans e4).trans e5)⟩
  · rw [if_neg (show ¬ nI (m + 20) ≤ (800 : Int32) from nI_ge (a := 800) (by omega) (by omega)), if_neg (show ¬ nI (m + 20) ≤ (800 : Int32) from nI_ge (a := 800) (by omega) (by omega)), ok_some, ok_some]
    exact ⟨rfl, ⟨m, h1, h2, h3, h4⟩, Fr.refl _ _, Fr.refl _ _⟩
/-! VALUES -/
theorem val_at {N : Nat} (hN : 802 < N) {σ τ : St} {ns : Nat} (h : RVals σ τ ns) (x1 x2 x3 : Int32) : ∃ r, f_X10_latestFor N x1 x2 x3 σ = some r ∧ f_X12_valueAt N x1 x2 x3 τ = some r ∧ (r = -1 ∨ ∃ v n, σ.1 15600 0 = nI n ∧ v < n ∧ n ≤ 60 ∧ r = nI v) := by
  obtain ⟨n, d, h1, h2, h3, h4, h5, h6, h7⟩ := h
  unfold f_X10_latestFor f_X12_valueAt
  have key : ∀ (k fx fm i : Nat) (b : Int32), n - i = k → k < fx → k < fm → i ≤ n → (b = -1 ∨ ∃ v, v < n ∧ b = nI v) → ∃ r, f_X10_latestFor_6 N fx x1 x2 x3 b (nI i) σ = some r ∧ f_X12_valueAt_6 N fm x1 x2 x3 b (nI i) τ = some r ∧ (r = -1 ∨ ∃ v, v < n ∧ r = nI v) := by
    intro k
    induction k with
    | zero =>
      intro fx fm i b hk hx hm hi hb
      obtain ⟨fx, rfl⟩ : ∃ f, fx = f + 1 := ⟨fx - 1, by omega⟩
      obtain ⟨fm, rfl⟩ : ∃ f, fm = f + 1 := ⟨fm - 1, by omega⟩
      rw [f_X10_latestFor_6, f_X12_valueAt_6, h3, h4, if_pos (nI_le (by omega) (by omega)), if_pos (nI_le (by omega) (by omega))]
      exact ⟨b, rfl, rfl, hb⟩
    | succ k ih =>
      intro fx fm i b hk hx hm hi hb
      obtain ⟨fx, rfl⟩ : ∃ f, fx = f + 1 := ⟨fx - 1, by omega⟩
      obtain ⟨fm, rfl⟩ : ∃ f, fm = f + 1 := ⟨fm - 1, by omega⟩
      obtain ⟨z1, z2, z3, _⟩ := h7 i (by omega)
      have keep := ih fx fm (i + 1) b (by omega) (by omega) (by omega) (by omega) hb
      have take := ih fx fm (i + 1) (nI i) (by omega) (by omega) (by omega) (by omega) (Or.inr ⟨i, by omega, rfl⟩)
      rw [f_X10_latestFor_6, f_X12_valueAt_6, h3, h4, if_neg (nI_ge (by omega) (by omega)), if_neg (nI_ge (by omega) (by omega)), ib_n (by omega), decide_eq_true (show i < 60 by omega), ncl (by omega), z1, z2, z3]
      unfold f_X10_latestFor_53
      rw [ib_n (by omega), decide_eq_true (show i < 60 by omega), ncl (by omega)]
      simp only [grd_true, nI_1, z2]
      by_cases e1 : τ.1 65 i = x1
      · rw [if_pos e1, if_pos e1]
        by_cases e2 : x3 < τ.1 67 i
        · rw [if_pos e2, if_pos e2, if_pos trivial]; exact keep
        · rw [if_neg e2, if_neg e2]
          by_cases e3 : x2 < τ.1 66 i
          · rw [if_pos e3, if_pos e3, if_pos trivial]; exact keep
          · rw [if_neg e3, if_neg e3, if_neg one_ne]
            rcases hb with hb | ⟨v, hv, hb⟩
            · rw [if_pos (show b < 0 by rw [hb]; decide), if_pos hb]; exact take
            · rw [hb, if_neg (nI_pos (by omega)), if_neg (nneg v (by omega)), ib_n (by omega), decide_eq_true (show v < 60 by omega), ncl (by omega), grd_true, grd_true, (h7 v hv).2.1]
              rw [hb] at keep
              by_cases e4 : τ.1 66 i < τ.1 66 v
              · rw [if_pos e4, if_pos e4]; exact keep
              · rw [if_neg e4, if_neg e4]; exact take
      · rw [if_neg e1, if_neg e1, if_pos trivial]; exact keep
  obtain ⟨r, r1, r2, r3⟩ := key n N N 0 (-1) rfl (by omega) (by omega) (by omega) (Or.inl rfl)
  refine ⟨r, r1, r2, ?_⟩
  rcases r3 with r3 | ⟨v, v1, v2⟩
  · exact Or.inl r3
  · exact Or.inr ⟨v, n, h3, v1, h1, v2⟩
theorem c_valueOn {N : Nat} (hN : 802 < N) {σ τ : St} {L : Lv} (rl : RList σ τ L) (rv : RVals σ τ L.n) (x1 x2 x3 x4 : Int32) : ∃ r, f_X11_valueOn N x1 x2 x3 x4 σ = some r ∧ f_X12_valueOn N x1 x2 x3 x4 τ = some r := by
  obtain ⟨r, r1, r2, r3⟩ := val_at hN rv x1 x2 x3
  obtain ⟨hL, hx, hm⟩ := rl
  have h40 : L.n ≤ 40 := hL.1
  have e1 : σ.1 1200 0 = nI L.n := hx.1
  have e2 : τ.1 3 0 = nI L.n := hm.1
  unfold f_X11_valueOn f_X12_valueOn f_X6_has
  simp only [Nat.reduceMul, Nat.reduceAdd]
  rw [e1, e2, show ib 0 2 = true from rfl, grd_true, m_in]
  rcases ix (x := x1) (n := L.n) (by omega) with ⟨q, hy⟩ | ⟨s, hs, rfl, k1, k2, k3, k4⟩
  · rw [i00 hy, if_pos rfl]
    rcases q with q | q
    · rw [if_pos q, if_pos rfl]; exact ⟨_, rfl, rfl⟩
    · by_cases q0 : x1 < 0
      · rw [if_pos q0, if_pos rfl]; exact ⟨_, rfl, rfl⟩
      · rw [if_neg q0, if_pos q, if_pos rfl]; exact ⟨_, rfl, rfl⟩
  rw [if_neg k1, if_neg k2, if_neg one_ne, i10 k4, if_neg one_ne]
  obtain ⟨dq, dc⟩ := day_eq x2 σ τ
  rw [dq, bo_some]
  rcases dc with ⟨d0, _⟩ | ⟨d1, _⟩
  · rw [d0, if_pos rfl, if_pos rfl]; exact ⟨_, rfl, rfl⟩
  rw [d1, if_neg one_ne, if_neg one_ne]
  obtain ⟨dq3, dc3⟩ := day_eq x3 σ τ
  rw [dq3, bo_some]
  rcases dc3 with ⟨d0, _⟩ | ⟨d1, _⟩
  · rw [d0, if_pos rfl, if_pos rfl]; exact ⟨_, rfl, rfl⟩
  rw [d1, if_neg one_ne, if_neg one_ne, r1, bo_some, r2, bo_some]
  unfold f_X11_valueOn_67 f_X11_valueOn_96 f_X12_valueOn_64
  rcases r3 with rfl | ⟨v, n, hn, hv, hn60, rfl⟩
  · rw [if_neg (by decide), if_neg (by decide), if_pos rfl, if_pos rfl, ib_n (a := s) (by omega), decide_eq_true (show s < 40 by omega), ib_n (a := s) (by omega), decide_eq_true (show s < 80 by omega), ncl (a := s) (by omega)]
    simp only [grd_true]
    obtain ⟨a1, a2, a3, a4, a5, a6, a7⟩ := hx.2.1 s hs
    simp only [Nat.reduceMul, Nat.reduceAdd, Nat.reduceSub] at a1 a2 a3 a4 a5 a6 a7
    obtain ⟨b1, b2, b3, b4, b5, b6, b7⟩ := hm.2.1 s hs
    have hc := LOk_c hL hs
    rw [a5, a6, b5, n9m]
    by_cases w0 : x4 = 0
    · rw [if_pos w0, if_pos w0]; exact ⟨_, rfl, rfl⟩
    rw [if_neg w0, if_neg w0]
    rcases snd_of (m := L.c s) (by omega) (LOk_d hL hs) x4 (-1) σ τ with ⟨c1, c2⟩ | ⟨i, hi, rfl, c1, c2⟩
    · rw [c1, c2, if_pos rfl]; exact ⟨_, rfl, rfl⟩
    · have ea : 3 * nI s + nI (10 + i) - 10 = nI (3 * s + i) := by
        rw [show (3 : Int32) = nI 3 from rfl, nmul, nadd, show (10 : Int32) = nI 10 from rfl, nsub (by omega)]
        congr 1; omega
      rw [c1, c2, if_neg one_ne, ea, ib_n (by omega), decide_eq_true (by omega), grd_true, ncl (by omega), b6 i hi]
      exact ⟨_, rfl, rfl⟩
  · obtain ⟨n', d, h1, h2, h3, h4, h5, h6, h7⟩ := rv
    have hnn : n' = n := (neq (by omega) (by omega)).mp (h3.symm.trans hn)
    subst hnn
    obtain ⟨z1, z2, z3, mm, ff, z4, z5, z6, z7, z8, z9⟩ := h7 v hv
    rw [if_pos (nI_pos' (by omega)), if_pos (nI_pos' (by omega)), if_neg (nneg v (by omega)), if_neg (nneg v (by omega)), ib_n (a := v) (by omega), decide_eq_true (show v < 60 by omega), ncl (a := v) (by omega), z7, z8, z9, n9m]
    simp only [grd_true]
    by_cases w0 : x4 = 0
    · rw [if_pos w0, if_pos w0]; exact ⟨_, rfl, rfl⟩
    rw [if_neg w0, if_neg w0]
    rcases snd_of (m := mm) (by omega) (fun j hj => (z6 j hj).1) x4 (-1) σ τ with ⟨c1, c2⟩ | ⟨i, hi, rfl, c1, c2⟩
    · rw [c1, c2, if_pos rfl]; exact ⟨_, rfl, rfl⟩
    · have ea : 3 * nI v + nI (10 + i) - 10 = nI (3 * v + i) := by
        rw [show (3 : Int32) = nI 3 from rfl, nmul, nadd, show (10 : Int32) = nI 10 from rfl, nsub (by omega)]
        congr 1; omega
      rw [c1, c2, if_neg one_ne, ea, ib_n (by omega), decide_eq_true (by omega), grd_true, ncl (by omega), (z6 i hi).2]
      exact ⟨_, rfl, rfl⟩
