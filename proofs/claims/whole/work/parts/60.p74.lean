/-! spellings, the class -/
theorem x_countAll_9 {N : Nat} (hN : 802 < N) {L : Lv} (hL : LOk L) {T : Tv} (hT : TvOk T) {σ : St} (sx : SPX σ 1 L T) : ∀ (k fuel s : Nat), L.n - s = k → k < fuel → s ≤ L.n → ok (f_X7_countAll_9 N fuel (nI (cnt (idB L T) s)) (nI (cnt (tlB L T) s)) (nI (cnt (kdB L T) s)) (nI s) σ) (fun a => a.1 = nI (min 100001 (sps L T).length) ∧ Fr [39] σ a.2) := by
  have h40 := hL.1
  intro k
  induction k with
  | zero =>
    intro fuel s hk hf hs
    obtain ⟨fuel, rfl⟩ : ∃ f, fuel = f + 1 := ⟨fuel - 1, by omega⟩
    have e : s = L.n := by omega
    subst e
    rw [f_X7_countAll_9, sx.2.1, sgb_n (Or.inl rfl), grd_true, ncl (by omega), sx.2.2.1.1, if_pos (nI_le (by omega) (by omega))]
    unfold f_X7_forgetCovers
    obtain ⟨σ1, e1, z1, f1⟩ := x_fill (r0 := 39) (rn0 := 384) (N := N) (x := -1) (σ := σ) (by omega) (by omega)
    rw [e1, bo_some, bo_some]
    have cb := x_cb (N := N) hN hL hT 20 0 1 0 0 σ1 Rch_1 (Nat.le_refl _) (by omega) (SPX_fr sx f1 rfl) (fun S hS R hR => Or.inl (z1 _ (by omega)))
    have cb' : ok (f_X7_coversBehind N 20 1 0 0 σ1) (PCB L T 1 0 σ1) := cb
    refine ok_bd_of cb' (fun v σ2 ⟨y1, y2, y3⟩ => ?_)
    have y1' : v = nI (min 100001 (cv L T 1 0).length) := y1
    have b1 := cnt_le (idB L T) L.n
    have b2' := cnt_le (tlB L T) L.n
    have b3 := cnt_le (kdB L T) L.n
    have bb : cnt (idB L T) L.n * (1 + cnt (tlB L T) L.n) ≤ 40 * 41 := Nat.mul_le_mul (by omega) (by omega)
    rw [x_hasKind (SPX_fr (SPX_fr sx f1 rfl) y3 rfl), y1', show (1 : Int32) + nI (cnt (tlB L T) L.n) = nI (1 + cnt (tlB L T) L.n) by rw [show (1 : Int32) = nI 1 from rfl, nadd], nmul, nadd]
    unfold f_X7_countAll_113
    by_cases hk0 : T.kd = 0
    · rw [if_pos (by rw [decide_eq_false (show ¬ T.kd ≠ 0 from fun h => h hk0)]; rfl), ok_some, show (1 : Int32) = nI 1 from rfl, show (100001 : Int32) = nI 100001 from rfl, nmul, nmin (by omega) (by omega)]
      refine ⟨?_, f1.trans y3⟩
      rw [sps_len, if_pos hk0]
      show nI _ = nI _
      congr 1
      omega
    · rw [if_neg (by rw [decide_eq_true (show T.kd ≠ 0 from hk0)]; decide), ok_some, show (100001 : Int32) = nI 100001 from rfl, nmul]
      have bm : (cnt (idB L T) L.n * (1 + cnt (tlB L T) L.n) + min 100001 (cv L T 1 0).length) * cnt (kdB L T) L.n ≤ 101641 * 40 := Nat.mul_le_mul (by omega) (by omega)
      rw [nmin (by omega) (by omega)]
      refine ⟨?_, f1.trans y3⟩
      rw [sps_len, if_neg hk0]
      show nI _ = nI _
      congr 1
      by_cases q0 : cnt (kdB L T) L.n = 0
      · rw [q0, Nat.mul_zero, Nat.mul_zero]
      · by_cases q1 : (cv L T 1 0).length ≤ 100001
        · rw [Nat.min_eq_right q1]
        · have m1 : 100001 * 1 ≤ (cnt (idB L T) L.n * (1 + cnt (tlB L T) L.n) + min 100001 (cv L T 1 0).length) * cnt (kdB L T) L.n := Nat.mul_le_mul (by omega) (by omega)
          have m2 : 100001 * 1 ≤ (cnt (idB L T) L.n * (1 + cnt (tlB L T) L.n) + (cv L T 1 0).length) * cnt (kdB L T) L.n := Nat.mul_le_mul (by omega) (by omega)
          rw [Nat.min_eq_left (by omega), Nat.min_eq_left (by omega)]
  | succ k ih =>
    intro fuel s hk hf hs
    obtain ⟨fuel, rfl⟩ : ∃ f, fuel = f + 1 := ⟨fuel - 1, by omega⟩
    have hs' : s < L.n := by omega
    have nx := ih fuel (s + 1) (by omega) (by omega) (by omega)
    rw [cnt_succ, cnt_succ, cnt_succ] at nx
    rw [f_X7_countAll_9, sx.2.1, sgb_n (Or.inl rfl), grd_true, ncl (by omega), sx.2.2.1.1, if_neg (nI_ge (by omega) (by omega)), x_isIdea sx hL hs', bo_some]
    unfold f_X7_countAll_36 f_X7_countAll_53
    rw [x_isTail sx hL hT hs', bo_some, bo_some, x_isOfKind sx hL hs', bo_some, bo_some, nI_1]
    have z : ∀ a, nI a + (0 : Int32) = nI (a + 0) := fun a => by rw [show (0 : Int32) = nI 0 from rfl, nadd]
    cases h1 : idB L T s <;> cases h2 : tlB L T s <;> cases h3 : kdB L T s <;>
      (rw [h1, h2, h3] at nx
       simp only [b2, reduceIte, one_ne, Bool.false_eq_true] at nx ⊢
       simp only [z, nI_1]
       exact nx)
abbrev VSpX : List Nat := [47, 8601, 8602, 8603, 8604, 8605, 8606, 39, 48]
theorem x_spellingsOf {N : Nat} (hN : 802 < N) {σ : St} {L : Lv} (hL : LOk L) {nt t : Nat} {T : Nat → Tv} (hT : TOk nt T) (hx : LX 1 σ L) (tx : TX σ nt T) (rc : RCache σ L nt T) (ht : t < nt) : ok (f_X2_spellingsOf N (nI t) σ) (fun a => a.1 = nI (min 100001 (sps L (T t)).length) ∧ RCache a.2 L nt T ∧ Fr VSpX σ a.2) := by
  have h40 := hT.1
  obtain ⟨K, k1, k2, k3, k4, k5, k6⟩ := rc t (by omega)
  have tv : TvOk (T t) := hT.2 t ht
  have nw := x_isNew (b := 0) (show t < 40 by omega) k1 (by omega) k2
  unfold f_X2_spellingsOf f_X2_spellingsOf_34
  rw [show (1 : Int32) = nI (2 ^ 0) from rfl, nw, bd_some, ib_n (a := t) (by omega), decide_eq_true (show t < 40 by omega), ncl (a := t) (by omega)]
  simp only [grd_true]
  have f0 : Fr [47] σ (si σ 47 t (nI (K ||| 2 ^ 0))) := (Fr.refl _ _).si _ _ _ rfl
  cases hb : K.testBit 0 with
  | true =>
    rw [if_pos (show b2 (!true) = 0 from rfl), ok_some]
    have e0 : K ||| 2 ^ 0 = K := by
      apply Nat.eq_of_testBit_eq
      intro i
      rw [Nat.testBit_or, Nat.testBit_two_pow]
      by_cases e : 0 = i
      · subst e; rw [hb]; rfl
      · rw [decide_eq_false e, Bool.or_false]
    have same : ∀ j, (si σ 47 t (nI (K ||| 2 ^ 0))).1 47 j = σ.1 47 j := fun j => by
      rw [si_rd, if_pos rfl, e0]
      by_cases e : j = t
      · rw [if_pos e, e, k2]
      · rw [if_neg e]
    refine ⟨by show (si σ 47 t (nI (K ||| 2 ^ 0))).1 48 t = _; rw [f0.i 48 rfl]; exact k4 hb, fun t' h' => ?_, f0.wide rfl⟩
    obtain ⟨K', a1, a2, a3, a4, a5, a6⟩ := rc t' h'
    exact ⟨K', a1, by rw [same]; exact a2, a3, fun b => (a4 b).eq (by rw [f0.i 48 rfl]), fun b => (a5 b).eq (by rw [f0.i 49 rfl]) (by rw [f0.l 50 rfl]), fun b => (a6 b).eq (fun b _ => ⟨by rw [f0.i 51 rfl], by rw [f0.l 52 rfl]⟩)⟩
  | false =>
    rw [if_neg (show ¬ b2 (!false) = 0 by decide)]
    refine ok_bo_of (x_look (Or.inl rfl) (LX_fr (Or.inl rfl) hx f0 rfl) (tx.fr f0 rfl) h40 ht) (fun σ1 ⟨sx, f1⟩ => ?_)
    unfold f_X7_countAll
    refine ok_bd_of (x_countAll_9 (N := N) hN hL tv sx L.n N 0 (by omega) (by have := hL.1; omega) (by omega)) (fun v σ2 ⟨y1, y2⟩ => ?_)
    have y1' : v = nI (min 100001 (sps L (T t)).length) := y1
    rw [ok_some, y1']
    have FF : Fr [8601, 8602, 8603, 8604, 8605, 8606, 39] (si σ 47 t (nI (K ||| 2 ^ 0))) σ2 := (f1.wide rfl).trans (y2.wide rfl)
    have f3 : Fr [48] σ2 (si σ2 48 t (nI (min 100001 (sps L (T t)).length))) := (Fr.refl _ _).si _ _ _ rfl
    have r48 : ∀ j, (si σ2 48 t (nI (min 100001 (sps L (T t)).length))).1 48 j = if j = t then nI (min 100001 (sps L (T t)).length) else σ2.1 48 j := fun j => by rw [si_rd, if_pos rfl]
    generalize si σ2 48 t (nI (min 100001 (sps L (T t)).length)) = σ3 at *
    have F3 : Fr [8601, 8602, 8603, 8604, 8605, 8606, 39, 48] (si σ 47 t (nI (K ||| 2 ^ 0))) σ3 := (FF.wide rfl).trans (f3.wide rfl)
    refine ⟨by show σ3.1 48 t = _; rw [r48, if_pos rfl], fun t' h' => ?_, (f0.wide rfl).trans (F3.wide rfl)⟩
    by_cases e : t' = t
    · subst e
      have b8 := bit8 K k1 0 (by omega)
      refine ⟨K ||| 2 ^ 0, b8.1, ?_, fun h => absurd h (by omega), fun _ => ?_, fun b => ?_, fun b => ?_⟩
      · rw [F3.i 47 rfl, si_rd, if_pos rfl, if_pos rfl]
      · show σ3.1 48 t' = _; rw [r48, if_pos rfl]
      · exact (k5 (b8.2 1 (by omega) b (by omega))).eq (by rw [F3.i 49 rfl, f0.i 49 rfl]) (by rw [F3.l 50 rfl, f0.l 50 rfl])
      · exact (k6 (b8.2 2 (by omega) b (by omega))).eq (fun b _ => ⟨by rw [F3.i 51 rfl, f0.i 51 rfl], by rw [F3.l 52 rfl, f0.l 52 rfl]⟩)
    · obtain ⟨K', a1, a2, a3, a4, a5, a6⟩ := rc t' h'
      refine ⟨K', a1, ?_, a3, fun b => ?_, fun b => ?_, fun b => ?_⟩
      · rw [F3.i 47 rfl, si_rd, if_pos rfl, if_neg e]; exact a2
      · exact (a4 b).eq (by rw [r48, if_neg e, FF.i 48 rfl, f0.i 48 rfl])
      · exact (a5 b).eq (by rw [F3.i 49 rfl, f0.i 49 rfl]) (by rw [F3.l 50 rfl, f0.l 50 rfl])
      · exact (a6 b).eq (fun b _ => ⟨by rw [F3.i 51 rfl, f0.i 51 rfl], by rw [F3.l 52 rfl, f0.l 52 rfl]⟩)
