/-! read -/
theorem ln_k {N : Nat} (hN : 802 < N) {S : Nat → Nat → Nat → Bool} {nt n many : Nat} {F R u D D' : Nat → Nat} (h40 : nt ≤ 40) (hn24 : n ≤ 24) (hm : many ≤ 24) (fw : FwP S nt n F) (ru : RuT S F nt n many R u) (dl : DlT S n many u D 0) (dr : DrT S n many R u D' 0) {σ0 τ0 : St} (en : EnT σ0 S n (fun t i => t < nt ∧ i < n)) (hn : σ0.1 12404 0 = nI n) (hM : σ0.1 12411 0 = nI many) (h65 : ∀ k, k < many → σ0.1 65 k = nI (u k)) (h64 : ∀ k, k ≤ many → σ0.1 64 k = nI (D k)) (sp : SpS τ0 S nt n) (h51 : ∀ k, k ≤ many → τ0.1 51 k = nI (D' k)) (h48 : ∀ k, k < many → τ0.1 48 k = nI (u k)) :
    ∀ (c fx fm k pos : Nat) (σ τ : St), many - k = c → c < fx → c < fm → k ≤ many → Fr [66] σ0 σ → Fr [49] τ0 τ → (∀ k', k' < k → σ.1 66 k' = τ.1 49 k') → (D k).testBit pos = true → (R k).testBit pos = true →
    ∃ σ' τ', f_X5_chooseLengths_99 N fx (nI pos) (nI k) σ = some σ' ∧ f_X12_read_469 N fm (nI many) (nI pos) (nI k) τ = some (nI many, si τ' 1074 0 (nI many)) ∧ (∀ k', k' < many → σ'.1 66 k' = τ'.1 49 k') ∧ Fr [66] σ0 σ' ∧ Fr [49] τ0 τ' := by
  intro c
  induction c with
  | zero =>
    intro fx fm k pos σ τ hc hfx hfm hk f g hl hd hr
    obtain ⟨fx, rfl⟩ : ∃ f, fx = f + 1 := ⟨fx - 1, by omega⟩
    obtain ⟨fm, rfl⟩ : ∃ f, fm = f + 1 := ⟨fm - 1, by omega⟩
    have e : k = many := by omega
    subst e
    refine ⟨σ, τ, ?_, ?_, hl, f, g⟩
    · rw [f_X5_chooseLengths_99, f.i 12411 rfl, hM, if_pos (nI_le (by omega) (by omega))]
    · rw [f_X12_read_469, if_pos (nI_le (by omega) (by omega))]
  | succ c ih =>
    intro fx fm k pos σ τ hc hfx hfm hk f g hl hd hr
    obtain ⟨fx, rfl⟩ : ∃ f, fx = f + 1 := ⟨fx - 1, by omega⟩
    obtain ⟨fm, rfl⟩ : ∃ f, fm = f + 1 := ⟨fm - 1, by omega⟩
    have lk : k < many := by omega
    have ut := (ru.2.2 k lk).1
    obtain ⟨hp, j0, j1, j2, j3, j4⟩ := (dl.2.2 k (Nat.zero_le _) lk pos).mp hd
    obtain ⟨E, d1, d2, d3⟩ := en (u k) pos ⟨ut, hp⟩
    have dk := dl.2.1 (k + 1) (Nat.zero_le _) (by omega)
    have dk' := dr.2.1 (k + 1) (Nat.zero_le _) (by omega)
    have mt := dr_dl fw ru dl dr _ (k + 1) rfl (by omega)
    have hX : E &&& D (k + 1) < 33554432 := Nat.lt_of_le_of_lt Nat.and_le_left d2
    have hx : ∀ y, pos < y → y ≤ n → ((E &&& D (k + 1)).testBit y = true ↔ ((D' (k + 1)).testBit y = true ∧ S (u k) pos y = true)) := fun y h1 h2 => by
      rw [Nat.testBit_and, Bool.and_eq_true, d3, mt]
      constructor
      · rintro ⟨⟨_, _, q1⟩, q2⟩
        exact ⟨⟨q2, dl_next fw ru dl lk hr h1 h2 q1 q2⟩, q1⟩
      · rintro ⟨⟨q1, _⟩, q2⟩
        exact ⟨⟨h1, h2, q2⟩, q1⟩
    obtain ⟨y, y1, y2, y3, y4, y5⟩ := ln_scan (N := N) (E := E) (D := D (k + 1)) (D' := D' (k + 1)) (X := E &&& D (k + 1)) (j0 := j0) h40 hn24 hm lk ut hp hX dk' hx (σ := σ) (τ := τ) (by rw [f.i 12404 rfl]; exact hn) (fun t i j q1 q2 q3 q4 => by rw [g.i 50 rfl]; exact sp t i j q1 q2 q3 q4) (by rw [g.i 51 rfl]; exact h51 (k + 1) (by omega)) (by rw [g.i 48 rfl]; exact h48 k lk) j1 j2 (by rw [Nat.testBit_and, Bool.and_eq_true, d3]; exact ⟨⟨j1, j2, j3⟩, j4⟩) (k99 := f_X5_chooseLengths_99 N fx) (k469 := f_X12_read_469 N fm) (j0 - (pos + 1)) N N (pos + 1) rfl (by omega) (by omega) (by omega) (by omega)
    have ea : nI (u k) * 24 + nI pos = nI (u k * 24 + pos) := by rw [show (24 : Int32) = nI 24 from rfl, nmul, nadd]
    obtain ⟨w1, w2⟩ := (hx y y1 y2).mp y3
    obtain ⟨w3, w4⟩ := (mt y).mp w1
    obtain ⟨σ', τ', e1, e2, e3, e4, e5⟩ := ih fx fm (k + 1) y (si σ 66 k (nI (y - pos))) (si τ 49 k (nI (y - pos))) (by omega) (by omega) (by omega) (by omega) (f.si _ _ _ rfl) (g.si _ _ _ rfl) (fun k' h => by
      rw [si_rd, if_pos rfl, si_rd, if_pos rfl]
      by_cases e : k' = k
      · rw [if_pos e, if_pos e]
      · rw [if_neg e, if_neg e]; exact hl k' (by omega)) w3 w4
    refine ⟨σ', τ', ?_, ?_, e3, e4, e5⟩
    · rw [f_X5_chooseLengths_99, f.i 12411 rfl, hM, if_neg (nI_ge lk (by omega)), f.i 12404 rfl, hn, if_neg (nI_ge hp (by omega)), ib_n (a := k) (by omega), decide_eq_true (show k < 24 by omega), ncl (a := k) (by omega), f.i 65 rfl, h65 k lk, ea, ib_n (a := u k * 24 + pos) (by omega), decide_eq_true (show u k * 24 + pos < 960 by omega), ncl (a := u k * 24 + pos) (by omega), nI_1 k, ib_n (a := k + 1) (by omega), decide_eq_true (show k + 1 < 25 by omega), ncl (a := k + 1) (by omega), f.i 61 rfl, d1, f.i 64 rfl, h64 (k + 1) (by omega), nand, nI_1 pos]
      simp only [grd_true]
      rw [y4]; exact e1
    · rw [f_X12_read_469, if_neg (nI_ge lk (by omega)), nI_1 pos, y5]; exact e2
theorem c_read {N : Nat} (hN : 802 < N) {σ τ : St} {L : Lv} {nt : Nat} {T : Nat → Tv} (rl : RList σ τ L) (rT : RTerms σ τ nt T) (rr : RRow σ τ L.n) (rd : RRead σ τ) : ok (f_X11_read N σ) (fun a => ok (f_X12_read N τ) (fun c => a.1 = c.1 ∧ RRead a.2 c.2 ∧ Fr ([61, 62, 63, 64, 65, 66, 12411] ++ VS) σ a.2 ∧ Fr [34, 35, 36, 37, 50, 47, 51, 48, 49, 1074] τ c.2)) := by
  obtain ⟨n, g, hn, h1, h2, hg⟩ := row_g rl.1.1 rr
  have h40 := rT.1.1
  unfold f_X11_read f_X12_read
  rw [h1, h2]
  by_cases hn0 : n = 0
  · rw [hn0, if_pos (show nI 0 = (0 : Int32) from rfl), if_pos (show nI 0 = (0 : Int32) from rfl), ok_some, ok_some]
    exact ⟨rfl, rd, Fr.refl _ _, Fr.refl _ _⟩
  have hne : ¬ nI n = (0 : Int32) := nI_ne0 (by omega) (by omega)
  rw [if_neg hne, if_neg hne, f_X5_findFirstWay]
  obtain ⟨σ1, e1, en1, f1⟩ := x_findEnds hN rl.1 rT.1 (g := g) hn rl.2.1 rT.2.1 h1 (fun i hi => ⟨(hg i hi).1, (hg i hi).2.1⟩)
  obtain ⟨σ2, e2, ⟨F, fw1, fw2, fw3, bk⟩, f2⟩ := x_findFewest hN h40 hn en1 (by rw [f1.i 7600 rfl]; exact rT.2.1.1) (by rw [f1.i 12404 rfl]; exact h1)
  have fw : FwP (fun t => spB L (T t) g) nt n F := ⟨fw2, fw3⟩
  obtain ⟨τ1, m1, nm, g1⟩ := m_asListed hN rl.1 rl.2.2
  obtain ⟨τ2, m2, sp2, g2⟩ := m_makeSpells hN rl.1 rT.1 (g := g) hn nm (rT.2.2.fr g1 rfl) (by rw [g1.i 1069 rfl]; exact h2) (fun i hi => ⟨(hg i hi).1, by rw [g1.i 44 rfl]; exact (hg i hi).2.2⟩)
  have G2 : Fr [34, 35, 36, 37, 50] τ τ2 := (g1.wide rfl).trans (g2.toFr (fun a j h => by rcases h with h | h <;> (rw [h]; rfl)))
  have k69 : τ2.1 1069 0 = nI n := by rw [G2.i 1069 rfl]; exact h2
  have k49 : τ2.1 1049 0 = nI nt := by rw [G2.i 1049 rfl]; exact rT.2.2.1
  obtain ⟨τ3, m3, c47, g3⟩ := m_fw23 hN h40 hn fw (n + 1) N τ2 (Nat.le_refl _) (by omega) sp2 k69 k49 (fun q q1 q2 => absurd q1 (by omega))
  rw [nI_back] at m3
  rw [e1, bo_some, e2, bo_some, show ib 0 25 = true from rfl, grd_true, grd_true, m1, bo_some, m2, bo_some, k69, m3, fw1 0 (by omega), c47 0 (by omega)]
  have F2 : Fr ([61, 62, 63, 64, 65, 66, 12411] ++ VS) σ σ2 := (f1.wide rfl).trans (f2.wide rfl)
  have G3 : Fr [34, 35, 36, 37, 50, 47] τ τ3 := (G2.wide rfl).trans (g3.wide rfl)
  have b0 := fw.bd 0 (by omega)
  by_cases hb : F 0 = 1000
  · have r1 : RRead σ2 τ3 := rd.fr (show Fr ([61, 62, 63] ++ VS) σ σ2 from (f1.wide rfl).trans (f2.wide rfl)) G3 rfl rfl
    rw [hb, if_neg (show ¬ nI 1000 < (1000 : Int32) by decide), if_neg (show ¬ nI (gw 1000) < (1000000000 : Int32) by decide), bd_some, ok_some, ok_some]
    exact ⟨rfl, r1, F2, G3.wide rfl⟩
  · have hm : F 0 ≤ 24 := by omega
    have eg : gw (F 0) = F 0 := by unfold gw; rw [if_neg hb]
    rw [eg, if_pos (show nI (F 0) < (1000 : Int32) from nI_lt (b := 1000) (by omega) (by omega)), if_pos (show nI (F 0) < (1000000000 : Int32) from nI_lt (b := 1000000000) (by omega) (by omega))]
    have s3 : Fr [12411] σ2 (si σ2 12411 0 (nI (F 0))) := (Fr.refl _ _).si _ _ _ rfl
    have s4 : (si σ2 12411 0 (nI (F 0))).1 12411 0 = nI (F 0) := by rw [si_rd, if_pos rfl, if_pos rfl]
    have t3 : Fr [51, 48] τ3 (si τ3 51 0 1) := (Fr.refl _ _).si _ _ _ rfl
    have t4 : (si τ3 51 0 1).1 51 0 = nI 1 := by rw [si_rd, if_pos rfl, if_pos rfl]; rfl
    generalize si σ2 12411 0 (nI (F 0)) = σ3 at *
    generalize si τ3 51 0 1 = τ4 at *
    have S3 : Fr ([61, 62, 63, 12411] ++ VS) σ σ3 := ((f1.wide rfl).trans (f2.wide rfl)).trans (s3.wide rfl)
    have en3 : EnT σ3 (fun t => spB L (T t) g) n (fun t i => t < nt ∧ i < n) := fun t i h => by rw [s3.i 61 rfl, f2.i 61 rfl]; exact en1 t i h
    have hn3 : σ3.1 12404 0 = nI n := by rw [S3.i 12404 rfl]; exact h1
    have sp4 : SpS τ4 (fun t => spB L (T t) g) nt n := fun t i j q1 q2 q3 q4 => by rw [t3.i 50 rfl, g3.i 50 rfl]; exact sp2 t i j q1 q2 q3 q4
    obtain ⟨σ4, τ5, R, u, y1, y2, ⟨y3, y4, y5⟩, y6, y7⟩ := ct_k hN h40 hn hm fw en3 hn3 s4 (by rw [S3.i 7600 rfl]; exact rT.2.1.1) (fun d hd => by rw [s3.i 63 rfl]; exact bk d hd) sp4 (by rw [t3.i 1069 rfl, g3.i 1069 rfl]; exact k69) (by rw [t3.i 1049 rfl, g3.i 1049 rfl]; exact k49) (fun q hq => by rw [t3.i 47 rfl]; exact c47 q hq) (F 0) N N 0 σ3 τ4 (fun _ => 1) (fun _ => 0) rfl (by omega) (by omega) (Nat.zero_le _) (Fr.refl _ _) (Fr.refl _ _) ⟨rfl, fun k' hk' => by
      rw [show k' = 0 by omega]
      exact ⟨t4, show 1 < 33554432 by decide, show (1 : Nat) ≠ 0 by decide, fun q hq => by
        have hq : (1 : Nat).testBit q = true := hq
        rw [show (1 : Nat) = 2 ^ 0 from rfl, Nat.testBit_two_pow, decide_eq_true_iff] at hq
        rw [← hq]; exact ⟨Nat.zero_le _, rfl⟩⟩, fun k' hk' => absurd hk' (by omega)⟩
    have ru : RuT (fun t => spB L (T t) g) F nt n (F 0) R u := ⟨y3, fun k hk => (y4 k hk).2, fun k hk => ⟨(y5 k hk).1, (y5 k hk).2.2.2⟩⟩
    have y1' : f_X5_chooseTerms_4 N N 1 0 σ3 = some σ4 := y1
    have y2' : f_X12_read_171 N N (nI (F 0)) 0 τ4 = f_X12_read_339 N N (nI (F 0)) (nI (F 0) - 1) τ5 := y2
    unfold f_X5_chooseTerms f_X5_chooseLengths
    rw [y1', bo_some, y2', y6.i 12411 rfl, s4, ib_n (a := F 0) (by omega), decide_eq_true (show F 0 < 25 by omega), grd_true, ncl (a := F 0) (by omega), y6.i 12404 rfl, hn3, show (1 : Int32) <<< (nI n &&& 31) = nI (2 ^ n) by rw [show (1 : Int32) = nI 1 from rfl, nshl 1 (by omega), Nat.one_shiftLeft], Int32.sub_eq_add_neg]
    have s5 : Fr [64] σ4 (si σ4 64 (F 0) (nI (2 ^ n))) := (Fr.refl _ _).si _ _ _ rfl
    have en4 : EnT σ4 (fun t => spB L (T t) g) n (fun t i => t < nt ∧ i < n) := fun t i h => by rw [y6.i 61 rfl]; exact en3 t i h
    have hn4 : σ4.1 12404 0 = nI n := by rw [y6.i 12404 rfl]; exact hn3
    obtain ⟨σ5, D, z1, z2, z3, z4⟩ := x_dl22 hN (S := fun t => spB L (T t) g) (nt := nt) (u := u) h40 hn hm (fun k hk => (y5 k hk).1) en4 hn4 (fun k hk => (y5 k hk).2.1) (F 0) N (si σ4 64 (F 0) (nI (2 ^ n))) (fun _ => 2 ^ n) (Nat.le_refl _) (by omega) s5 (fun k q1 q2 => by rw [show k = F 0 by omega, si_rd, if_pos rfl, if_pos rfl]) ⟨rfl, fun k q1 q2 => show 2 ^ n < 2 ^ 25 from Nat.pow_lt_pow_right (by omega) (by omega), fun k q1 q2 => absurd q2 (by omega)⟩
    have sp5 : SpS τ5 (fun t => spB L (T t) g) nt n := fun t i j q1 q2 q3 q4 => by rw [y7.i 50 rfl]; exact sp4 t i j q1 q2 q3 q4
    obtain ⟨τ6, D', v1, v2, v3, v4⟩ := m_dl339 hN (S := fun t => spB L (T t) g) (nt := nt) (R := R) (u := u) h40 hn hm (fun k hk => (y5 k hk).1) (fun k hk => (y4 k hk).2.1) sp5 (by rw [y7.i 1069 rfl, t3.i 1069 rfl, g3.i 1069 rfl]; exact k69) (fun k hk => (y5 k hk).2.2.1) (F 0) N τ5 R (Nat.le_refl _) (by omega) (Fr.refl _ _) (fun k hk => (y4 k (by omega)).1) (fun k q1 q2 => (y4 k q2).1) ⟨rfl, fun k q1 q2 => (y4 k q2).2.1, fun k q1 q2 => absurd q2 (by omega)⟩
    rw [z1, v1]
    obtain ⟨x1, x2⟩ := dl_zero fw ru z4
    obtain ⟨σ6, τ7, w1, w2, w3, w4, w5⟩ := ln_k hN h40 hn hm fw ru z4 v4 (fun t i h => by rw [z2.i 61 rfl]; exact en4 t i h) (by rw [z2.i 12404 rfl]; exact hn4) (by rw [z2.i 12411 rfl, y6.i 12411 rfl]; exact s4) (fun k hk => by rw [z2.i 65 rfl]; exact (y5 k hk).2.1) z3 (fun t i j q1 q2 q3 q4 => by rw [v2.i 50 rfl]; exact sp5 t i j q1 q2 q3 q4) v3 (fun k hk => by rw [v2.i 48 rfl]; exact (y5 k hk).2.2.1) (F 0) N N 0 0 σ5 τ6 rfl (by omega) (by omega) (Nat.zero_le _) (Fr.refl _ _) (Fr.refl _ _) (fun k' h => absurd h (by omega)) x1 x2
    have w1' : f_X5_chooseLengths_99 N N 0 0 σ5 = some σ6 := w1
    have w2' : f_X12_read_469 N N (nI (F 0)) 0 0 τ6 = some (nI (F 0), si τ7 1074 0 (nI (F 0))) := w2
    rw [w1', w2', bo_some, bd_some, ok_some, ok_some]
    have M6 : σ6.1 12411 0 = nI (F 0) := by rw [w4.i 12411 rfl, z2.i 12411 rfl, y6.i 12411 rfl]; exact s4
    refine ⟨M6, ⟨F 0, hm, M6, by rw [si_rd, if_pos rfl, if_pos rfl], fun i hi => ⟨?_, ?_⟩⟩, ?_, ?_⟩
    · rw [si_rd, if_neg (by decide), w4.i 65 rfl, z2.i 65 rfl, (y5 i hi).2.1, w5.i 48 rfl, v2.i 48 rfl, (y5 i hi).2.2.1]
    · rw [si_rd, if_neg (by decide)]; exact w3 i hi
    · exact (S3.wide rfl).trans ((y6.wide rfl).trans ((z2.wide rfl).trans (w4.wide rfl)))
    · exact ((G3.wide rfl).trans ((t3.wide rfl).trans ((y7.wide rfl).trans ((v2.wide rfl).trans (w5.wide rfl))))).si _ _ _ rfl
