theorem i10 {c : Prop} [Decidable c] (h : c) : (if c then (1 : Int32) else 0) = 1 := if_pos h
theorem i00 {c : Prop} [Decidable c] (h : ¬ c) : (if c then (1 : Int32) else 0) = 0 := if_neg h
theorem zb_wrap {X : Option (Int32 × St)} {Q : Int32 × St → Prop} (h : ok X Q) (hq : ∀ a, Q a → a.1 = 0 ∨ a.1 = 1) : ok (bd X (fun r σ => grd (zbb r) (some (r, σ)))) Q := by
  refine ok_bd_of h (fun r σ hQ => ?_)
  have e : zbb r = true := by
    rcases hq _ hQ with h | h
    · have h : r = 0 := h
      rw [h]; rfl
    · have h : r = 1 := h
      rw [h]; rfl
  rw [e, grd_true]; exact ok_some.mpr hQ
theorem zb_wrap2 {X : Option (Int32 × St)} {Q : Int32 × St → Prop} (h : ok X Q) (hq : ∀ a, Q a → a.1 = 0 ∨ a.1 = 1) : ok (bd X (fun r σ => if r = 0 then some (0, σ) else some (1, σ))) Q := by
  refine ok_bd_of h (fun r σ hQ => ?_)
  rcases hq _ hQ with h | h
  · have h : r = 0 := h
    subst h; rw [if_pos rfl]; exact ok_some.mpr hQ
  · have h : r = 1 := h
    subst h; rw [if_neg one_ne]; exact ok_some.mpr hQ
theorem vp_01 {n : Nat} {B : Nat → Nat} {p s : Nat} {X : Option (Int32 × St)} {R S : St → Prop} : ∀ a : Int32 × St, ok X (fun c => ValPost n B p s a c ∧ R a.2 ∧ S c.2) → a.1 = 0 ∨ a.1 = 1 := fun a ⟨c, _, h⟩ => by
  rcases h.1 with k | k
  · exact Or.inl k.1
  · exact Or.inr k.1
theorem Wd_ne {l1 l2 : List Nat} {B : Nat → Nat} {q m : Nat} (h1 : Wd l1 B q m = true) (hne : l1 ≠ l2) : Wd l2 B q m = false := by
  cases h2 : Wd l2 B q m with
  | false => rfl
  | true => exact absurd (Wd_one h1 h2) hne
theorem val_lock {N n : Nat} {B : Nat → Nat} {p s : Nat} {σ τ σ0 τ0 : St} (hN : 802 < N) (hs : s < 40) (hp : p ≤ n) (hX : TapeX σ0 n B) (hM : TapeM τ0 n B) (f : FrP (PX s) σ σ0) (g : FrP (PM s) τ τ0) (ha : σ0.1 4802 0 = nI p) (hK : TokM τ0 n B p) (d7 : τ0.1 7 (40 + s) = 0) (d8 : τ0.1 8 (40 + s) = 0) (d10 : τ0.2 10 (40 + s) = 0) (d3 : τ0.1 3 1 = nI s) (rf : RFault σ0 τ0) :
    ok (f_X6_takeValue 2 N (nI s) σ0) (fun a => ok (mVal N (nI (40 + s)) τ0) (fun c => ValPost n B p s a c ∧ FrP (PX s) σ a.2 ∧ FrP (PM s) τ c.2)) := by
  have hn := hX.1
  have hle := te_le (B := B) hp
  have hge := te_ge B n p
  have hqe := tq_ge B n p
  unfold f_X6_takeValue
  simp only [Nat.reduceMul, Nat.reduceAdd, Nat.reduceSub]
  rw [ncl (by omega), ib_n (by omega), decide_eq_true hs, grd_true, grd_true, grd_true, grd_true]
  have f1 : FrP (PX s) σ0 (sl (si (si (si σ0 14 s 0) 15 s 0) 16 s 0) 17 s 0) := ((((FrP.refl _ _).si _ _ _ (Or.inr ⟨rfl, rfl⟩)).si _ _ _ (Or.inr ⟨rfl, rfl⟩)).si _ _ _ (Or.inr ⟨rfl, rfl⟩)).sl _ _ _ (Or.inr ⟨rfl, rfl⟩)
  have c4 : (sl (si (si (si σ0 14 s 0) 15 s 0) 16 s 0) 17 s 0).1 14 s = 0 := by rw [sl_1, si_rd, if_neg (by decide), si_rd, if_neg (by decide), si_rd, if_pos rfl, if_pos rfl]
  have c5 : (sl (si (si (si σ0 14 s 0) 15 s 0) 16 s 0) 17 s 0).1 15 s = 0 := by rw [sl_1, si_rd, if_neg (by decide), si_rd, if_pos rfl, if_pos rfl]
  have c6 : (sl (si (si (si σ0 14 s 0) 15 s 0) 16 s 0) 17 s 0).1 16 s = 0 := by rw [sl_1, si_rd, if_pos rfl, if_pos rfl]
  have c7 : (sl (si (si (si σ0 14 s 0) 15 s 0) 16 s 0) 17 s 0).2 17 s = 0 := by rw [sl_rd, if_pos rfl, if_pos rfl]
  have ha1 : (sl (si (si (si σ0 14 s 0) 15 s 0) 16 s 0) 17 s 0).1 4802 0 = nI p := by rw [sl_1, si_rd, if_neg (by decide), si_rd, if_neg (by decide), si_rd, if_neg (by decide)]; exact ha
  have hX1 := hX.frP f1 PX_tape.1 PX_tape.2
  have fa : Fr VNa σ0 (sl (si (si (si σ0 14 s 0) 15 s 0) 16 s 0) 17 s 0) := ((((Fr.refl _ _).si _ _ _ rfl).si _ _ _ rfl).si _ _ _ rfl).sl _ _ _ rfl
  generalize sl (si (si (si σ0 14 s 0) 15 s 0) 16 s 0) 17 s 0 = σ1 at *
  refine ok_bo_of (x_next (by omega) hp hX1 ha1) (fun σ5 h5 => ?_)
  obtain ⟨hK5, f5⟩ := h5
  have hX5 := hX1.fr f5 rfl
  have F5 : FrP (PX s) σ σ5 := (f.trans f1).trans (f5.toP VN_PX)
  have rf5 : RFault σ5 τ0 := rf.fr (V := VNa) (W := VMa) (fa.trans (f5.wide rfl)) (Fr.refl _ _) rfl rfl
  have e4 : σ5.1 14 s = 0 := by rw [f5.i 14 rfl]; exact c4
  have e5 : σ5.1 15 s = 0 := by rw [f5.i 15 rfl]; exact c5
  have e6 : σ5.1 16 s = 0 := by rw [f5.i 16 rfl]; exact c6
  have e7 : σ5.2 17 s = 0 := by rw [f5.l 17 rfl]; exact c7
  rw [x_isWord hN (by omega) hX5 hp hK5, bo_some, x_isWord hN (by omega) hX5 hp hK5, bo_some, x_isWord hN (by omega) hX5 hp hK5, bo_some]
  unfold mVal
  have none : ∀ τ1 : St, τ1 = τ0 → ok (some ((1 : Int32), σ5)) (fun a => ok (f_X12_readSign_304 N τ1) (fun c => ValPost n B p s a c ∧ FrP (PX s) σ a.2 ∧ FrP (PM s) τ c.2)) := by
    rintro τ1 rfl
    unfold f_X12_readSign_304
    rw [ok_some, show ib 1 2 = true from rfl, grd_true, grd_true, ok_some]
    have gF : Fr [3] τ1 (si τ1 3 1 (τ1.1 3 1 + 1)) := (Fr.refl _ _).si _ _ _ rfl
    refine ⟨Or.inr ⟨rfl, rfl, p, 0, 0, fun _ => 0, 0, by omega, hp, hK5, hK.fr gF rfl, by omega, by omega, fun _ => rfl, fun i hi => by omega, e4, e5, e6, e7, ?_, ?_, fun i hi => by omega, ?_, ?_, rf5.fr (V := VNa) (W := VMa) (Fr.refl _ _) (gF.wide rfl) rfl rfl⟩, F5, g.si _ _ _ (Or.inr (Or.inr (Or.inr ⟨rfl, rfl⟩)))⟩
    · show (si τ1 3 1 (τ1.1 3 1 + 1)).1 7 (40 + s) = nI 0
      rw [gF.i 7 rfl]; exact d7
    · show (si τ1 3 1 (τ1.1 3 1 + 1)).1 8 (40 + s) = nI 0
      rw [gF.i 8 rfl]; exact d8
    · show (si τ1 3 1 (τ1.1 3 1 + 1)).2 10 (40 + s) = 0
      rw [gF.l 10 rfl]; exact d10
    · show (si τ1 3 1 (τ1.1 3 1 + 1)).1 3 1 = nI (s + 1)
      rw [si_rd, if_pos rfl, if_pos rfl, d3, nI_1]
  by_cases e : tk B n p = 1
  · rw [if_pos ((srt_is1 hK).mpr e), hK.2.2.2.2.1, if_pos e]
    generalize hmd : te B n p - tq B n p = m at *
    have k5 := ky_iff (B := B) (q := tq B n p) (m := m) (w := 5) (by omega)
    have k6 := ky_iff (B := B) (q := tq B n p) (m := m) (w := 6) (by omega)
    have k7 := ky_iff (B := B) (q := tq B n p) (m := m) (w := 7) (by omega)
    have kin : ((5 : Int32) ≤ kyv B (tq B n p) m ∧ kyv B (tq B n p) m ≤ 7) ↔ ∃ w, 5 ≤ w ∧ w ≤ 7 ∧ kyv B (tq B n p) m = nI w := ky_in (B := B) (q := tq B n p) (m := m) 5 7 (by omega) (by omega)
    rw [m_in]
    by_cases h1 : Wd (cwd.getD 1 []) B (tq B n p) m = true
    · rw [i10 (show tk B n p = 1 ∧ Wd (cwd.getD 1 []) B (tq B n p) m = true from ⟨e, h1⟩), if_neg one_ne, i10 (kin.mpr ⟨5, by omega, by omega, k5.mpr h1⟩), if_neg one_ne, k5.mpr h1]
      simp only [show (nI 5 = (5 : Int32)) = True from eq_true rfl, if_true]
      exact zb_wrap (nw_sounds hN hs hle (by omega) hX5 hM F5 g hK5.1 hK.2.1 e7 d10 d3 rf5) vp_01
    · rw [i00 (show ¬ (tk B n p = 1 ∧ Wd (cwd.getD 1 []) B (tq B n p) m = true) from fun h => h1 h.2), if_pos rfl]
      by_cases h2 : Wd (cwd.getD 2 []) B (tq B n p) m = true
      · rw [i10 (show tk B n p = 1 ∧ Wd (cwd.getD 2 []) B (tq B n p) m = true from ⟨e, h2⟩), if_neg one_ne, i10 (kin.mpr ⟨6, by omega, by omega, k6.mpr h2⟩), if_neg one_ne, k6.mpr h2]
        simp only [show (nI 6 = (5 : Int32)) = False from eq_false (by decide), if_false]
        exact zb_wrap (nw_mean (k := 2) hN hs hle (by omega) (by omega) hX5 hM F5 g hK5.1 hK.2.1 e5 e6 d8 d3 rf5) vp_01
      · rw [i00 (show ¬ (tk B n p = 1 ∧ Wd (cwd.getD 2 []) B (tq B n p) m = true) from fun h => h2 h.2), if_pos rfl]
        by_cases h3 : Wd (cwd.getD 3 []) B (tq B n p) m = true
        · rw [i10 (show tk B n p = 1 ∧ Wd (cwd.getD 3 []) B (tq B n p) m = true from ⟨e, h3⟩), if_neg one_ne, i10 (kin.mpr ⟨7, by omega, by omega, k7.mpr h3⟩), if_neg one_ne, k7.mpr h3]
          simp only [show (nI 7 = (5 : Int32)) = False from eq_false (by decide), if_false]
          exact zb_wrap2 (nw_mean (k := 3) hN hs hle (by omega) (by omega) hX5 hM F5 g hK5.1 hK.2.1 e5 e6 d8 d3 rf5) vp_01
        · rw [i00 (show ¬ (tk B n p = 1 ∧ Wd (cwd.getD 3 []) B (tq B n p) m = true) from fun h => h3 h.2), if_pos rfl, i00 (show ¬ ((5 : Int32) ≤ kyv B (tq B n p) m ∧ kyv B (tq B n p) m ≤ 7) from ?_), if_pos rfl]
          · exact none τ0 rfl
          · intro h
            obtain ⟨w, w1, w2, w3⟩ := kin.mp h
            have hw : w = 5 ∨ w = 6 ∨ w = 7 := by omega
            rcases hw with rfl | rfl | rfl
            · exact h1 (k5.mp w3)
            · exact h2 (k6.mp w3)
            · exact h3 (k7.mp w3)
  · rw [i00 (show ¬ (tk B n p = 1 ∧ Wd (cwd.getD 1 []) B (tq B n p) (te B n p - tq B n p) = true) from fun h => e h.1), if_pos rfl, i00 (show ¬ (tk B n p = 1 ∧ Wd (cwd.getD 2 []) B (tq B n p) (te B n p - tq B n p) = true) from fun h => e h.1), if_pos rfl, i00 (show ¬ (tk B n p = 1 ∧ Wd (cwd.getD 3 []) B (tq B n p) (te B n p - tq B n p) = true) from fun h => e h.1), if_pos rfl, if_neg (fun h => e ((srt_is1 hK).mp h))]
    exact none τ0 rfl
