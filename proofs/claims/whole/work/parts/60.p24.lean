/-! sizes; block, box -/
theorem sz_w {w h : Nat} (hw : w < 32768) (hh : h < 65536) (σ : St) : f_X11_widthOf (nI (w * 65536 + h)) σ = nI w := by
  unfold f_X11_widthOf
  rw [show (16 : Int32) = nI 16 from rfl, nushr (by omega) (by omega)]
  congr 1
  rw [Nat.shiftRight_eq_div_pow]
  omega
theorem sz_h {w h : Nat} (hh : h < 65536) (σ : St) : f_X11_heightOf (nI (w * 65536 + h)) σ = nI h := by
  unfold f_X11_heightOf
  rw [show (65535 : Int32) = nI 65535 from rfl, nand]
  congr 1
  rw [show (65535 : Nat) = 2 ^ 16 - 1 from rfl, Nat.and_two_pow_sub_one_eq_mod]
  omega
theorem sz_e {w h : Nat} (hw : w < 32768) (hh : h < 65536) (σ : St) : f_X11_edgeOf (nI (w * 65536 + h)) σ = nI (max w h) := by
  unfold f_X11_edgeOf
  rw [sz_w hw hh, sz_h hh, nmax (by omega) (by omega)]
theorem m_greater {a b : Nat} (ha : a < 2147483648) (hb : b < 2147483648) (τ : St) : f_X12_greater (nI a) (nI b) τ = nI (max a b) := by
  unfold f_X12_greater
  by_cases h : a ≤ b
  · rw [if_pos (nI_le h hb), Nat.max_eq_right h]
  · rw [if_neg (nI_ge (by omega) ha), Nat.max_eq_left (by omega)]
theorem x_shrunk {o : Nat} {σ : St} {q e : Nat} (hq : σ.1 (8 * o + 8 - 6) 1 = nI q) (h8 : 8 ≤ q ∧ q ≤ 99) (he : e < 2147483648) (c : Int32) : f_X6_shrunk o c (nI e) σ = some (c * nI q / nI (max q e)) := by
  unfold f_X6_shrunk f_X6_shrunk_17
  rw [hq, show ib 1 4 = true from rfl, grd_true]
  have one : ∀ g, 8 ≤ g → g < 2147483648 → ((1 : Int32) ≤ nI g ∧ decide (¬ nI g = 0) = true) := fun g h1 h2 => ⟨nI_le (a := 1) (by omega) h2, decide_eq_true (nI_ne0 (by omega) h2)⟩
  by_cases h : e ≤ q
  · rw [if_pos (nI_le h (by omega)), if_pos (one q h8.1 (by omega)).1, (one q h8.1 (by omega)).2, grd_true, Nat.max_eq_left h]
  · rw [if_neg (nI_ge (by omega) he), if_pos (one e (by omega) he).1, (one e (by omega) he).2, grd_true, Nat.max_eq_right (by omega)]
theorem m_percent {τ : St} {q w h : Nat} (hq : τ.1 2 1 = nI q) (h8 : 8 ≤ q ∧ q ≤ 99) (hw : w < 2147483648) (hh : h < 2147483648) : f_X12_percent (nI w) (nI h) τ = some (100 * nI q / nI (max q (max w h))) := by
  unfold f_X12_percent f_X12_greatest
  rw [hq, show ib 1 8 = true from rfl, grd_true, grd_true, m_greater hw hh, m_greater (by omega) (by omega), bo_some, decide_eq_true (nI_ne0 (by omega) (by omega)), grd_true]
theorem m_shrunk {τ : St} {q b w h : Nat} (hq : τ.1 2 1 = nI q) (h8 : 8 ≤ q ∧ q ≤ 99) (hb : b < 12) (e1 : τ.1 20 b = nI w) (e2 : τ.1 21 b = nI h) (hw : w < 2147483648) (hh : h < 2147483648) (c : Int32) : f_X12_shrunk c (nI b) τ = some (c * nI q / nI (max q (max w h))) := by
  unfold f_X12_shrunk f_X12_greatest
  rw [hq, show ib 1 8 = true from rfl, ib_n (by omega), decide_eq_true hb, ncl (by omega), e1, e2]
  simp only [grd_true]
  rw [m_greater hw hh, m_greater (by omega) (by omega), bo_some, decide_eq_true (nI_ne0 (by omega) (by omega)), grd_true]
theorem c_block {σ τ : St} {L : Lv} {ns : Nat} (rl : RList σ τ L) (h : RBlocks σ τ ns) (x w : Int32) : ∃ r, f_X11_block x w σ = some r ∧ f_X12_block x w τ = some r := by
  obtain ⟨hL, hx, hm⟩ := rl
  have h8 := hL.2.2.2.1
  have q1 : σ.1 (8 * 1 + 8 - 6) 1 = nI L.sq := hx.2.2.2.1
  have q2 : τ.1 2 1 = nI L.sq := hm.2.2.2.1
  have l1 : σ.1 10 2 = nI L.lst := hx.2.2.2.2.1
  have l2 : τ.1 2 2 = nI L.lst := hm.2.2.2.2.1
  obtain ⟨nb, nl, hb, hl, b1, b2, b3, b4, b5, b6⟩ := h
  unfold f_X11_block f_X12_block f_X6_percentOf f_X6_isLegible
  simp only [Nat.reduceMul, Nat.reduceAdd, Nat.reduceSub]
  rw [b1, b2, m_in, l1, l2]
  rcases ix (x := x) (n := nb) (by omega) with ⟨q, hy⟩ | ⟨b, hbb, rfl, k1, k2, k3, k4⟩
  · rw [i00 hy, if_pos rfl]
    by_cases q0 : x < 0
    · rw [if_pos q0]; exact ⟨_, rfl, rfl⟩
    · rw [if_neg q0, if_neg]
      · exact ⟨_, rfl, rfl⟩
      · rcases q with q | q
        · exact absurd q q0
        · exact Int32.not_lt.mpr q
  obtain ⟨c1, bw, bh, c2, c3, c4, c5, c6⟩ := b5 b hbb
  rw [if_neg k1, if_pos k3, i10 k4, if_neg one_ne, ib_n (by omega), decide_eq_true (by omega), ncl (by omega), c4, c5, c6, c1, sz_w c2 c3, sz_h c3, sz_e c2 c3]
  simp only [grd_true]
  rw [x_shrunk q1 h8 (by omega), x_shrunk q1 h8 (by omega), x_shrunk q1 h8 (by omega), m_percent q2 h8 (by omega) (by omega), m_shrunk q2 h8 (by omega) c5 c6 (by omega) (by omega), m_shrunk q2 h8 (by omega) c5 c6 (by omega) (by omega)]
  simp only [bo_some, show ib 2 8 = true from rfl, show ib 2 4 = true from rfl, grd_true]
  by_cases w0 : w = 0
  · rw [if_pos w0]; (try rw [if_pos w0]); exact ⟨_, rfl, rfl⟩
  rw [if_neg w0]; (try rw [if_neg w0])
  by_cases w1 : w = 1
  · rw [if_pos w1]; (try rw [if_pos w1]); exact ⟨_, rfl, rfl⟩
  rw [if_neg w1]; (try rw [if_neg w1])
  by_cases w2 : w = 2
  · rw [if_pos w2]; (try rw [if_pos w2]); exact ⟨_, rfl, rfl⟩
  rw [if_neg w2]; (try rw [if_neg w2])
  by_cases w3 : w = 3
  · rw [if_pos w3]; (try rw [if_pos w3]); exact ⟨_, rfl, rfl⟩
  rw [if_neg w3]; (try rw [if_neg w3])
  by_cases w4 : w = 4
  · rw [if_pos w4]; (try rw [if_pos w4])
    by_cases e : 100 * nI L.sq / nI (max L.sq (max bw bh)) < nI L.lst
    · rw [if_pos e, bo_some, if_pos rfl]; exact ⟨_, rfl, rfl⟩
    · rw [if_neg e, bo_some, if_neg one_ne]; exact ⟨_, rfl, rfl⟩
  rw [if_neg w4]; (try rw [if_neg w4])
  by_cases w5 : w = 5
  · rw [if_pos w5]; (try rw [if_pos w5]); exact ⟨_, rfl, rfl⟩
  rw [if_neg w5]; (try rw [if_neg w5])
  by_cases w6 : w = 6
  · rw [if_pos w6]; (try rw [if_pos w6]); exact ⟨_, rfl, rfl⟩
  rw [if_neg w6]; (try rw [if_neg w6]); exact ⟨_, rfl, rfl⟩
theorem c_box {σ τ : St} {L : Lv} {ns : Nat} (rl : RList σ τ L) (h : RBlocks σ τ ns) (rf : RFace σ τ) (x w : Int32) : ∃ r, f_X11_box x w σ = some r ∧ f_X12_box x w τ = some r := by
  obtain ⟨hL, hx, hm⟩ := rl
  have h8 := hL.2.2.2.1
  have q1 : σ.1 (8 * 1 + 8 - 6) 1 = nI L.sq := hx.2.2.2.1
  have q1' : σ.1 10 1 = nI L.sq := q1
  have q2 : τ.1 2 1 = nI L.sq := hm.2.2.2.1
  obtain ⟨nb, nl, hb, hl, b1, b2, b3, b4, b5, b6⟩ := h
  unfold f_X11_box f_X12_box f_X1_leftEdge f_X1_upperEdge f_X1_boxWidth f_X1_boxHeight f_X1_shrunkAs
  rw [b3, b4, m_in]
  rcases ix (x := x) (n := nl) (by omega) with ⟨q, hy⟩ | ⟨k, hk, rfl, k1, k2, k3, k4⟩
  · rw [i00 hy, if_pos rfl]
    by_cases q0 : x < 0
    · rw [if_pos q0]; exact ⟨_, rfl, rfl⟩
    · rw [if_neg q0, if_neg]
      · exact ⟨_, rfl, rfl⟩
      · rcases q with q | q
        · exact absurd q q0
        · exact Int32.not_lt.mpr q
  obtain ⟨d1, _, d2, ⟨b, hbb, d3⟩, d4, d5, sw, sh, d6, d7, d8, d9, d10⟩ := b6 k hk
  obtain ⟨c1, bw, bh, c2, c3, c4, c5, c6⟩ := b5 b hbb
  rw [if_neg k1, if_pos k3, i10 k4, if_neg one_ne, ib_n (a := k) (by omega), decide_eq_true (show k < 24 by omega), ncl (a := k) (by omega), d1, d2, d3, d4, d5, d8, d9, d10, ib_n (a := b) (by omega), decide_eq_true (show b < 12 by omega), ncl (a := b) (by omega), c4, c5, c6, q1', q2, rf, show ib 1 4 = true from rfl, show ib 1 8 = true from rfl]
  simp only [grd_true]
  rw [sz_w c2 c3, sz_h c3, sz_e c2 c3, sz_w d6 d7, sz_h d7]
  simp only [x_shrunk q1 h8 (show max bw bh < 2147483648 by omega), m_shrunk q2 h8 (show b < 12 by omega) c5 c6 (show bw < 2147483648 by omega) (show bh < 2147483648 by omega), bo_some]
  by_cases w0 : w = 0
  · rw [if_pos w0]; (try rw [if_pos w0]); exact ⟨_, rfl, rfl⟩
  rw [if_neg w0]; (try rw [if_neg w0])
  by_cases w1 : w = 1
  · rw [if_pos w1]; (try rw [if_pos w1]); exact ⟨_, rfl, rfl⟩
  rw [if_neg w1]; (try rw [if_neg w1])
  by_cases w2 : w = 2
  · rw [if_pos w2]; (try rw [if_pos w2])
    by_cases e : τ.1 1048 0 = 0
    · rw [if_pos e, if_pos e]; exact ⟨_, rfl, rfl⟩
    · rw [if_neg e, if_neg e]
      refine ⟨_, rfl, ?_⟩
      rw [Int32.sub_sub]
  rw [if_neg w2]; (try rw [if_neg w2])
  by_cases w3 : w = 3
  · rw [if_pos w3]; (try rw [if_pos w3]); exact ⟨_, rfl, rfl⟩
  rw [if_neg w3]; (try rw [if_neg w3])
  by_cases w4 : w = 4
  · rw [if_pos w4]; (try rw [if_pos w4]); exact ⟨_, rfl, rfl⟩
  rw [if_neg w4]; (try rw [if_neg w4])
  by_cases w5 : w = 5
  · rw [if_pos w5]; (try rw [if_pos w5]); exact ⟨_, rfl, rfl⟩
  rw [if_neg w5]; (try rw [if_neg w5]); exact ⟨_, rfl, rfl⟩
theorem c_count {σ τ : St} {L : Lv} {nt ns : Nat} {T : Nat → Tv} (rt : RTape σ τ) (rl : RList σ τ L) (rT : RTerms σ τ nt T) (rb : RBlocks σ τ ns) (rr : RRow σ τ ns) (rp : RPass σ τ nt) (rv : RVals σ τ ns) (x : Int32) : f_X12_count x τ = some (f_X11_count x σ) := by
  obtain ⟨n, _, a1, a2, _⟩ := rt
  have b1 : σ.1 1200 0 = nI L.n := rl.2.1.1
  have b2 : τ.1 3 0 = nI L.n := rl.2.2.1
  have c1 : σ.1 7600 0 = nI nt := rT.2.1.1
  have c2 : τ.1 1049 0 = nI nt := rT.2.2.1
  obtain ⟨nb, nl, _, _, d1, d2, d3, d4, _⟩ := rb
  obtain ⟨nr, _, e1, e2, _⟩ := rr
  obtain ⟨np, _, g1, g2, _⟩ := rp
  obtain ⟨nv, _, _, _, h1, h2, _⟩ := rv
  unfold f_X12_count f_X11_count
  rw [a1, a2, b1, b2, c1, c2, d1, d2, d3, d4, e1, e2, g1, g2, h1, h2, show ib 0 2 = true from rfl, grd_true]
  repeat (first | rfl | (split; rfl))
theorem c_face {σ τ : St} (h : RFace σ τ) (x : Int32) (hx : zbb x = true) : ok (f_X11_face x σ) (fun a => ok (f_X12_face x τ) (fun c => a.1 = c.1 ∧ RFace a.2 c.2 ∧ Fr [1012] σ a.2 ∧ Fr [1048] τ c.2)) := by
  unfold f_X11_face f_X12_face f_X11_face_13
  rw [hx, grd_true, grd_true, h, grd_true]
  have fin : ∀ r : Int32, ok (some (r, si σ 1012 0 x)) (fun a => ok (some (r, si τ 1048 0 x)) (fun c => a.1 = c.1 ∧ RFace a.2 c.2 ∧ Fr [1012] σ a.2 ∧ Fr [1048] τ c.2)) := by
    intro r
    rw [ok_some, ok_some]
    refine ⟨rfl, ?_, (Fr.refl _ _).si _ _ _ rfl, (Fr.refl _ _).si _ _ _ rfl⟩
    unfold RFace
    simp only [si_rd, reduceIte]
  by_cases e : τ.1 1048 0 = x
  · rw [if_pos e, if_pos e]; exact fin 0
  · rw [if_neg e, if_neg e]; exact fin 1
theorem c_end {σ τ : St} (h : RTape σ τ) (x : Int32) : ok (f_X11_end x σ) (fun a => ok (f_X12_end x τ) (fun c => a.1 = c.1 ∧ RTape a.2 c.2 ∧ Fr [4801] σ a.2 ∧ Fr [1001] τ c.2)) := by
  obtain ⟨n, h1, h2, h3, h4⟩ := h
  unfold f_X11_end f_X12_end
  rw [h2, h3]
  have same : ok (some ((-1 : Int32), σ)) (fun a => ok (some ((-1 : Int32), τ)) (fun c => a.1 = c.1 ∧ RTape a.2 c.2 ∧ Fr [4801] σ a.2 ∧ Fr [1001] τ c.2)) := by
    rw [ok_some, ok_some]
    exact ⟨rfl, ⟨n, h1, h2, h3, h4⟩, Fr.refl _ _, Fr.refl _ _⟩
  by_cases e : x < 0
  · rw [if_pos e, if_pos e]; exact same
  · rw [if_neg e, if_neg e]
    by_cases e2 : x ≤ nI n
    · rw [if_pos e2, if_pos e2, ok_some, ok_some]
      obtain ⟨j, j1, rfl⟩ := nI_of2 (n := n) (nint (by omega)) e e2
      have f1 : Fr [4801] σ (si σ 4801 0 (nI j)) := (Fr.refl _ _).si _ _ _ rfl
      have g1 : Fr [1001] τ (si τ 1001 0 (nI j)) := (Fr.refl _ _).si _ _ _ rfl
      refine ⟨rfl, ⟨j, by omega, by simp only [si_rd, reduceIte], by simp only [si_rd, reduceIte], fun i hi => ?_⟩, f1, g1⟩
      rw [f1.i 20 rfl, g1.i 1 rfl]; exact h4 i (by omega)
    · rw [if_neg e2, if_neg e2]; exact same
theorem c_clear {σ τ : St} {nt : Nat} (h : RPass σ τ nt) : ok (f_X11_clear σ) (fun a => ok (f_X12_clear τ) (fun c => a.1 = c.1 ∧ RPass a.2 c.2 nt ∧ RFill a.2 c.2 ∧ a.2.1 14404 0 = 0 ∧ Fr [14402, 14405, 14404] σ a.2 ∧ Fr [1085, 1086] τ c.2)) := by
  obtain ⟨n, h1, h2, h3, h4⟩ := h
  unfold f_X11_clear f_X12_clear f_X4_forgetFilled
  rw [bo_some, ok_some, ok_some, h2, h3]
  refine ⟨rfl, ⟨0, by omega, by simp only [si_rd, reduceIte, Nat.reduceEqDiff]; rfl, by simp only [si_rd, reduceIte, Nat.reduceEqDiff]; rfl, fun i hi => by omega⟩, ⟨0, by omega, by simp only [si_rd, reduceIte, Nat.reduceEqDiff]; rfl, by simp only [si_rd, reduceIte, Nat.reduceEqDiff]; rfl, fun i hi => by omega⟩, by simp only [si_rd, reduceIte, Nat.reduceEqDiff], (((Fr.refl _ _).si _ _ _ rfl).si _ _ _ rfl).si _ _ _ rfl, ((Fr.refl _ _).si _ _ _ rfl).si _ _ _ rfl⟩
theorem c_say {σ τ : St} {nt : Nat} {T : Nat → Tv} (rT : RTerms σ τ nt T) (h : RPass σ τ nt) (x : Int32) : ok (f_X11_say x σ) (fun a => ok (f_X12_say x τ) (fun c => a.1 = c.1 ∧ ((a.2 = σ ∧ c.2 = τ) ∨ (RPass a.2 c.2 nt ∧ RFill a.2 c.2 ∧ a.2.1 14404 0 = 0 ∧ Fr [14402, 68, 14405, 14404] σ a.2 ∧ Fr [1085, 57, 1086] τ c.2)))) := by
  obtain ⟨n, h1, h2, h3, h4⟩ := h
  have h40 : nt ≤ 40 := rT.1.1
  have e1 : σ.1 7600 0 = nI nt := rT.2.1.1
  have e2 : τ.1 1049 0 = nI nt := rT.2.2.1
  unfold f_X11_say f_X12_say f_X9_has f_X12_isTerm f_X4_put f_X4_forgetFilled
  rw [bo_some, e1, e2, m_in]
  have same : ∀ r : Int32, ok (some (r, σ)) (fun a => ok (some (r, τ)) (fun c => a.1 = c.1 ∧ ((a.2 = σ ∧ c.2 = τ) ∨ (RPass a.2 c.2 nt ∧ RFill a.2 c.2 ∧ a.2.1 14404 0 = 0 ∧ Fr [14402, 68, 14405, 14404] σ a.2 ∧ Fr [1085, 57, 1086] τ c.2)))) := by
    intro r; rw [ok_some, ok_some]; exact ⟨rfl, Or.inl ⟨rfl, rfl⟩⟩
  rcases ix (x := x) (n := nt) (by omega) with ⟨q, hy⟩ | ⟨t, ht, rfl, k1, k2, k3, k4⟩
  · rw [i00 hy, show zbb 0 = true from rfl, grd_true, bo_some, if_pos rfl]
    rcases q with q | q
    · rw [if_pos q, if_pos rfl]; exact same _
    · by_cases q0 : x < 0
      · rw [if_pos q0, if_pos rfl]; exact same _
      · rw [if_neg q0, if_pos q, if_pos rfl]; exact same _
  rw [if_neg k1, if_neg k2, if_neg one_ne, i10 k4, show zbb 1 = true from rfl, grd_true, bo_some, if_neg one_ne, h2, h3]
  by_cases e12 : n = 12
  · rw [e12, if_neg (show ¬ nI 12 < (12 : Int32) by decide), if_pos (show nI 12 = (12 : Int32) from rfl), bd_some, if_pos rfl]
    exact same _
  · rw [if_pos (show nI n < (12 : Int32) from nI_lt (b := 12) (by omega) (by omega)), if_neg (show ¬ nI n = (12 : Int32) from fun q => e12 ((neq (b := 12) (by omega) (by omega)).mp q)), ib_n (by omega), decide_eq_true (show n < 12 by omega), grd_true, grd_true, ncl (by omega), nI_1]
    rw [bd_some, if_neg one_ne, ok_some, ok_some]
    refine ⟨by simp only [si_rd, reduceIte, Nat.reduceEqDiff], Or.inr ⟨⟨n + 1, by omega, by simp only [si_rd, reduceIte, Nat.reduceEqDiff], by simp only [si_rd, reduceIte, Nat.reduceEqDiff], fun i hi => ?_⟩, ⟨0, by omega, by simp only [si_rd, reduceIte, Nat.reduceEqDiff]; rfl, by simp only [si_rd, reduceIte, Nat.reduceEqDiff]; rfl, fun i hi => by omega⟩, by simp only [si_rd, reduceIte, Nat.reduceEqDiff], ((((Fr.refl _ _).si _ _ _ rfl).si _ _ _ rfl).si _ _ _ rfl).si _ _ _ rfl, (((Fr.refl _ _).si _ _ _ rfl).si _ _ _ rfl).si _ _ _ rfl⟩⟩
    simp only [si_rd, reduceIte, Nat.reduceEqDiff]
    by_cases ei : i = n
    · simp only [if_pos ei]; exact ⟨trivial, t, ht, rfl⟩
    · simp only [if_neg ei]; exact h4 i (by omega)
