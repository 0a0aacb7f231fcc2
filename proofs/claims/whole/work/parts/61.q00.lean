/-! blocks, the class: a name, an opening -/
abbrev bcN (st bc : Nat) : Nat := if st = 0 then bc + 1 else bc
theorem x_begin {σ : St} {st bc : Nat} (h3 : σ.1 5203 0 = nI st) (h5 : σ.1 5205 0 = nI bc) (hst : st ≤ 4) (hb : bc ≤ 12) : (st = 0 ∧ bc = 12 ∧ ∃ σ', f_X0_beginBlock σ = some (0, σ') ∧ Fr [5205] σ σ') ∨ ((st = 0 → bc < 12) ∧ ∃ σ', f_X0_beginBlock σ = some (1, σ') ∧ σ'.1 5205 0 = nI (bcN st bc) ∧ Fr [5205] σ σ') := by
  unfold f_X0_beginBlock
  rw [h3, h5, nI_1]
  by_cases e : st = 0
  · rw [if_pos (by rw [e]; rfl)]
    by_cases q : bc = 12
    · rw [if_pos (show (12 : Int32) < nI (bc + 1) from nI_lt (a := 12) (by omega) (by omega))]
      exact Or.inl ⟨e, q, _, rfl, (Fr.refl _ _).si _ _ _ rfl⟩
    · rw [if_neg (show ¬ (12 : Int32) < nI (bc + 1) from nI_nlt (a := 12) (by omega) (by omega))]
      exact Or.inr ⟨fun _ => by omega, _, rfl, by rw [si_rd, if_pos rfl, if_pos rfl]; unfold bcN; rw [if_pos e], (Fr.refl _ _).si _ _ _ rfl⟩
  · rw [if_neg (nI_ne0 (by omega) (by omega))]
    exact Or.inr ⟨fun h => absurd h e, _, rfl, by unfold bcN; rw [if_neg e]; exact h5, Fr.refl _ _⟩
/-- a thirteenth BLOCK begins -/
theorem xs_full {N : Nat} (hN : 802 < N) {L : Lv} {σ : St} {n : Nat} {B : Nat → Nat} {p : Nat} {c : List Int32} {d sc i fuel : Nat} (h : CX L σ n B p c 0 d 12 sc) (hi : i ≤ 800) (hk : tk B n p = 1 ∨ (tk B n p = 3 ∧ B (tq B n p) = 40)) : ∃ σ', f_X0_take_27 N (fuel + 1) (nI i) σ = some (0, σ') ∧ Bad σ σ' 4 (tq B n p) := by
  obtain ⟨σ1, e1, k1, c1, f1⟩ := x_tok hN h
  obtain ⟨_, _, _, _, _, q3, q4, q5, _, s4, d4, _⟩ := c1
  obtain ⟨w1, w2⟩ := wh_st q3 s4
  rcases x_begin q3 q5 s4 (by omega) with ⟨_, _, σ2, e2, f2⟩ | ⟨q, _⟩
  · have k2 : TokX σ2 n B p := k1.fr f2 rfl
    obtain ⟨σ3, e3, b3⟩ := x_refuse (k := 4) k2
    refine ⟨σ3, ?_, b3.trans (f1.trans (f2.wide rfl))⟩
    have z : zbb 0 = true := rfl
    rw [f_X0_take_27, if_neg (show ¬ (800 : Int32) < nI i from nI_nlt (a := 800) hi (by omega)), e1, bo_some, if_neg (fun q => by have := (knd0 k1).mp q; omega)]
    unfold f_X0_takeToken
    rcases hk with hk | ⟨hk, hc⟩
    · unfold f_X0_takeName f_X0_takeName_21 f_X0_takeName_37
      rw [if_pos ((knd1 k1).mpr hk), w2, if_neg (by decide), e2, bd_some, if_pos rfl, e3, bd_some, z, grd_true, bd_some, z, grd_true, bd_some, if_pos rfl]
    · obtain ⟨b, g1, g2⟩ := x_goesOn q3 q4 s4 d4 (tok_ch h hk)
      have bt : b = true := g2.mpr (Or.inl ⟨hc, Or.inl rfl⟩)
      unfold f_X0_takeOpening f_X0_takeOpening_15
      rw [if_neg (fun q => by have := (knd1 k1).mp q; omega), if_pos ((knd3 k1).mpr hk), k1.2.2.2.2.2 hk, g1, bo_some, bt, if_neg (show ¬ b2 true = 0 by decide), if_pos (show nI (B (tq B n p)) = (40 : Int32) by rw [hc]; rfl), e2, bd_some, if_pos rfl, e3, bd_some, z, grd_true, bd_some, z, grd_true, bd_some, if_pos rfl]
  · exact absurd (q rfl) (by omega)
theorem xs_open {N : Nat} (hN : 802 < N) {L : Lv} {σ : St} {n : Nat} {B : Nat → Nat} {p : Nat} {c : List Int32} {st d bc sc i fuel : Nat} (h : CX L σ n B p c st d bc sc) (hi : i ≤ 800) (hk : tk B n p = 3) (hc : B (tq B n p) = 40) (hst : st = 0 ∨ st = 1) (hbc : st = 0 → bc < 12) :
    (d = 4 ∧ ∃ σ', f_X0_take_27 N (fuel + 1) (nI i) σ = some (0, σ') ∧ Bad σ σ' 4 (tq B n p)) ∨ (d < 4 ∧ ∃ σ', f_X0_take_27 N (fuel + 1) (nI i) σ = f_X0_take_27 N fuel (nI (i + 1)) σ' ∧ CX L σ' n B (te B n p) (c ++ [-40]) 1 (d + 1) (bcN st bc) sc ∧ Fr VPY σ σ') := by
  obtain ⟨σ1, e1, k1, c1, f1⟩ := x_tok hN h
  obtain ⟨r1, r2, r3, r4, r5, q3, q4, q5, q6, s4, d4, b12, s24⟩ := c1
  obtain ⟨b, g1, g2⟩ := x_goesOn q3 q4 s4 d4 (tok_ch h hk)
  have bt : b = true := g2.mpr (Or.inl ⟨hc, hst⟩)
  rcases x_begin q3 q5 s4 b12 with ⟨q, q', _⟩ | ⟨_, σ2, e2, y5, f2⟩
  · have := hbc q; omega
  have k2 : TokX σ2 n B p := k1.fr f2 rfl
  have z0 : zbb 0 = true := rfl
  have z1 : zbb 1 = true := rfl
  have hd : (bd (f_X0_takeOpening σ1) fun r8_ σ8 => grd (zbb r8_) (some (r8_, σ8))) = (bd (if σ2.1 5204 0 < 4 then bo (f_X0_keep (-(σ2.1 4810 0)) (si (si σ2 5204 0 (σ2.1 5204 0 + 1)) 5203 0 1)) (fun σ4 => some ((1 : Int32), σ4)) else f_X0_takeOpening_15 σ2) fun r8_ σ8 => grd (zbb r8_) (some (r8_, σ8))) := by
    unfold f_X0_takeOpening
    rw [e2, bd_some, if_neg one_ne]
  have e4 : σ2.1 5204 0 = nI d := by rw [f2.i 5204 rfl]; exact q4
  have e10 : σ2.1 4810 0 = nI 40 := by rw [k2.2.2.2.2.2 hk, hc]
  rw [f_X0_take_27, if_neg (show ¬ (800 : Int32) < nI i from nI_nlt (a := 800) hi (by omega)), e1, bo_some, if_neg (fun q => by have := (knd0 k1).mp q; omega)]
  unfold f_X0_takeToken
  rw [if_neg (fun q => by have := (knd1 k1).mp q; omega), if_pos ((knd3 k1).mpr hk), k1.2.2.2.2.2 hk, g1, bo_some, bt, if_neg (show ¬ b2 true = 0 by decide), if_pos (show nI (B (tq B n p)) = (40 : Int32) by rw [hc]; rfl), hd, e4, e10]
  by_cases e : d = 4
  · left
    obtain ⟨σ3, e3, b3⟩ := x_refuse (k := 4) k2
    refine ⟨e, σ3, ?_, b3.trans (f1.trans (f2.wide rfl))⟩
    unfold f_X0_takeOpening_15
    rw [if_neg (show ¬ nI d < (4 : Int32) from nI_nlt (b := 4) (by omega) (by omega)), e3, bd_some, z0, grd_true, bd_some, z0, grd_true, bd_some, if_pos rfl]
  · right
    have f3 : Fr [5203, 5204] σ2 (si (si σ2 5204 0 (nI d + 1)) 5203 0 1) := ((Fr.refl _ _).si _ _ _ rfl).si _ _ _ rfl
    have F3 : Fr [5203, 5204, 5205] σ1 (si (si σ2 5204 0 (nI d + 1)) 5203 0 1) := (f2.wide rfl).trans (f3.wide rfl)
    have w3 : (si (si σ2 5204 0 (nI d + 1)) 5203 0 1).1 5203 0 = nI 1 := by simp only [si_rd, reduceIte, Nat.reduceEqDiff]; rfl
    have w4 : (si (si σ2 5204 0 (nI d + 1)) 5203 0 1).1 5204 0 = nI (d + 1) := by simp only [si_rd, reduceIte, Nat.reduceEqDiff]; exact nI_1 d
    have w5 : (si (si σ2 5204 0 (nI d + 1)) 5203 0 1).1 5205 0 = nI (bcN st bc) := by simp only [si_rd, reduceIte, Nat.reduceEqDiff]; exact y5
    generalize si (si σ2 5204 0 (nI d + 1)) 5203 0 1 = σ3 at *
    obtain ⟨σ4, e5, y1, f4⟩ := x_keepC (σ := σ3) (c := c) ⟨by rw [F3.i 5202 rfl]; exact r5.1, fun j hj => by rw [F3.i 22 rfl]; exact r5.2 j hj⟩ (-nI 40)
    have F : Fr [22, 5202, 5203, 5204, 5205] σ1 σ4 := (F3.wide rfl).trans (f4.wide rfl)
    refine ⟨by omega, σ4, ?_, ⟨r1.fr F rfl, by rw [F.i 4802 rfl]; exact r2, r3, LX1_fr r4 F rfl, y1, by rw [f4.i 5203 rfl]; exact w3, by rw [f4.i 5204 rfl]; exact w4, by rw [f4.i 5205 rfl]; exact w5, by rw [F.i 5206 rfl]; exact q6, by omega, by omega, ?_, s24⟩, f1.trans (F.wide rfl)⟩
    · rw [if_pos (show nI d < (4 : Int32) from nI_lt (b := 4) (by omega) (by omega)), e5, bo_some, bd_some, z1, grd_true, bd_some, if_neg one_ne, nI_1]
    · unfold bcN
      by_cases q : st = 0
      · rw [if_pos q]; have := hbc q; omega
      · rw [if_neg q]; exact b12
theorem xs_name {N : Nat} (hN : 802 < N) {L : Lv} (hL : LOk L) {σ : St} {n : Nat} {B : Nat → Nat} {p : Nat} {c : List Int32} {st d bc sc i fuel : Nat} (h : CX L σ n B p c st d bc sc) (hi : i ≤ 800) (hk : tk B n p = 1) (hst : st = 0 ∨ st = 1 ∨ st = 2) (hbc : st = 0 → bc < 12) :
    (sc = 24 ∧ ∃ σ', f_X0_take_27 N (fuel + 1) (nI i) σ = some (0, σ') ∧ Bad σ σ' 4 (tq B n p)) ∨ (sc < 24 ∧ fndN L.nm (nmf B (tq B n p) (te B n p - tq B n p)) L.n 0 = -1 ∧ ∃ σ', f_X0_take_27 N (fuel + 1) (nI i) σ = some (0, σ') ∧ Bad σ σ' 5 (tq B n p)) ∨ (sc < 24 ∧ ∃ s, s < L.n ∧ fndN L.nm (nmf B (tq B n p) (te B n p - tq B n p)) L.n 0 = nI s ∧ ∃ σ', f_X0_take_27 N (fuel + 1) (nI i) σ = f_X0_take_27 N fuel (nI (i + 1)) σ' ∧ CX L σ' n B (te B n p) (c ++ [nI s]) (if st = 2 then 4 else 3) d (bcN st bc) (sc + 1) ∧ Fr VPY σ σ') := by
  have h40 := hL.1
  obtain ⟨σ1, e1, k1, c1, f1⟩ := x_tok hN h
  obtain ⟨r1, r2, r3, r4, r5, q3, q4, q5, q6, s4, d4, b12, s24⟩ := c1
  obtain ⟨w1, w2⟩ := wh_st q3 s4
  rcases x_begin q3 q5 s4 b12 with ⟨q, q', _⟩ | ⟨_, σ2, e2, y5, f2⟩
  · have := hbc q; omega
  have k2 : TokX σ2 n B p := k1.fr f2 rfl
  have z0 : zbb 0 = true := rfl
  have z1 : zbb 1 = true := rfl
  have hd : f_X0_takeName N σ1 = f_X0_takeName_21 N σ1 := by
    unfold f_X0_takeName
    rw [w2, q3]
    by_cases e : st = 0 ∨ st = 1
    · rw [decide_eq_true e, if_neg (show ¬ b2 true = 0 by decide)]
    · rw [decide_eq_false e, if_pos (show b2 false = 0 from rfl), if_pos (show nI st = (2 : Int32) by rw [show st = 2 by omega]; rfl)]
  have e6 : σ2.1 5206 0 = nI sc := by rw [f2.i 5206 rfl]; exact q6
  have e3 : σ2.1 5203 0 = nI st := by rw [f2.i 5203 rfl]; exact q3
  have lx2 := LX1_fr r4 f2 rfl
  have hn1 : σ2.1 (1000 + 200 * 1 + 0) 0 = nI L.n := lx2.1
  have ew : σ2.2 4806 0 = nmf B (tq B n p) (te B n p - tq B n p) := (k2.2.2.2.1 hk).2.1
  have en : fndN (σ2.2 (8 * 1 + 1 - 6)) (nmf B (tq B n p) (te B n p - tq B n p)) L.n 0 = fndN L.nm (nmf B (tq B n p) (te B n p - tq B n p)) L.n 0 := fndN_congr _ L.n 0 (fun j _ hj => (lx2.2.1 j (by omega)).1)
  rw [f_X0_take_27, if_neg (show ¬ (800 : Int32) < nI i from nI_nlt (a := 800) hi (by omega)), e1, bo_some, if_neg (fun q => by have := (knd0 k1).mp q; omega)]
  unfold f_X0_takeToken
  rw [if_pos ((knd1 k1).mpr hk), hd]
  unfold f_X0_takeName_21 f_X0_takeName_37
  rw [e2, bd_some, if_neg one_ne, e6]
  by_cases e24 : sc = 24
  · left
    obtain ⟨σ3, e5, b3⟩ := x_refuse (k := 4) k2
    refine ⟨e24, σ3, ?_, b3.trans (f1.trans (f2.wide rfl))⟩
    rw [if_neg (show ¬ nI sc < (24 : Int32) from nI_nlt (b := 24) (by omega) (by omega)), e5, bd_some, z0, grd_true, bd_some, z0, grd_true, bd_some, if_pos rfl]
  · right
    rw [if_pos (show nI sc < (24 : Int32) from nI_lt (b := 24) (by omega) (by omega)), ew, x_find hN h40 hn1, bo_some, en]
    rcases fndN_cases L.nm (nmf B (tq B n p) (te B n p - tq B n p)) L.n 0 with ⟨y1, _⟩ | ⟨s, _, y2, y3, _⟩
    · left
      obtain ⟨σ3, e5, b3⟩ := x_refuse (k := 5) k2
      refine ⟨by omega, y1, σ3, ?_, b3.trans (f1.trans (f2.wide rfl))⟩
      rw [y1, if_neg (by decide), e5, bd_some, z0, grd_true, bd_some, z0, grd_true, bd_some, if_pos rfl]
    · right
      have hs : s < L.n := by omega
      refine ⟨by omega, s, hs, y3, ?_⟩
      rw [y3, if_pos (show (0 : Int32) ≤ nI s from nI_le (a := 0) (by omega) (by omega)), e3, nI_1]
      have fin : ∀ (t1 : Int32) (st' : Nat), t1 = nI st' → st' ≤ 4 → ∃ σ', f_X0_takeName_89 N (nI s) t1 (si σ2 5206 0 (nI (sc + 1))) = some (1, σ') ∧ CX L σ' n B (te B n p) (c ++ [nI s]) st' d (bcN st bc) (sc + 1) ∧ Fr VPY σ σ' := by
        intro t1 st' ht hs4
        unfold f_X0_takeName_89
        have F3 : Fr [5203, 5205, 5206] σ1 (si (si σ2 5206 0 (nI (sc + 1))) 5203 0 t1) := (f2.wide rfl).trans (((Fr.refl _ _).si _ _ _ rfl).si _ _ _ rfl)
        have w3 : (si (si σ2 5206 0 (nI (sc + 1))) 5203 0 t1).1 5203 0 = nI st' := by rw [← ht]; simp only [si_rd, reduceIte, Nat.reduceEqDiff]
        have w6 : (si (si σ2 5206 0 (nI (sc + 1))) 5203 0 t1).1 5206 0 = nI (sc + 1) := by simp only [si_rd, reduceIte, Nat.reduceEqDiff]
        have w5 : (si (si σ2 5206 0 (nI (sc + 1))) 5203 0 t1).1 5205 0 = nI (bcN st bc) := by simp only [si_rd, reduceIte, Nat.reduceEqDiff]; exact y5
        generalize si (si σ2 5206 0 (nI (sc + 1))) 5203 0 t1 = σ3 at *
        obtain ⟨σ4, e5, yy, f4⟩ := x_keepC (σ := σ3) (c := c) ⟨by rw [F3.i 5202 rfl]; exact r5.1, fun j hj => by rw [F3.i 22 rfl]; exact r5.2 j hj⟩ (nI s)
        have F : Fr [22, 5202, 5203, 5205, 5206] σ1 σ4 := (F3.wide rfl).trans (f4.wide rfl)
        refine ⟨σ4, by rw [e5, bo_some], ⟨r1.fr F rfl, by rw [F.i 4802 rfl]; exact r2, r3, LX1_fr r4 F rfl, yy, by rw [f4.i 5203 rfl]; exact w3, by rw [F.i 5204 rfl]; exact q4, by rw [f4.i 5205 rfl]; exact w5, by rw [f4.i 5206 rfl]; exact w6, hs4, d4, ?_, by omega⟩, f1.trans (F.wide rfl)⟩
        unfold bcN
        by_cases q : st = 0
        · rw [if_pos q]; have := hbc q; omega
        · rw [if_neg q]; exact b12
      by_cases e2' : st = 2
      · obtain ⟨σ', e5, yy, f5⟩ := fin 4 4 rfl (by omega)
        refine ⟨σ', ?_, by rw [if_pos e2']; exact yy, f5⟩
        rw [if_pos (show nI st = (2 : Int32) by rw [e2']; rfl), e5, bd_some, z1, grd_true, bd_some, if_neg one_ne, nI_1]
      · obtain ⟨σ', e5, yy, f5⟩ := fin 3 3 rfl (by omega)
        refine ⟨σ', ?_, by rw [if_neg e2']; exact yy, f5⟩
        rw [if_neg (show ¬ nI st = (2 : Int32) from fun q => e2' ((neq (b := 2) (by omega) (by omega)).mp q)), e5, bd_some, z1, grd_true, bd_some, if_neg one_ne, nI_1]
