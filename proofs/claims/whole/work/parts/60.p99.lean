/-! blocks, the class: steps of its automaton -/
def gon (st d ch : Nat) : Prop := (ch = 40 ∧ (st = 0 ∨ st = 1)) ∨ (ch = 41 ∧ (st = 3 ∨ st = 4) ∧ 0 < d) ∨ (ch = 45 ∧ (st = 3 ∨ st = 4) ∧ d = 0) ∨ (ch = 38 ∧ st = 3) ∨ ((ch = 42 ∨ ch = 58) ∧ (st = 3 ∨ st = 4))
theorem x_goesOn {σ : St} {st d ch : Nat} (h3 : σ.1 5203 0 = nI st) (h4 : σ.1 5204 0 = nI d) (hst : st ≤ 4) (hd : d ≤ 4) (hc : ch < 256) : ∃ b, f_X0_goesOn (nI ch) σ = some (b2 b) ∧ (b = true ↔ gon st d ch) := by
  obtain ⟨w1, w2⟩ := wh_st h3 hst
  have nq : ∀ k, k < 256 → (nI ch = nI k ↔ ch = k) := fun k hk => neq (by omega) (by omega)
  unfold f_X0_goesOn
  rw [w1, w2, h3, h4]
  by_cases c38 : ch = 38
  · subst c38
    rw [if_pos (show nI 38 = (38 : Int32) from rfl)]
    by_cases e : st = 3
    · rw [if_pos (by rw [e]; rfl)]; exact ⟨true, rfl, fun _ => Or.inr (Or.inr (Or.inr (Or.inl ⟨rfl, e⟩))), fun _ => rfl⟩
    · rw [if_neg (show ¬ nI st = (3 : Int32) from fun q => e ((neq (b := 3) (by omega) (by omega)).mp q))]; exact ⟨false, rfl, fun q => (nomatch q), fun q => by unfold gon at q; omega⟩
  · rw [if_neg (show ¬ nI ch = (38 : Int32) from fun q => c38 ((nq 38 (by omega)).mp q))]
    by_cases c40 : ch = 40
    · subst c40
      rw [if_pos (show nI 40 = (40 : Int32) from rfl), b2_z, grd_true]
      exact ⟨_, rfl, by rw [decide_eq_true_iff]; unfold gon; omega⟩
    · rw [if_neg (show ¬ nI ch = (40 : Int32) from fun q => c40 ((nq 40 (by omega)).mp q))]
      by_cases c41 : ch = 41
      · subst c41
        rw [if_pos (show nI 41 = (41 : Int32) from rfl)]
        by_cases e : st = 3 ∨ st = 4
        · rw [decide_eq_true e, if_neg (show ¬ b2 true = 0 by decide)]
          by_cases e2 : d = 0
          · rw [if_pos (by rw [e2]; decide)]; exact ⟨false, rfl, fun q => (nomatch q), fun q => by unfold gon at q; omega⟩
          · rw [if_neg (show ¬ nI d ≤ (0 : Int32) from nI_ge (a := 0) (by omega) (by omega))]; exact ⟨true, rfl, fun _ => by unfold gon; omega, fun _ => rfl⟩
        · rw [decide_eq_false e, if_pos (show b2 false = 0 from rfl)]; exact ⟨false, rfl, fun q => (nomatch q), fun q => by unfold gon at q; omega⟩
      · rw [if_neg (show ¬ nI ch = (41 : Int32) from fun q => c41 ((nq 41 (by omega)).mp q))]
        by_cases c42 : ch = 42
        · subst c42
          rw [if_pos (show nI 42 = (42 : Int32) from rfl), b2_z, grd_true]
          exact ⟨_, rfl, by rw [decide_eq_true_iff]; unfold gon; omega⟩
        · rw [if_neg (show ¬ nI ch = (42 : Int32) from fun q => c42 ((nq 42 (by omega)).mp q))]
          by_cases c45 : ch = 45
          · subst c45
            rw [if_pos (show nI 45 = (45 : Int32) from rfl)]
            by_cases e : st = 3 ∨ st = 4
            · rw [decide_eq_true e, if_neg (show ¬ b2 true = 0 by decide)]
              by_cases e2 : d = 0
              · rw [if_pos (by rw [e2]; rfl)]; exact ⟨true, rfl, fun _ => by unfold gon; omega, fun _ => rfl⟩
              · rw [if_neg (nI_ne0 (by omega) (by omega))]; exact ⟨false, rfl, fun q => (nomatch q), fun q => by unfold gon at q; omega⟩
            · rw [decide_eq_false e, if_pos (show b2 false = 0 from rfl)]; exact ⟨false, rfl, fun q => (nomatch q), fun q => by unfold gon at q; omega⟩
          · rw [if_neg (show ¬ nI ch = (45 : Int32) from fun q => c45 ((nq 45 (by omega)).mp q))]
            by_cases c58 : ch = 58
            · subst c58
              rw [if_pos (show nI 58 = (58 : Int32) from rfl), b2_z, grd_true]
              exact ⟨_, rfl, by rw [decide_eq_true_iff]; unfold gon; omega⟩
            · rw [if_neg (show ¬ nI ch = (58 : Int32) from fun q => c58 ((nq 58 (by omega)).mp q))]
              exact ⟨false, rfl, fun q => (nomatch q), fun q => by unfold gon at q; omega⟩
theorem tok_ch {L : Lv} {σ : St} {n : Nat} {B : Nat → Nat} {p : Nat} {c : List Int32} {st d bc sc : Nat} (h : CX L σ n B p c st d bc sc) (k : tk B n p = 3) : B (tq B n p) < 256 := by
  have hq : tq B n p < n := by
    have h1 := te_gt (B := B) (n := n) (p := p) (by omega)
    have h2 := te_le (B := B) h.2.2.1
    omega
  exact (h.1.2.2 _ hq).1
/-- the next TOKEN read -/
theorem x_tok {N : Nat} (hN : 802 < N) {L : Lv} {σ : St} {n : Nat} {B : Nat → Nat} {p : Nat} {c : List Int32} {st d bc sc : Nat} (h : CX L σ n B p c st d bc sc) : ∃ σ1, f_X8_next N σ = some σ1 ∧ TokX σ1 n B p ∧ CX L σ1 n B (te B n p) c st d bc sc ∧ Fr VPY σ σ1 := by
  obtain ⟨σ1, e1, k1, f1⟩ := x_next (N := N) (by omega) h.2.2.1 h.1 h.2.1
  obtain ⟨h1, h2, h3, h4, h5, h6, h7, h8, h9, h10⟩ := h
  refine ⟨σ1, e1, k1, ⟨h1.fr f1 rfl, k1.1, te_le h3, LX1_fr h4 f1 rfl, ⟨by rw [f1.i 5202 rfl]; exact h5.1, fun j hj => by rw [f1.i 22 rfl]; exact h5.2 j hj⟩, by rw [f1.i 5203 rfl]; exact h6, by rw [f1.i 5204 rfl]; exact h7, by rw [f1.i 5205 rfl]; exact h8, by rw [f1.i 5206 rfl]; exact h9, h10⟩, f1.wide rfl⟩
theorem xs_bad {N : Nat} (hN : 802 < N) {L : Lv} {σ : St} {n : Nat} {B : Nat → Nat} {p : Nat} {c : List Int32} {st d bc sc i fuel : Nat} (h : CX L σ n B p c st d bc sc) (hi : i ≤ 800) (ha : ¬ acp st d (tk B n p) (B (tq B n p))) : ∃ σ', f_X0_take_27 N (fuel + 1) (nI i) σ = some (0, σ') ∧ Bad σ σ' 1 (tq B n p) := by
  obtain ⟨σ1, e1, k1, c1, f1⟩ := x_tok hN h
  obtain ⟨_, _, _, _, _, q3, q4, _, _, s4, d4, _⟩ := c1
  obtain ⟨σ2, e2, b2x⟩ := x_refuse (k := 1) k1
  refine ⟨σ2, ?_, b2x.trans f1⟩
  rw [f_X0_take_27, if_neg (show ¬ (800 : Int32) < nI i from nI_nlt (a := 800) hi (by omega)), e1, bo_some]
  unfold f_X0_takeToken f_X0_takeToken_33 f_X0_take_59
  obtain ⟨w1, w2⟩ := wh_st q3 s4
  by_cases k0 : tk B n p = 0
  · rw [if_pos ((knd0 k1).mpr k0), w1, e2, bd_some, if_pos rfl]
    by_cases e : st = 3 ∨ st = 4
    · rw [decide_eq_true e, if_neg (show ¬ b2 true = 0 by decide), q4, if_neg (nI_ne0 (by unfold acp at ha; omega) (by omega))]
    · rw [decide_eq_false e, if_pos (show b2 false = 0 from rfl)]
  · rw [if_neg (fun q => k0 ((knd0 k1).mp q))]
    have z : zbb 0 = true := rfl
    by_cases k1' : tk B n p = 1
    · have e : ¬ (st = 0 ∨ st = 1) := by unfold acp at ha; omega
      unfold f_X0_takeName
      rw [if_pos ((knd1 k1).mpr k1'), w2, decide_eq_false e, if_pos (show b2 false = 0 from rfl), q3, if_neg (show ¬ nI st = (2 : Int32) from fun q => by have := (neq (b := 2) (by omega) (by omega)).mp q; unfold acp at ha; omega), e2, bd_some, z, grd_true, bd_some, z, grd_true, bd_some, if_pos rfl]
    · rw [if_neg (fun q => k1' ((knd1 k1).mp q))]
      by_cases k3 : tk B n p = 3
      · obtain ⟨b, g1, g2⟩ := x_goesOn q3 q4 s4 d4 (tok_ch h k3)
        have bf : b = false := by
          cases b with
          | false => rfl
          | true => exact absurd (Or.inr (Or.inl ⟨k3, g2.mp rfl⟩)) ha
        rw [if_pos ((knd3 k1).mpr k3), k1.2.2.2.2.2 k3, g1, bo_some, bf, if_pos (show b2 false = 0 from rfl), e2, bd_some, z, grd_true, bd_some, if_pos rfl]
      · rw [if_neg (fun q => k3 ((knd3 k1).mp q)), e2, bd_some, z, grd_true, bd_some, if_pos rfl]
theorem xs_end {N : Nat} (hN : 802 < N) {L : Lv} {σ : St} {n : Nat} {B : Nat → Nat} {p : Nat} {c : List Int32} {st bc sc i fuel : Nat} (h : CX L σ n B p c st 0 bc sc) (hi : i ≤ 800) (hk : tk B n p = 0) (hst : st = 3 ∨ st = 4) : ∃ σ', f_X0_take_27 N (fuel + 1) (nI i) σ = some (1, σ') ∧ CX L σ' n B (te B n p) c st 0 bc sc ∧ Fr VN σ σ' := by
  obtain ⟨σ1, e1, k1, f1⟩ := x_next (N := N) (by omega) h.2.2.1 h.1 h.2.1
  obtain ⟨σ1', e1', _, c1, _⟩ := x_tok hN h
  have es : σ1 = σ1' := by rw [e1] at e1'; exact Option.some.inj e1'
  subst es
  refine ⟨σ1, ?_, c1, f1⟩
  obtain ⟨_, _, _, _, _, q3, q4, _, _, s4, _⟩ := c1
  obtain ⟨w1, w2⟩ := wh_st q3 s4
  rw [f_X0_take_27, if_neg (show ¬ (800 : Int32) < nI i from nI_nlt (a := 800) hi (by omega)), e1, bo_some, if_pos ((knd0 k1).mpr hk), w1, decide_eq_true hst, if_neg (show ¬ b2 true = 0 by decide), q4, if_pos (show nI 0 = (0 : Int32) from rfl)]
/-- a mark that goes on, but for ( -/
theorem xs_mark {N : Nat} (hN : 802 < N) {L : Lv} {σ : St} {n : Nat} {B : Nat → Nat} {p : Nat} {c : List Int32} {st d bc sc i fuel st' d' : Nat} (h : CX L σ n B p c st d bc sc) (hi : i ≤ 800) (hk : tk B n p = 3) (hg : gon st d (B (tq B n p))) (h40 : B (tq B n p) ≠ 40)
    (hs : (B (tq B n p) = 41 ∧ st' = 4 ∧ d' + 1 = d) ∨ (B (tq B n p) = 45 ∧ st' = 0 ∧ d' = d) ∨ (B (tq B n p) = 38 ∧ st' = 2 ∧ d' = d) ∨ ((B (tq B n p) = 42 ∨ B (tq B n p) = 58) ∧ st' = 1 ∧ d' = d)) :
    ∃ σ', f_X0_take_27 N (fuel + 1) (nI i) σ = f_X0_take_27 N fuel (nI (i + 1)) σ' ∧ CX L σ' n B (te B n p) (c ++ [-nI (B (tq B n p))]) st' d' bc sc ∧ Fr VPY σ σ' := by
  obtain ⟨σ1, e1, k1, c1, f1⟩ := x_tok hN h
  obtain ⟨r1, r2, r3, r4, r5, q3, q4, q5, q6, s4, d4, b12, s24⟩ := c1
  have hc := tok_ch h hk
  obtain ⟨b, g1, g2⟩ := x_goesOn q3 q4 s4 d4 hc
  have bt : b = true := g2.mpr hg
  have z : zbb 1 = true := rfl
  have nq : ∀ k, k < 256 → (nI (B (tq B n p)) = nI k ↔ B (tq B n p) = k) := fun k hk => neq (by omega) (by omega)
  have fin : ∀ σ2 : St, Fr [5203, 5204] σ1 σ2 → σ2.1 5203 0 = nI st' → σ2.1 5204 0 = nI d' → ∃ σ', bd (bo (f_X0_keep (-nI (B (tq B n p))) σ2) (fun σ4 => some ((1 : Int32), σ4))) (fun r6_ σ6 => grd (zbb r6_) (some (r6_, σ6))) = some (1, σ') ∧ CX L σ' n B (te B n p) (c ++ [-nI (B (tq B n p))]) st' d' bc sc ∧ Fr VPY σ σ' := by
    intro σ2 f2 h3 h4
    obtain ⟨σ3, e3, y1, f3⟩ := x_keepC (σ := σ2) (c := c) ⟨by rw [f2.i 5202 rfl]; exact r5.1, fun j hj => by rw [f2.i 22 rfl]; exact r5.2 j hj⟩ (-nI (B (tq B n p)))
    have F : Fr [22, 5202, 5203, 5204] σ1 σ3 := (f2.wide rfl).trans (f3.wide rfl)
    refine ⟨σ3, by rw [e3, bo_some, bd_some, z, grd_true], ⟨r1.fr F rfl, by rw [F.i 4802 rfl]; exact r2, r3, LX1_fr r4 F rfl, y1, by rw [f3.i 5203 rfl]; exact h3, by rw [f3.i 5204 rfl]; exact h4, by rw [F.i 5205 rfl]; exact q5, by rw [F.i 5206 rfl]; exact q6, by omega, by omega, b12, s24⟩, f1.trans (F.wide rfl)⟩
  rw [f_X0_take_27, if_neg (show ¬ (800 : Int32) < nI i from nI_nlt (a := 800) hi (by omega)), e1, bo_some, if_neg (fun q => by have := (knd0 k1).mp q; omega)]
  unfold f_X0_takeToken
  rw [if_neg (fun q => by have := (knd1 k1).mp q; omega), if_pos ((knd3 k1).mpr hk), k1.2.2.2.2.2 hk, g1, bo_some, bt, if_neg (show ¬ b2 true = 0 by decide), if_neg (show ¬ nI (B (tq B n p)) = (40 : Int32) from fun q => h40 ((nq 40 (by omega)).mp q))]
  unfold f_X0_takeOther f_X0_takeOther_50 f_X0_takeOther_53
  rcases hs with ⟨a1, a2, a3⟩ | ⟨a1, a2, a3⟩ | ⟨a1, a2, a3⟩ | ⟨a1, a2, a3⟩
  · obtain ⟨σ', e3, y1, y2⟩ := fin (si (si σ1 5204 0 (nI d - 1)) 5203 0 4) (((Fr.refl _ _).si _ _ _ rfl).si _ _ _ rfl) (by rw [a2]; simp only [si_rd, reduceIte, Nat.reduceEqDiff]; rfl) (by simp only [si_rd, reduceIte, Nat.reduceEqDiff]; rw [show (1 : Int32) = nI 1 from rfl, nsub (by omega)]; congr 1; omega)
    refine ⟨σ', ?_, y1, y2⟩
    rw [q4, if_pos (show nI (B (tq B n p)) = (41 : Int32) by rw [a1]; rfl), e3, bd_some, if_neg one_ne, nI_1]
  · obtain ⟨σ', e3, y1, y2⟩ := fin (si σ1 5203 0 0) ((Fr.refl _ _).si _ _ _ rfl) (by rw [a2]; simp only [si_rd, reduceIte, Nat.reduceEqDiff]; rfl) (by rw [si_rd, if_neg (by decide), a3]; exact q4)
    refine ⟨σ', ?_, y1, y2⟩
    rw [if_neg (show ¬ nI (B (tq B n p)) = (41 : Int32) from fun q => by have := (nq 41 (by omega)).mp q; omega), if_pos (show nI (B (tq B n p)) = (45 : Int32) by rw [a1]; rfl), e3, bd_some, if_neg one_ne, nI_1]
  · obtain ⟨σ', e3, y1, y2⟩ := fin (si σ1 5203 0 2) ((Fr.refl _ _).si _ _ _ rfl) (by rw [a2]; simp only [si_rd, reduceIte, Nat.reduceEqDiff]; rfl) (by rw [si_rd, if_neg (by decide), a3]; exact q4)
    refine ⟨σ', ?_, y1, y2⟩
    rw [if_neg (show ¬ nI (B (tq B n p)) = (41 : Int32) from fun q => by have := (nq 41 (by omega)).mp q; omega), if_neg (show ¬ nI (B (tq B n p)) = (45 : Int32) from fun q => by have := (nq 45 (by omega)).mp q; omega), if_pos (show nI (B (tq B n p)) = (38 : Int32) by rw [a1]; rfl), e3, bd_some, if_neg one_ne, nI_1]
  · obtain ⟨σ', e3, y1, y2⟩ := fin (si σ1 5203 0 1) ((Fr.refl _ _).si _ _ _ rfl) (by rw [a2]; simp only [si_rd, reduceIte, Nat.reduceEqDiff]; rfl) (by rw [si_rd, if_neg (by decide), a3]; exact q4)
    refine ⟨σ', ?_, y1, y2⟩
    rw [if_neg (show ¬ nI (B (tq B n p)) = (41 : Int32) from fun q => by have := (nq 41 (by omega)).mp q; omega), if_neg (show ¬ nI (B (tq B n p)) = (45 : Int32) from fun q => by have := (nq 45 (by omega)).mp q; omega), if_neg (show ¬ nI (B (tq B n p)) = (38 : Int32) from fun q => by have := (nq 38 (by omega)).mp q; omega), e3, bd_some, if_neg one_ne, nI_1]
