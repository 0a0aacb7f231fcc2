theorem x_ruleNamed {N n : Nat} {B : Nat → Nat} {σ : St} {p : Nat} (hN : 802 < N) (hX : TapeX σ n B) (hp : p ≤ n) (hK : TokX σ n B p) : ∃ x, f_X6_ruleNamed N σ = some x ∧ ((x = -1 ∧ ¬ ∃ r, r < 4 ∧ tk B n p = 1 ∧ kyv B (tq B n p) (te B n p - tq B n p) = nI (r + 1)) ∨ ∃ r, r < 4 ∧ x = nI r ∧ tk B n p = 1 ∧ kyv B (tq B n p) (te B n p - tq B n p) = nI (r + 1)) := by
  unfold f_X6_ruleNamed
  rw [x_isWord hN (by omega) hX hp hK, bo_some, x_isWord hN (by omega) hX hp hK, bo_some, x_isWord hN (by omega) hX hp hK, bo_some, x_isWord hN (by omega) hX hp hK, bo_some]
  generalize hmd : te B n p - tq B n p = m at *
  have k1 := ky_iff (B := B) (q := tq B n p) (m := m) (w := 1) (by omega)
  have k2 := ky_iff (B := B) (q := tq B n p) (m := m) (w := 2) (by omega)
  have k3 := ky_iff (B := B) (q := tq B n p) (m := m) (w := 3) (by omega)
  have k4 := ky_iff (B := B) (q := tq B n p) (m := m) (w := 4) (by omega)
  by_cases h1 : tk B n p = 1 ∧ Wd (cwd.getD 4 []) B (tq B n p) m = true
  · rw [i10 h1, if_neg one_ne]
    exact ⟨_, rfl, Or.inr ⟨0, by omega, rfl, h1.1, k1.mpr h1.2⟩⟩
  rw [i00 h1, if_pos rfl]
  by_cases h2 : tk B n p = 1 ∧ Wd (cwd.getD 5 []) B (tq B n p) m = true
  · rw [i10 h2, if_neg one_ne]
    exact ⟨_, rfl, Or.inr ⟨1, by omega, rfl, h2.1, k2.mpr h2.2⟩⟩
  rw [i00 h2, if_pos rfl]
  by_cases h3 : tk B n p = 1 ∧ Wd (cwd.getD 6 []) B (tq B n p) m = true
  · rw [i10 h3, if_neg one_ne]
    exact ⟨_, rfl, Or.inr ⟨2, by omega, rfl, h3.1, k3.mpr h3.2⟩⟩
  rw [i00 h3, if_pos rfl]
  by_cases h4 : tk B n p = 1 ∧ Wd (cwd.getD 7 []) B (tq B n p) m = true
  · rw [i10 h4, if_neg one_ne]
    exact ⟨_, rfl, Or.inr ⟨3, by omega, rfl, h4.1, k4.mpr h4.2⟩⟩
  rw [i00 h4, if_pos rfl]
  refine ⟨_, rfl, Or.inl ⟨rfl, ?_⟩⟩
  rintro ⟨r, hr, e, h⟩
  have hr' : r = 0 ∨ r = 1 ∨ r = 2 ∨ r = 3 := by omega
  rcases hr' with rfl | rfl | rfl | rfl
  · exact h1 ⟨e, k1.mp h⟩
  · exact h2 ⟨e, k2.mp h⟩
  · exact h3 ⟨e, k3.mp h⟩
  · exact h4 ⟨e, k4.mp h⟩
theorem rule_lock {N n : Nat} {B : Nat → Nat} {p b : Nat} {L : Lv} {σ τ : St} (hN : 802 < N) (hp : p ≤ n) (hk : tk B n p ≠ 0) (hX : TapeX σ n B) (hM : TapeM τ n B) (hK : TokX σ n B p) (mK : TokM τ n B p) (hL : LOk L) (dx : DX σ L b) (dm : DM τ L b) (hb : b < 16) (rf : RFault σ τ) (hns : ¬ (tk B n p = 1 ∧ Wd (cwd.getD 0 []) B (tq B n p) (te B n p - tq B n p) = true)) :
    ok (f_X6_takeRule 2 N σ) (fun a => ok (f_X12_readClause N τ) (fun c => ClPost n B p a c ∧ Fr VL σ a.2 ∧ Fr VLM τ c.2 ∧ Kp τ c.2)) := by
  have hn := hX.1
  unfold f_X6_takeRule f_X12_readClause
  simp only [Nat.reduceMul, Nat.reduceAdd, Nat.reduceSub]
  have k0 := ky_iff (B := B) (q := tq B n p) (m := te B n p - tq B n p) (w := 0) (by omega)
  have kin : ((0 : Int32) ≤ kyv B (tq B n p) (te B n p - tq B n p) ∧ kyv B (tq B n p) (te B n p - tq B n p) ≤ 4) ↔ ∃ w, 0 ≤ w ∧ w ≤ 4 ∧ kyv B (tq B n p) (te B n p - tq B n p) = nI w := ky_in (B := B) (q := tq B n p) (m := te B n p - tq B n p) 0 4 (by omega) (by omega)
  obtain ⟨x, ex, hx⟩ := x_ruleNamed hN hX hp hK
  rw [ex, bo_some]
  rcases hx with ⟨rfl, hno⟩ | ⟨r, hr, rfl, e1, hky⟩
  · rw [if_neg (by decide)]
    have bad := (cl_bad (N := N) (p := p) (k := 1) hK mK (Fr.refl VL σ) (Fr.refl VLM τ) (Kp.refl τ)).2
    by_cases e : tk B n p = 1
    · rw [if_pos ((srt_is1 mK).mpr e), mK.2.2.2.2.1, if_pos e, m_in, i00, if_pos rfl]
      · exact bad
      · intro h
        obtain ⟨w, _, w2, w3⟩ := kin.mp h
        by_cases hw : w = 0
        · rw [hw] at w3; exact hns ⟨e, k0.mp w3⟩
        · exact hno ⟨w - 1, by omega, e, by rw [w3]; congr 1; omega⟩
    · rw [if_neg (fun h => e ((srt_is1 mK).mp h))]
      exact bad
  · have hbit := r_bits b hb r hr
    have hlim := r_lims r hr
    have e09 : σ.1 1409 0 = nI b := dx.2
    have e21 : τ.1 1021 0 = nI (2 * b) := dm.2.2.2.2.2.2
    rw [if_pos (nI_pos' (by omega)), e09, if_pos ((srt_is1 mK).mpr e1), mK.2.2.2.2.1, if_pos e1, m_in, i10 (kin.mpr ⟨r + 1, by omega, by omega, hky⟩), if_neg one_ne, hky, e21, if_neg (nI_ne0 (by omega) (by omega))]
    by_cases hbt : (nI b >>> (nI r &&& 31)) &&& 1 = (1 : Int32)
    · rw [if_pos hbt, if_pos (hbit.1.mp hbt)]
      exact (cl_bad (N := N) (p := p) (k := 3) hK mK (Fr.refl VL σ) (Fr.refl VLM τ) (Kp.refl τ)).2
    · rw [if_neg hbt, if_neg (fun h => hbt (hbit.1.mpr h)), ncl (a := r) (by omega), hlim.1, hlim.2.1, hbit.2.1, hbit.2.2.1, ib_n (a := r) (by omega), decide_eq_true hr, grd_true, grd_true]
      have go := rule_go (r := r) hN hp hr hk hX hM hK mK hL dx dm hb rf
      rw [ncl (a := r) (by omega), ib_n (a := r) (by omega), decide_eq_true hr] at go
      have hr' : r = 0 ∨ r = 1 ∨ r = 2 ∨ r = 3 := by omega
      unfold f_X12_readClause_119
      rcases hr' with rfl | rfl | rfl | rfl
      · simp only [show (nI (0 + 1) = (2 : Int32)) = False from eq_false (by decide), show (nI (0 + 1) = (3 : Int32)) = False from eq_false (by decide), show (nI (0 + 1) = (1 : Int32)) = True from eq_true rfl, if_true, if_false]
        exact go
      · simp only [show (nI (1 + 1) = (2 : Int32)) = True from eq_true rfl, show (nI (1 + 1) = (3 : Int32)) = False from eq_false (by decide), show (nI (1 + 1) = (1 : Int32)) = False from eq_false (by decide), if_true, if_false]
        exact go
      · simp only [show (nI (2 + 1) = (2 : Int32)) = False from eq_false (by decide), show (nI (2 + 1) = (3 : Int32)) = True from eq_true rfl, show (nI (2 + 1) = (1 : Int32)) = False from eq_false (by decide), if_true, if_false]
        exact go
      · simp only [show (nI (3 + 1) = (2 : Int32)) = False from eq_false (by decide), show (nI (3 + 1) = (3 : Int32)) = False from eq_false (by decide), show (nI (3 + 1) = (1 : Int32)) = False from eq_false (by decide), if_true, if_false]
        exact go
/-- all clauses -/
theorem list_loop {N n : Nat} {B : Nat → Nat} (hN : 802 < N) {Q : Int32 × St → Int32 × St → Prop} {σ0 τ0 : St}
    (kfail : ∀ (σ' τ' : St), RFault σ' τ' → Fr VL σ0 σ' → Fr VLM τ0 τ' → Kp τ0 τ' → Q (-1, σ') (-1, τ'))
    (kend : ∀ (σ' τ' : St) (i : Nat) (L : Lv) (b : Nat), i ≤ 800 → LOk L → DX σ' L b → DM τ' L b → RFault σ' τ' → Fr VL σ0 σ' → Fr VLM τ0 τ' → Kp τ0 τ' → ok (bo (f_X12_takeDraft N τ') (fun σ4 => some (nI i, (si (si (si (si (si (si (si (si σ4 1035 0 0) 1036 0 0) 1069 0 0) 1096 0 0) 1097 0 0) 1074 0 0) 1082 0 0) 1086 0 0)))) (fun c => Q (nI i, σ') c)) :
    ∀ (k fx fm p i : Nat) (σ τ : St) (L : Lv) (b : Nat), n - p = k → k + 1 < fx → k + 1 < fm → i ≤ p → p ≤ n → TapeX σ n B → TapeM τ n B → σ.1 4802 0 = nI p → TokM τ n B p → LOk L → DX σ L b → DM τ L b → b < 16 → Fr VL σ0 σ → Fr VLM τ0 τ → Kp τ0 τ → RFault σ τ →
    ok (f_X6_take_25 2 N fx (nI i) σ) (fun a => ok (f_X12_list_25 N fm (nI i) τ) (fun c => Q a c)) := by
  intro k
  induction k using Nat.strongRecOn with
  | _ k ih =>
  intro fx fm p i σ τ L b hk hfx hfm hip hp hX hM ha mK hL dx dm hb F G kp rf
  have hn := hX.1
  obtain ⟨fx, rfl⟩ : ∃ f, fx = f + 1 := ⟨fx - 1, by omega⟩
  obtain ⟨fm, rfl⟩ : ∃ f, fm = f + 1 := ⟨fm - 1, by omega⟩
  rw [f_X6_take_25, f_X12_list_25, if_neg (show ¬ (800 : Int32) < nI i from nI_nlt (a := 800) (by omega) (by omega))]
  obtain ⟨σ1, e1, hK1, f1⟩ := x_next (N := N) (by omega) hp hX ha
  rw [e1, bo_some]
  have hX1 := hX.fr f1 rfl
  have F1 : Fr VL σ0 σ1 := F.trans (f1.wide rfl)
  have dx1 : DX σ1 L b := by
    have q := f1.at (l := [1400, 11, 12, 13, 14, 15, 16, 17, 18, 1409]) rfl
    unfold DX LX at dx ⊢
    simp only [Nat.reduceMul, Nat.reduceAdd, Nat.reduceSub] at dx ⊢
    rw [(q 1400 (by decide)).1, (q 11 (by decide)).2, (q 12 (by decide)).1, (q 13 (by decide)).1, (q 14 (by decide)).1, (q 15 (by decide)).1, (q 16 (by decide)).1, (q 17 (by decide)).2, (q 18 (by decide)).1, (q 1409 (by decide)).1]
    exact dx
  have rf1 : RFault σ1 τ := rf.fr (V := VN) (W := VM) f1 (Fr.refl _ _) rfl rfl
  by_cases e0 : tk B n p = 0
  · rw [if_pos ((knd0 hK1).mpr e0), if_pos ((m_srt mK).2.mpr e0), ok_some]
    exact kend σ1 τ i L b (by omega) hL dx1 dm rf1 F1 G kp
  · rw [if_neg (fun h => e0 ((knd0 hK1).mp h)), if_neg (fun h => e0 ((m_srt mK).2.mp h)), x_isWord hN (by omega) hX1 hp hK1, bo_some]
    have goal : ∀ X : Option (Int32 × St), ok X (fun a => ok (f_X12_readClause N τ) (fun c => ClPost n B p a c ∧ Fr VL σ1 a.2 ∧ Fr VLM τ c.2 ∧ Kp τ c.2)) → ok (bd X (fun r7_ σ7 => f_X6_take_67 2 N (f_X6_take_25 2 N fx) (nI i) r7_ σ7)) (fun a => ok (bd (f_X12_readClause N τ) (fun r5_ σ5 => if r5_ = 0 then some (-1, σ5) else f_X12_list_25 N fm (nI i + 1) σ5)) (fun c => Q a c)) := by
      rintro X ⟨⟨r2, σ2⟩, e2, ⟨q2, τ2⟩, m2, post, f2, g2, kp2⟩
      rw [e2, bd_some, m2, bd_some]
      dsimp only at f2 g2 kp2
      unfold f_X6_take_67
      rcases post with ⟨x1, x2, x3⟩ | ⟨x1, x2, p', L', b', y1, y2, y3, mK2, hL2, dx2, dm2, hb2, rf2⟩
      · have x1 : r2 = 0 := x1
        have x2 : q2 = 0 := x2
        subst x1; subst x2
        rw [if_pos rfl, if_pos rfl, ok_some, ok_some]
        exact kfail σ2 τ2 x3 (F1.trans f2) (G.trans g2) (kp.trans kp2)
      · have x1 : r2 = 1 := x1
        have x2 : q2 = 1 := x2
        subst x1; subst x2
        rw [if_neg one_ne, if_neg one_ne, nI_1]
        exact ih (n - p') (by omega) fx fm p' (i + 1) σ2 τ2 L' b' rfl (by omega) (by omega) (by omega) y2 (hX1.fr f2 rfl) (hM.fr g2 rfl) y3 mK2 hL2 dx2 dm2 hb2 (F1.trans f2) (G.trans g2) (kp.trans kp2) rf2
    by_cases es : tk B n p = 1 ∧ Wd (cwd.getD 0 []) B (tq B n p) (te B n p - tq B n p) = true
    · rw [i10 es, if_neg one_ne]
      refine goal _ ?_
      have sl := sign_lock hN hp e0 hX1 hM hK1 mK hL dx1 dm hb rf1
      have em : f_X12_readClause N τ = mSign N τ := by
        unfold f_X12_readClause mSign
        have k0 := ky_iff (B := B) (q := tq B n p) (m := te B n p - tq B n p) (w := 0) (by omega)
        have kin : ((0 : Int32) ≤ kyv B (tq B n p) (te B n p - tq B n p) ∧ kyv B (tq B n p) (te B n p - tq B n p) ≤ 4) ↔ ∃ w, 0 ≤ w ∧ w ≤ 4 ∧ kyv B (tq B n p) (te B n p - tq B n p) = nI w := ky_in (B := B) (q := tq B n p) (m := te B n p - tq B n p) 0 4 (by omega) (by omega)
        rw [if_pos ((srt_is1 mK).mpr es.1), mK.2.2.2.2.1, if_pos es.1, m_in, i10 (kin.mpr ⟨0, by omega, by omega, k0.mpr es.2⟩), if_neg one_ne, k0.mpr es.2, if_pos (show nI 0 = (0 : Int32) from rfl), show ib 1 2 = true from rfl, grd_true]
      rw [em]; exact sl
    · rw [i00 es, if_pos rfl]
      exact goal _ (rule_lock hN hp e0 hX1 hM hK1 mK hL dx1 dm hb rf1 es)
