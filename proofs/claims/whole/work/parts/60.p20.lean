/-! calls that read a text of names -/
abbrev VNX : List Nat := [4801, 4802, 4803, 4804, 4805, 4806, 4807, 4808, 4809, 4810]
theorem names_eq {σ τ : St} {L : Lv} (h1 : LX 1 σ L) (h2 : LM τ L) (w : Int64) : fndN (σ.2 3) w L.n 0 = fndN (τ.2 4) w L.n 0 :=
  fndN_congr w L.n 0 (fun j _ hj => by rw [(h2.2.1 j (by omega)).1]; exact (h1.2.1 j (by omega)).1)
theorem c_named {N : Nat} (hN : 802 < N) {σ τ : St} {L : Lv} (rt : RTape σ τ) (rl : RList σ τ L) : ok (f_X11_named N σ) (fun a => ok (f_X12_named N τ) (fun c => a.1 = c.1 ∧ RTape a.2 c.2 ∧ Fr VNX σ a.2 ∧ Fr VT τ c.2)) := by
  obtain ⟨n, B, hX, hn, h1, hB⟩ := tape_B rt
  obtain ⟨τ1, m1, hM1, mK1, t1, g1⟩ := m_take (N := N) hN hn h1 hB
  unfold f_X11_named f_X12_named f_X8_rewind
  rw [bo_some, m1, bo_some]
  have f1 : Fr [4802] σ (si σ 4802 0 0) := (Fr.refl _ _).si _ _ _ rfl
  have a1 : (si σ 4802 0 0).1 4802 0 = nI 0 := by simp only [si_rd, reduceIte]; rfl
  have hX1 := hX.fr f1 rfl
  generalize si σ 4802 0 0 = σ1 at *
  obtain ⟨σ2, e2, hK2, f2⟩ := x_next (N := N) (by omega) (Nat.zero_le n) hX1 a1
  rw [e2, bo_some]
  have hX2 := hX1.fr f2 rfl
  have hle := te_le (B := B) (Nat.zero_le n)
  obtain ⟨σ3, e3, hK3, f3⟩ := x_next (N := N) (by omega) hle hX2 hK2.1
  have F3 : Fr VNX σ σ3 := ((f1.wide rfl).trans (f2.wide rfl)).trans (f3.wide rfl)
  unfold f_X11_named_30
  simp only [e3, bo_some]
  have drain : ∀ (x1 t0 : Int32) (w : Int64) (c : Int32 × St), c.2.1 1001 0 = 0 → Fr VT τ c.2 → (x1 = 0 ∧ c.1 = -1 ∨ t0 = 0 ∧ c.1 = -1 ∨ x1 = 1 ∧ t0 = 1 ∧ c.1 = fndN (σ.2 3) w L.n 0) → ok (f_X11_named_61 N x1 w t0 σ3) (fun a => a.1 = c.1 ∧ RTape a.2 c.2 ∧ Fr VNX σ a.2 ∧ Fr VT τ c.2) := by
    intro x1 t0 w c hc gc hx
    unfold f_X11_named_61 f_X8_drain
    rw [bo_some]
    have fd : Fr [4801] σ3 (si σ3 4801 0 0) := (Fr.refl _ _).si _ _ _ rfl
    have rd : (si σ3 4801 0 0).1 4801 0 = 0 := by simp only [si_rd, reduceIte]
    generalize si σ3 4801 0 0 = σ4 at *
    have F4 : Fr VNX σ σ4 := F3.trans (fd.wide rfl)
    by_cases e1 : x1 = 0
    · rw [if_pos e1, ok_some]
      refine ⟨?_, rt_zero rd hc, F4, gc⟩
      rcases hx with h | h | h
      · exact h.2.symm
      · exact h.2.symm
      · rw [e1] at h; exact absurd h.1.symm one_ne
    · rw [if_neg e1]
      by_cases e2 : t0 = 0
      · rw [if_pos e2, ok_some]
        refine ⟨?_, rt_zero rd hc, F4, gc⟩
        rcases hx with h | h | h
        · exact h.2.symm
        · exact h.2.symm
        · rw [e2] at h; exact absurd h.2.1.symm one_ne
      · rw [if_neg e2]
        have hn4 : σ4.1 (1000 + 200 * 1 + 0) 0 = nI L.n := by
          show σ4.1 1200 0 = nI L.n
          rw [F4.i 1200 rfl]; exact rl.2.1.1
        rw [x_find hN rl.1.1 hn4, bo_some, ok_some]
        refine ⟨?_, rt_zero rd hc, F4, gc⟩
        rcases hx with h | h | h
        · exact absurd h.1 e1
        · exact absurd h.1 e2
        · rw [h.2.2]
          show fndN (σ4.2 3) w L.n 0 = _
          rw [(F4 3 rfl).2]
  by_cases e : tk B n 0 = 1
  · rw [if_pos ((knd1 hK2).mpr e), if_pos ((srt_is1 mK1).mpr e)]
    obtain ⟨τ2, m2, mK2, g2⟩ := m_scan hN hle hM1 mK1.2.1
    rw [m2, bo_some]
    have G2 : Fr VT τ τ2 := g1.trans (g2.wide rfl)
    have t2 : τ2.1 1001 0 = 0 := by rw [g2.i 1001 rfl]; exact t1
    obtain ⟨b1, b2, b3, b4⟩ := hK2.2.2.2.1 e
    by_cases e0 : tk B n (te B n 0) = 0
    · rw [if_pos ((knd0 hK3).mpr e0), if_pos ((m_srt mK2).2.mpr e0), show ib 0 2 = true from rfl, grd_true]
      have h3 : τ2.1 3 0 = nI L.n := by rw [G2.i 3 rfl]; exact rl.2.2.1
      rw [h3, mK1.2.2.2.1 e, show (0 : Int32) = nI 0 from rfl, m_signOf hN (by have := rl.1.1; omega), bo_some, b2]
      refine (drain _ _ _ _ t2 G2 (Or.inr (Or.inr ⟨rfl, rfl, ?_⟩))).mono (fun a ha => ok_some.mpr ha)
      rw [(G2 4 rfl).2]
      exact (names_eq rl.2.1 rl.2.2 _).symm
    · rw [if_neg (fun h => e0 ((knd0 hK3).mp h)), if_neg (fun h => e0 ((m_srt mK2).2.mp h))]
      exact (drain _ _ _ (-1, τ2) t2 G2 (Or.inr (Or.inl ⟨rfl, rfl⟩))).mono (fun a ha => ok_some.mpr ha)
  · rw [if_neg (fun h => e ((knd1 hK2).mp h)), if_neg (fun h => e ((srt_is1 mK1).mp h))]
    by_cases e0 : tk B n (te B n 0) = 0
    · rw [if_pos ((knd0 hK3).mpr e0)]
      exact (drain _ _ _ (-1, τ1) t1 g1 (Or.inl ⟨rfl, rfl⟩)).mono (fun a ha => ok_some.mpr ha)
    · rw [if_neg (fun h => e0 ((knd0 hK3).mp h))]
      exact (drain _ _ _ (-1, τ1) t1 g1 (Or.inl ⟨rfl, rfl⟩)).mono (fun a ha => ok_some.mpr ha)
theorem m_write_77 {N m : Nat} (hm : m ≤ 24) {Q : Int32 × St → Prop} {τ0 : St} : ∀ (k fuel i : Nat) (τ : St), m - i = k → k < fuel → i ≤ m → (∀ j, j < i → τ.1 44 j = τ0.1 45 j) → Fr [44] τ0 τ →
    (∀ τ', (∀ j, j < m → τ'.1 44 j = τ0.1 45 j) → Fr [44] τ0 τ' → Q (nI m, si (si (si τ' 1069 0 (nI m)) 1074 0 0) 1082 0 0)) → ok (f_X12_write_77 N fuel (nI m) (nI i) τ) Q := by
  intro k
  induction k with
  | zero =>
    intro fuel i τ hk hf hi h1 h2 kk
    obtain ⟨fuel, rfl⟩ : ∃ f, fuel = f + 1 := ⟨fuel - 1, by omega⟩
    rw [f_X12_write_77, if_pos (nI_le (by omega) (by omega)), ok_some]
    exact kk τ (fun j hj => h1 j (by omega)) h2
  | succ k ih =>
    intro fuel i τ hk hf hi h1 h2 kk
    obtain ⟨fuel, rfl⟩ : ∃ f, fuel = f + 1 := ⟨fuel - 1, by omega⟩
    rw [f_X12_write_77, if_neg (nI_ge (by omega) (by omega)), ib_n (by omega), decide_eq_true (by omega), grd_true, grd_true, ncl (by omega), nI_1, h2.i 45 rfl]
    refine ih fuel (i + 1) _ (by omega) (by omega) (by omega) (fun j hj => ?_) (h2.si _ _ _ rfl) kk
    rw [si_rd, if_pos rfl]
    by_cases e : j = i
    · rw [if_pos e, e]
    · rw [if_neg e]; exact h1 j (by omega)
abbrev VW : List Nat := [4801, 4802, 4803, 4804, 4805, 4806, 4807, 4808, 4809, 4810, 59, 58, 12404, 12411, 9004]
abbrev VWM : List Nat := [1001, 1002, 1003, 1004, 1005, 1006, 1007, 1010, 45, 44, 1069, 1074, 1082]
def WritePost (σ τ : St) (ns : Nat) (a c : Int32 × St) : Prop := a.1 = c.1 ∧ ((a.1 = -1 ∧ Fr [4802, 4803, 4804, 4805, 4806, 4807, 4808, 4809, 4810, 59] σ a.2 ∧ Fr [1003, 1004, 1005, 1006, 1007, 1010, 45] τ c.2) ∨ (∃ m, 1 ≤ m ∧ m ≤ 24 ∧ a.1 = nI m ∧ RRow a.2 c.2 ns ∧ a.2.1 12411 0 = 0 ∧ c.2.1 1074 0 = 0 ∧ c.2.1 1082 0 = 0 ∧ Fr [4802, 4803, 4804, 4805, 4806, 4807, 4808, 4809, 4810, 59, 58, 12404, 12411] σ a.2 ∧ Fr [1003, 1004, 1005, 1006, 1007, 1010, 45, 44, 1069, 1074, 1082] τ c.2))
theorem write_loop {N n : Nat} {B : Nat → Nat} (hN : 802 < N) {σ0 τ0 : St} {L : Lv} (rl : RList σ0 τ0 L) : ∀ (k fx fm p i : Nat) (σ τ : St), 25 - i = k → k < fx → k < fm → i ≤ 24 → p ≤ n → TapeX σ n B → TapeM τ n B → σ.1 4802 0 = nI p → TokM τ n B p → (∀ j, j < i → σ.1 59 j = τ.1 45 j ∧ ∃ s, s < L.n ∧ τ.1 45 j = nI s) → Fr [4802, 4803, 4804, 4805, 4806, 4807, 4808, 4809, 4810, 59] σ0 σ → Fr [1003, 1004, 1005, 1006, 1007, 1010, 45] τ0 τ →
    ok (f_X5_take_2 N fx (nI i) σ) (fun a => ok (f_X12_write_6 N fm (nI i) τ) (fun c => WritePost σ0 τ0 L.n a c)) := by
  have hL40 : L.n ≤ 40 := rl.1.1
  intro k
  induction k with
  | zero => intro fx fm p i σ τ hk _ _ hi; omega
  | succ k ih =>
    intro fx fm p i σ τ hk hfx hfm hi hp hX hM ha mK hd F G
    have hn := hX.1
    obtain ⟨fx, rfl⟩ : ∃ f, fx = f + 1 := ⟨fx - 1, by omega⟩
    obtain ⟨fm, rfl⟩ : ∃ f, fm = f + 1 := ⟨fm - 1, by omega⟩
    rw [f_X5_take_2, f_X12_write_6, if_neg (show ¬ (24 : Int32) < nI i from nI_nlt (a := 24) (by omega) (by omega))]
    obtain ⟨σ1, e1, hK1, f1⟩ := x_next (N := N) (by omega) hp hX ha
    rw [e1, bo_some]
    have F1 := F.trans (f1.wide rfl)
    have hX1 := hX.fr f1 rfl
    have fail : ok (some ((-1 : Int32), σ1)) (fun a => ok (some ((-1 : Int32), τ)) (fun c => WritePost σ0 τ0 L.n a c)) := by
      rw [ok_some, ok_some]
      exact ⟨rfl, Or.inl ⟨rfl, F1, G⟩⟩
    by_cases e0 : tk B n p = 0
    · have e1' : ¬ tk B n p = 1 := by omega
      rw [if_pos ((knd0 hK1).mpr e0), if_neg (fun h => e1' ((srt_is1 mK).mp h)), if_pos ((m_srt mK).2.mpr e0)]
      by_cases hi0 : i = 0
      · subst hi0
        rw [if_pos (show nI 0 = (0 : Int32) from rfl), if_pos (show nI 0 = (0 : Int32) from rfl)]
        exact fail
      · have hne : ¬ nI i = (0 : Int32) := nI_ne0 (by omega) (by omega)
        rw [if_neg hne, if_neg hne]
        unfold f_X5_keepDraft
        have hc : cpb 0 0 (nI i) 24 24 = true := by
          unfold cpb
          rw [decide_eq_true_iff, ncl (by omega)]
          exact ⟨by decide, by decide, nI_pos (by omega), by simpa using hi, by simpa using hi⟩
        rw [hc, grd_true, bd_some, ok_some, ncl (by omega), ← nI_0]
        refine m_write_77 hi (τ0 := τ) i N 0 τ rfl (by omega) (by omega) (fun j hj => by omega) (Fr.refl _ _) (fun τ' y1 y2 => ?_)
        refine ⟨rfl, Or.inr ⟨i, by omega, hi, rfl, ⟨i, hi, ?_, ?_, fun j hj => ?_⟩, ?_, ?_, ?_, ?_, ?_⟩⟩
        · simp only [si_rd, reduceIte, Nat.reduceEqDiff]
        · simp only [si_rd, reduceIte, Nat.reduceEqDiff]
        · have q1 : (si (si (sr σ1 58 (va_cpy (σ1.1 59) (σ1.1 58) 0 0 i)) 12404 0 (nI i)) 12411 0 (nI 0)).1 58 j = σ1.1 59 j := by
            rw [si_rd, if_neg (by decide), si_rd, if_neg (by decide), sr_is, cpy_in hj]
          have q2 : (si (si (si τ' 1069 0 (nI i)) 1074 0 0) 1082 0 0).1 44 j = τ.1 45 j := by
            simp only [si_rd, reduceIte, Nat.reduceEqDiff]; exact y1 j hj
          show (si (si (sr σ1 58 (va_cpy (σ1.1 59) (σ1.1 58) 0 0 i)) 12404 0 (nI i)) 12411 0 (nI 0)).1 58 j = (si (si (si τ' 1069 0 (nI i)) 1074 0 0) 1082 0 0).1 44 j ∧ ∃ s, s < L.n ∧ (si (si (si τ' 1069 0 (nI i)) 1074 0 0) 1082 0 0).1 44 j = nI s
          rw [q1, q2, f1.i 59 rfl]
          exact hd j hj
        · simp only [si_rd, reduceIte, Nat.reduceEqDiff]; rfl
        · simp only [si_rd, reduceIte, Nat.reduceEqDiff]
        · simp only [si_rd, reduceIte, Nat.reduceEqDiff]
        · exact (((F1.wide rfl).sr _ _ rfl).si _ _ _ rfl).si _ _ _ rfl
        · exact ((((G.wide rfl).trans (y2.wide rfl)).si _ _ _ rfl).si _ _ _ rfl).si _ _ _ rfl
    · rw [if_neg (fun h => e0 ((knd0 hK1).mp h))]
      unfold f_X5_take_56
      by_cases e : tk B n p = 1
      · rw [if_pos ((knd1 hK1).mpr e), if_pos ((srt_is1 mK).mpr e), show ib 0 2 = true from rfl, grd_true]
        obtain ⟨b1, b2, b3, b4⟩ := hK1.2.2.2.1 e
        have hn1 : σ1.1 (1000 + 200 * 1 + 0) 0 = nI L.n := by
          show σ1.1 1200 0 = nI L.n
          rw [F1.i 1200 rfl]; exact rl.2.1.1
        have h3 : τ.1 3 0 = nI L.n := by rw [G.i 3 rfl]; exact rl.2.2.1
        rw [x_find hN hL40 hn1, bo_some, h3, mK.2.2.2.1 e, show (0 : Int32) = nI 0 from rfl, m_signOf hN (by omega), bo_some, b2]
        generalize nmf B (tq B n p) (te B n p - tq B n p) = w
        have en : fndN (σ1.2 (8 * 1 + 1 - 6)) w L.n 0 = fndN (τ.2 4) w L.n 0 := by
          show fndN (σ1.2 3) w L.n 0 = _
          rw [(F1 3 rfl).2, (G 4 rfl).2]; exact names_eq rl.2.1 rl.2.2 w
        rw [en]
        have hle := te_le (B := B) hp
        rcases fndN_cases (τ.2 4) w L.n 0 with ⟨q1, _⟩ | ⟨s, _, q2, q3, _⟩
        · rw [q1, if_pos (show (-1 : Int32) < nI 0 by decide), if_pos rfl]
          exact fail
        · rw [q3, if_neg (show ¬ nI s < nI 0 from nI_pos (by omega)), if_neg (nneg s (by omega))]
          by_cases h24 : i = 24
          · subst h24
            rw [if_neg (show ¬ nI 24 < (24 : Int32) by decide), if_pos (show nI 24 = (24 : Int32) from rfl)]
            exact fail
          · rw [if_pos (show nI i < (24 : Int32) from nI_lt (b := 24) (by omega) (by omega)), if_neg (show ¬ nI i = (24 : Int32) from fun h => h24 ((neq (b := 24) (by omega) (by omega)).mp h)), ib_n (by omega), decide_eq_true (by omega), grd_true, grd_true, ncl (by omega), nI_1]
            have fs : Fr [59] σ1 (si σ1 59 i (nI s)) := (Fr.refl _ _).si _ _ _ rfl
            have gs : Fr [45] τ (si τ 45 i (nI s)) := (Fr.refl _ _).si _ _ _ rfl
            obtain ⟨τ2, m2, mK2, g2⟩ := m_scan hN hle (hM.fr gs rfl) (by rw [gs.i 1006 rfl]; exact mK.2.1)
            rw [m2, bo_some]
            refine ih fx fm (te B n p) (i + 1) _ τ2 (by omega) (by omega) (by omega) (by omega) hle (hX1.fr fs rfl) ((hM.fr gs rfl).fr g2 rfl) (by rw [fs.i 4802 rfl]; exact hK1.1) mK2 (fun j hj => ?_) (F1.trans (fs.wide rfl)) ((G.trans (gs.wide rfl)).trans (g2.wide rfl))
            rw [g2.i 45 rfl, si_rd, si_rd, if_pos rfl, if_pos rfl]
            by_cases ej : j = i
            · rw [if_pos ej, if_pos ej]; exact ⟨rfl, s, by omega, rfl⟩
            · rw [if_neg ej, if_neg ej, f1.i 59 rfl]; exact hd j (by omega)
      · rw [if_neg (fun h => e ((knd1 hK1).mp h)), if_neg (fun h => e ((srt_is1 mK).mp h)), if_neg (fun h => e0 ((m_srt mK).2.mp h)), if_pos (by decide)]
        exact fail
theorem c_write {N : Nat} (hN : 802 < N) {σ τ : St} {L : Lv} (rt : RTape σ τ) (rl : RList σ τ L) : ok (f_X11_write N σ) (fun a => ok (f_X12_write N τ) (fun c => a.1 = c.1 ∧ RTape a.2 c.2 ∧ ((Fr [4801, 4802, 4803, 4804, 4805, 4806, 4807, 4808, 4809, 4810, 59] σ a.2 ∧ Fr [1001, 1002, 1003, 1004, 1005, 1006, 1007, 1010, 45] τ c.2) ∨ (RRow a.2 c.2 L.n ∧ a.2.1 12411 0 = 0 ∧ c.2.1 1074 0 = 0 ∧ a.2.1 9004 0 = 0 ∧ c.2.1 1082 0 = 0 ∧ Fr VW σ a.2 ∧ Fr VWM τ c.2)))) := by
  obtain ⟨n, B, hX, hn, h1, hB⟩ := tape_B rt
  obtain ⟨τ1, m1, hM1, mK1, t1, g1⟩ := m_take (N := N) hN hn h1 hB
  unfold f_X11_write f_X12_write f_X8_rewind f_X5_take
  rw [bo_some, m1, bo_some]
  have f1 : Fr [4802] σ (si σ 4802 0 0) := (Fr.refl _ _).si _ _ _ rfl
  have a1 : (si σ 4802 0 0).1 4802 0 = nI 0 := by simp only [si_rd, reduceIte]; rfl
  have hX1 := hX.fr f1 rfl
  generalize si σ 4802 0 0 = σ1 at *
  have rl1 : RList σ1 τ1 L := rl.fr f1 g1 rfl rfl
  obtain ⟨⟨r2, σ2⟩, e2, ⟨q2, τ2⟩, m2, x0, hP⟩ := write_loop hN (σ0 := σ1) (τ0 := τ1) rl1 25 N N 0 0 σ1 τ1 (by omega) (by omega) (by omega) (by omega) (Nat.zero_le n) hX1 hM1 a1 mK1 (fun j hj => by omega) (Fr.refl _ _) (Fr.refl _ _)
  have e2' : f_X5_take_2 N N 0 σ1 = some (r2, σ2) := e2
  have m2' : f_X12_write_6 N N 0 τ1 = some (q2, τ2) := m2
  rw [e2', bd_some, m2']
  have x0 : r2 = q2 := x0
  subst x0
  unfold f_X8_drain f_X3_forget
  rw [bo_some]
  have fd : Fr [4801] σ2 (si σ2 4801 0 0) := (Fr.refl _ _).si _ _ _ rfl
  have rd : (si σ2 4801 0 0).1 4801 0 = 0 := by simp only [si_rd, reduceIte]
  generalize si σ2 4801 0 0 = σ3 at *
  rcases hP with ⟨x1, x2, x3⟩ | ⟨m, y1, y2, y3, y4, y5, y6, y7, y8, y9⟩
  · have x1 : r2 = -1 := x1
    subst x1
    dsimp only at x2 x3
    rw [if_pos (by decide), ok_some, ok_some]
    exact ⟨rfl, rt_zero rd (by rw [x3.i 1001 rfl]; exact t1), Or.inl ⟨((f1.wide rfl).trans (x2.wide rfl)).trans (fd.wide rfl), (g1.wide rfl).trans (x3.wide rfl)⟩⟩
  · have y3 : r2 = nI m := y3
    subst y3
    dsimp only at y4 y5 y6 y7 y8 y9
    rw [if_neg (nI_nle (by omega) (by omega)), bo_some, ok_some, ok_some]
    have fz : Fr [9004] σ3 (si σ3 9004 0 0) := (Fr.refl _ _).si _ _ _ rfl
    refine ⟨rfl, rt_zero (by rw [fz.i 4801 rfl]; exact rd) (by rw [y9.i 1001 rfl]; exact t1), Or.inr ⟨y4.fr (V := [4801, 9004]) (W := []) ((fd.wide rfl).trans (fz.wide rfl)) (Fr.refl _ _) rfl rfl, by rw [fz.i 12411 rfl, fd.i 12411 rfl]; exact y5, y6, by simp only [si_rd, reduceIte], y7, (((f1.wide rfl).trans (y8.wide rfl)).trans (fd.wide rfl)).trans (fz.wide rfl), (g1.wide rfl).trans (y9.wide rfl)⟩⟩
