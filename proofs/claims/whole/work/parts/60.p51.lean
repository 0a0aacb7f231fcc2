/-! read: all TERMS -/
def CtI (S : Nat → Nat → Nat → Bool) (F : Nat → Nat) (nt n many : Nat) (R u : Nat → Nat) (k : Nat) (σ τ : St) : Prop := R 0 = 1 ∧ (∀ k', k' ≤ k → τ.1 51 k' = nI (R k') ∧ R k' < 33554432 ∧ R k' ≠ 0 ∧ ∀ q, (R k').testBit q = true → q ≤ n ∧ F q = many - k') ∧ (∀ k', k' < k → u k' < nt ∧ σ.1 65 k' = nI (u k') ∧ τ.1 48 k' = nI (u k') ∧ ∀ q, (R (k' + 1)).testBit q = true ↔ ctS S F n (R k') (many - k' - 1) (u k') q)
theorem ct_k {N : Nat} (hN : 802 < N) {S : Nat → Nat → Nat → Bool} {nt n many : Nat} {F : Nat → Nat} (h40 : nt ≤ 40) (hn24 : n ≤ 24) (hm : many ≤ 24) (fw : FwP S nt n F) {σ0 τ0 : St} (en : EnT σ0 S n (fun t i => t < nt ∧ i < n)) (hn : σ0.1 12404 0 = nI n) (hM : σ0.1 12411 0 = nI many) (h76 : σ0.1 7600 0 = nI nt) (bk : BkT σ0 n F 0) (sp : SpS τ0 S nt n) (h69 : τ0.1 1069 0 = nI n) (h49 : τ0.1 1049 0 = nI nt) (c47 : ∀ q, q ≤ n → τ0.1 47 q = nI (gw (F q))) :
    ∀ (c fx fm k : Nat) (σ τ : St) (R u : Nat → Nat), many - k = c → c < fx → c < fm → k ≤ many → Fr [65] σ0 σ → Fr [51, 48] τ0 τ → CtI S F nt n many R u k σ τ →
    ∃ σ' τ' R' u', f_X5_chooseTerms_4 N fx (nI (R k)) (nI k) σ = some σ' ∧ f_X12_read_171 N fm (nI many) (nI k) τ = f_X12_read_339 N N (nI many) (nI many - 1) τ' ∧ CtI S F nt n many R' u' many σ' τ' ∧ Fr [65] σ0 σ' ∧ Fr [51, 48] τ0 τ' := by
  intro c
  induction c with
  | zero =>
    intro fx fm k σ τ R u hc hfx hfm hk f g ci
    obtain ⟨fx, rfl⟩ : ∃ f, fx = f + 1 := ⟨fx - 1, by omega⟩
    obtain ⟨fm, rfl⟩ : ∃ f, fm = f + 1 := ⟨fm - 1, by omega⟩
    have e : k = many := by omega
    subst e
    refine ⟨σ, τ, R, u, ?_, ?_, ci, f, g⟩
    · rw [f_X5_chooseTerms_4, f.i 12411 rfl, hM, if_pos (nI_le (by omega) (by omega))]
    · rw [f_X12_read_171, if_pos (nI_le (by omega) (by omega))]
  | succ c ih =>
    intro fx fm k σ τ R u hc hfx hfm hk f g ci
    obtain ⟨fx, rfl⟩ : ∃ f, fx = f + 1 := ⟨fx - 1, by omega⟩
    obtain ⟨fm, rfl⟩ : ∃ f, fm = f + 1 := ⟨fm - 1, by omega⟩
    have lk : k < many := by omega
    obtain ⟨c0, c1, c2⟩ := ci
    obtain ⟨d1, d2, d3, d4⟩ := c1 k (Nat.le_refl _)
    obtain ⟨B, b1, b2', b3⟩ := bk (many - k - 1) (by omega)
    have em : nI many - nI k - 1 = nI (many - k - 1) := by rw [show (1 : Int32) = nI 1 from rfl, nsub (by omega), nsub (by omega)]
    have f1 : Fr [51, 48] τ (si τ 51 (k + 1) 0) := (Fr.refl _ _).si _ _ _ rfl
    have G1 := g.trans f1
    have ex : ∃ t' q, 0 ≤ t' ∧ t' < nt ∧ ctS S F n (R k) (many - k - 1) t' q := by
      obtain ⟨i, hi⟩ := bit_of_ne d3
      obtain ⟨i1, i2⟩ := d4 i hi
      have hin : i < n := by
        by_cases e : i = n
        · rw [e, fw.1] at i2; omega
        · omega
      have i3 : F i < 1000 := by omega
      obtain ⟨_, _, _, z⟩ := fw.2 i hin
      obtain ⟨t, j, j1, j2, j3, j4, j5⟩ := z i3
      exact ⟨t, j, Nat.zero_le _, j1, j3, by clear z; omega, i, hin, hi, j2, j4⟩
    obtain ⟨σ1, τ1, t, A, e1, e2, e3, e4, e5, e6, e7, e8, e9, e10, e11⟩ := ct_t hN (k := k) h40 hn24 hm lk (fun j hj => fw.bd j hj) d2 b2' b3 (k4 := f_X5_chooseTerms_4 N fx) (k171 := f_X12_read_171 N fm) nt N N 0 σ (si τ 51 (k + 1) 0) rfl (by clear ex; omega) (by clear ex; omega) (Nat.zero_le _) (fun t i h => by rw [f.i 61 rfl]; exact en t i h) (by rw [f.i 12404 rfl]; exact hn) (by rw [f.i 7600 rfl]; exact h76) (fun t i j h1 h2 h3 h4 => by rw [G1.i 50 rfl]; exact sp t i j h1 h2 h3 h4) (by rw [G1.i 1069 rfl]; exact h69) (by rw [G1.i 1049 rfl]; exact h49) (fun q hq => by rw [G1.i 47 rfl]; exact c47 q hq) (by rw [si_rd, if_pos rfl, if_neg (by clear ex; omega)]; exact d1) (by rw [si_rd, if_pos rfl, if_pos rfl]; rfl) ex
    clear ex
    rw [f_X5_chooseTerms_4, f_X12_read_171, f.i 12411 rfl, hM, if_neg (nI_ge lk (by omega)), if_neg (nI_ge lk (by omega)), em, nI_1 k, ib_n (a := many - k - 1) (by omega), decide_eq_true (show many - k - 1 < 25 by omega), ib_n (a := k + 1) (by omega), decide_eq_true (show k + 1 < 25 by omega), grd_true, grd_true, ncl (a := many - k - 1) (by omega), ncl (a := k + 1) (by omega), f.i 63 rfl, b1]
    have e1' : f_X5_chooseTerms_32 N (f_X5_chooseTerms_4 N fx) N (nI (R k)) (nI k) (nI B) 0 0 σ = f_X5_chooseTerms_4 N fx (nI A) (nI (k + 1)) σ1 := e1
    have e2' : f_X12_read_187 N (f_X12_read_171 N fm) N (nI many) (nI k) 0 (si τ 51 (k + 1) 0) = f_X12_read_171 N fm (nI many) (nI (k + 1)) τ1 := e2
    rw [e1', e2']
    have F2 : Fr [65] σ0 σ1 := f.trans (e10.toFr (fun a j h => by rw [h.1]; rfl))
    have G2 : Fr [51, 48] τ0 τ1 := G1.trans (e11.toFr (fun a j h => by
      rcases h with h | h
      · rw [h.1]; rfl
      · rw [h.1]; rfl))
    have hup : nI A = nI (up R (k + 1) A (k + 1)) := by rw [up_is]
    rw [hup]
    refine ih fx fm (k + 1) σ1 τ1 (up R (k + 1) A) (up u k t) (by omega) (by omega) (by omega) (by omega) F2 G2 ⟨by rw [up_ne _ _ (by omega)]; exact c0, fun k' h1 => ?_, fun k' h1 => ?_⟩
    · by_cases e : k' = k + 1
      · rw [e, up_is]
        exact ⟨e6, e7, e8, fun q hq => ⟨((e9 q).mp hq).1, by have := ((e9 q).mp hq).2.1; omega⟩⟩
      · rw [up_ne _ _ e, (e11 51 k' (fun h => h.elim (fun h => e h.2) (fun h => absurd h.1 (by decide)))).1, si_rd, if_pos rfl, if_neg e]
        exact c1 k' (by omega)
    · by_cases e : k' = k
      · rw [e, up_is, up_is, up_ne _ _ (by omega)]
        exact ⟨e3, e4, e5, e9⟩
      · rw [up_ne _ _ e, up_ne _ _ (by omega), up_ne _ _ (by omega), (e10 65 k' (fun h => e h.2)).1, (e11 48 k' (fun h => h.elim (fun h => absurd h.1 (by decide)) (fun h => e h.2))).1, si_rd, if_neg (by decide)]
        exact c2 k' (by omega)
