/-! read: the class's ends -/
def EnT (σ : St) (S : Nat → Nat → Nat → Bool) (n : Nat) (P : Nat → Nat → Prop) : Prop := ∀ t i, P t i → ∃ E, σ.1 61 (t * 24 + i) = nI E ∧ E < 33554432 ∧ ∀ j, E.testBit j = true ↔ (i < j ∧ j ≤ n ∧ S t i j = true)
theorem SPX_61 {σ σ' : St} {L : Lv} {T : Tv} (h : SPX σ 1 L T) (f : Fr [61] σ σ') : SPX σ' 1 L T := by
  obtain ⟨a1, a2, a3, a4, a5, a6, a7, a8⟩ := h
  exact ⟨a1, by rw [f.i 8601 rfl]; exact a2, LX_fr a1 a3 f rfl, by rw [f.i 8602 rfl]; exact a4, by rw [f.l 8603 rfl]; exact a5, by rw [f.l 8604 rfl]; exact a6, by rw [f.i 8605 rfl]; exact a7, by rw [f.i 8606 rfl]; exact a8⟩
theorem x_findEnds {N : Nat} (hN : 802 < N) {L : Lv} (hL : LOk L) {nt n : Nat} {T : Nat → Tv} (hT : TOk nt T) {g : Nat → Nat} (hn24 : n ≤ 24) {σ0 : St} (lx : LX 1 σ0 L) (tx : TX σ0 nt T) (hn : σ0.1 12404 0 = nI n) (hg : ∀ i, i < n → g i < L.n ∧ σ0.1 58 i = nI (g i)) :
    ok (f_X5_findEnds N σ0) (fun σ' => EnT σ' (fun t => spB L (T t) g) n (fun t i => t < nt ∧ i < n) ∧ Fr (61 :: VS) σ0 σ') := by
  have h40 := hT.1
  have rows : ∀ t, t < nt → ∀ (k2 : Int32 → St → Option St) (Q : St → Prop), (∀ σ', EnT σ' (fun t => spB L (T t) g) n (fun t' i => t' < t + 1 ∧ i < n) → Fr (61 :: VS) σ0 σ' → ok (k2 (nI (t + 1)) σ') Q) → ∀ (k fuel i : Nat) (σ : St), n - i = k → k < fuel → i ≤ n → SPX σ 1 L (T t) → EnT σ (fun t => spB L (T t) g) n (fun t' i' => i' < n ∧ (t' < t ∨ (t' = t ∧ i' < i))) → Fr (61 :: VS) σ0 σ → ok (f_X5_findEnds_27 N k2 fuel (nI t) (nI i) σ) Q := by
    intro t ht k2 Q kk k
    induction k with
    | zero =>
      intro fuel i σ hk hf hi sx en f
      obtain ⟨fuel, rfl⟩ : ∃ f, fuel = f + 1 := ⟨fuel - 1, by omega⟩
      rw [f_X5_findEnds_27, f.i 12404 rfl, hn, if_pos (nI_le (by omega) (by omega)), nI_1]
      exact kk σ (fun t' i' h => en t' i' ⟨h.2, by omega⟩) f
    | succ k ih =>
      intro fuel i σ hk hf hi sx en f
      obtain ⟨fuel, rfl⟩ : ∃ f, fuel = f + 1 := ⟨fuel - 1, by omega⟩
      obtain ⟨E, e2, hE, hb⟩ := x_endsFrom (r := 58) (rn := 24) hN sx hL (TOk_t hT ht) (g := g) (len := n) (a := i) hn24 hn24 (by omega) (fun j hj => ⟨(hg j hj).1, by rw [f.i 58 rfl]; exact (hg j hj).2⟩) (by omega)
      have ea : nI t * 24 + nI i = nI (t * 24 + i) := by rw [show (24 : Int32) = nI 24 from rfl, nmul, nadd]
      rw [f_X5_findEnds_27, f.i 12404 rfl, hn, if_neg (nI_ge (by omega) (by omega)), e2, bo_some, ea, ib_n (by omega), decide_eq_true (show t * 24 + i < 960 by omega), grd_true, ncl (by omega), nI_1]
      have f1 : Fr [61] σ (si σ 61 (t * 24 + i) (nI E)) := (Fr.refl _ _).si _ _ _ rfl
      refine ih fuel (i + 1) _ (by omega) (by omega) (by omega) (SPX_61 sx f1) (fun t' i' h => ?_) (f.trans (f1.wide rfl))
      rw [si_rd, if_pos rfl]
      by_cases e : t' * 24 + i' = t * 24 + i
      · have e1 : t' = t := by omega
        have e3 : i' = i := by omega
        rw [if_pos e, e1, e3]
        exact ⟨E, rfl, hE, hb⟩
      · rw [if_neg e]
        exact en t' i' ⟨h.1, by
          rcases h.2 with q | ⟨q1, q2⟩
          · exact Or.inl q
          · refine Or.inr ⟨q1, ?_⟩
            subst q1; omega⟩
  have terms : ∀ (k fuel t : Nat) (σ : St), nt - t = k → k < fuel → t ≤ nt → EnT σ (fun t => spB L (T t) g) n (fun t' i => t' < t ∧ i < n) → Fr (61 :: VS) σ0 σ → ok (f_X5_findEnds_2 N fuel (nI t) σ) (fun σ' => EnT σ' (fun t => spB L (T t) g) n (fun t i => t < nt ∧ i < n) ∧ Fr (61 :: VS) σ0 σ') := by
    intro k
    induction k with
    | zero =>
      intro fuel t σ hk hf ht en f
      obtain ⟨fuel, rfl⟩ : ∃ f, fuel = f + 1 := ⟨fuel - 1, by omega⟩
      rw [f_X5_findEnds_2, f.i 7600 rfl, tx.1, if_pos (nI_le (by omega) (by omega)), ok_some]
      exact ⟨fun t' i h => en t' i ⟨by omega, h.2⟩, f⟩
    | succ k ih =>
      intro fuel t σ hk hf ht en f
      obtain ⟨fuel, rfl⟩ : ∃ f, fuel = f + 1 := ⟨fuel - 1, by omega⟩
      obtain ⟨σ1, l1, sx, f1⟩ := x_look (Or.inl rfl) (LX_fr (Or.inl rfl) lx f rfl) (tx.fr f rfl) h40 (show t < nt by omega)
      rw [f_X5_findEnds_2, f.i 7600 rfl, tx.1, if_neg (nI_ge (by omega) (by omega)), l1, bo_some]
      refine rows t (by omega) _ _ (fun σ' y1 y2 => ih fuel (t + 1) σ' (by omega) (by omega) (by omega) y1 y2) n N 0 σ1 (by omega) (by omega) (by omega) sx (fun t' i' h => ?_) (f.trans (f1.wide rfl))
      rw [f1.i 61 rfl]
      exact en t' i' ⟨by omega, h.1⟩
  unfold f_X5_findEnds
  exact terms nt N 0 σ0 (by omega) (by omega) (by omega) (fun t' i h => absurd h.1 (by omega)) (Fr.refl _ _)
