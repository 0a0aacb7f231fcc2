/-! ways -/
theorem wy_le (S : Nat → Nat → Nat → Bool) (nt n : Nat) : ∀ k i, wy S nt n k i ≤ 1000000001 := by
  intro k
  induction k with
  | zero => intro i; unfold wy; split <;> omega
  | succ k ih => intro i; unfold wy; split <;> first | exact ih i | omega
theorem wy_at (S : Nat → Nat → Nat → Bool) (nt n k : Nat) : wy S nt n (k + 1) (n - (k + 1)) = min (sT (fun t => sJ (S t (n - (k + 1))) (wy S nt n k) (k + 1) (n - k)) nt 0) 1000000001 := by
  show (if n - (k + 1) = n - (k + 1) then _ else _) = _
  rw [if_pos rfl]
theorem wy_ne (S : Nat → Nat → Nat → Bool) (nt n k : Nat) {i : Nat} (h : i ≠ n - (k + 1)) : wy S nt n (k + 1) i = wy S nt n k i := by
  show (if i = n - (k + 1) then _ else _) = _
  rw [if_neg h]
theorem lcmp_le {a b : Nat} (ha : a < 9223372036854775808) (hb : b < 9223372036854775808) : (lg_cmp (lN a) (lN b) ≤ 0) ↔ a ≤ b := by
  unfold lg_cmp
  by_cases h : b < a
  · rw [if_pos (show lN a > lN b from (pk_lLT hb ha).mpr h)]
    exact ⟨fun q => absurd q (by decide), fun q => by omega⟩
  · rw [if_neg (show ¬ lN a > lN b from fun q => h ((pk_lLT hb ha).mp q))]
    by_cases e : a = b
    · rw [if_pos (by rw [e])]; exact ⟨fun _ => by omega, fun _ => by decide⟩
    · rw [if_neg (fun q => e ((pk_lEQ ha hb).mp q))]; exact ⟨fun _ => by omega, fun _ => by decide⟩
theorem x_waysBehind {N : Nat} (hN : 802 < N) {σ : St} {n i E : Nat} {b : Nat → Bool} {W : Nat → Nat} (hn : n ≤ 24) (hi : i < n) (hE : E < 33554432) (hs : σ.1 12404 0 = nI n) (hb : ∀ j, i < j → j ≤ n → E.testBit j = b j) (hW : ∀ j, i < j → j ≤ n → σ.2 60 j = lN (W j)) : f_X5_waysBehind N (nI E) (nI i) σ = some (lN (sJ b W (n - i) (i + 1))) := by
  unfold f_X5_waysBehind
  have key : ∀ (k fuel j A : Nat), n + 1 - j = k → k < fuel → i < j → j ≤ n + 1 → f_X5_waysBehind_7 N fuel (nI E) (lN A) (nI j) σ = some (lN (A + sJ b W k j)) := by
    intro k
    induction k with
    | zero =>
      intro fuel j A hk hf hij hj
      obtain ⟨fuel, rfl⟩ : ∃ f, fuel = f + 1 := ⟨fuel - 1, by omega⟩
      rw [f_X5_waysBehind_7, hs, if_pos (nI_lt (by omega) (by omega))]; rfl
    | succ k ih =>
      intro fuel j A hk hf hij hj
      obtain ⟨fuel, rfl⟩ : ∃ f, fuel = f + 1 := ⟨fuel - 1, by omega⟩
      rw [f_X5_waysBehind_7, hs, if_neg (nI_nlt (by omega) (by omega)), show (1 : Int32) = nI 1 from rfl, nbit (by omega) (by omega), nadd, hb j hij (by omega)]
      unfold sJ
      cases hbj : b j with
      | true =>
        rw [if_pos rfl, if_pos rfl, if_pos rfl, ib_n (by omega), decide_eq_true (show j < 25 by omega), grd_true, ncl (by omega), hW j hij (by omega), lN_add, ih fuel (j + 1) _ (by omega) (by omega) (by omega) (by omega), Nat.add_assoc]
      | false =>
        rw [if_neg (by decide), if_neg (by decide), ih fuel (j + 1) _ (by omega) (by omega) (by omega) (by omega), Nat.zero_add]
  rw [nI_1]
  have := key (n - i) N (i + 1) 0 (by omega) (by omega) (by omega) (by omega)
  rw [Nat.zero_add] at this
  exact this
theorem x_countWays {N o : Nat} (hN : 802 < N) (ho : o = 1 ∨ o = 2) {L : Lv} {nt : Nat} {T : Nat → Tv} (hL : LOk L) (hT : TOk nt T) {g : Nat → Nat} {n : Nat} (hn24 : n ≤ 24) (hn0 : 1 ≤ n) {σ0 : St} (lx : LX o σ0 L) (tx : TX σ0 nt T) (hs : σ0.1 12404 0 = nI n) (hg : ∀ i, i < n → g i < L.n ∧ σ0.1 58 i = nI (g i)) : ok (f_X5_countWays o N σ0) (fun a => a.1 = (if wy (fun t => spB L (T t) g) nt n n 0 ≤ 1000000000 then nI (wy (fun t => spB L (T t) g) nt n n 0) else -3) ∧ Fr (60 :: VS) σ0 a.2) := by
  have h40 := hT.1
  unfold f_X5_countWays
  rw [hs, ib_n (by omega), decide_eq_true (show n < 25 by omega), grd_true, ncl (by omega)]
  have e1 : nI n - 1 = nI (n - 1) := nsub (b := 1) hn0
  rw [e1]
  have fv : ∀ {σ : St}, Fr (60 :: VS) σ0 σ → σ.1 12404 0 = nI n := fun f => by rw [f.i 12404 rfl]; exact hs
  -- all TERMS at one place
  have terms : ∀ (k : Nat), k + 1 ≤ n → ∀ (k17 : Int32 → St → Option (Int32 × St)) (Q : Int32 × St → Prop), (∀ σ', (∀ i, n - (k + 1) ≤ i → i ≤ n → σ'.2 60 i = lN (wy (fun t => spB L (T t) g) nt n (k + 1) i)) → Fr (60 :: VS) σ0 σ' → ok (k17 (nI (n - (k + 1)) + (-1)) σ') Q) → ∀ (kt fuel t A : Nat) (σ : St), nt - t = kt → kt < fuel → t ≤ nt → A + sT (fun t => sJ (spB L (T t) g (n - (k + 1))) (wy (fun t => spB L (T t) g) nt n k) (k + 1) (n - k)) kt t = sT (fun t => sJ (spB L (T t) g (n - (k + 1))) (wy (fun t => spB L (T t) g) nt n k) (k + 1) (n - k)) nt 0 → (∀ i, n - k ≤ i → i ≤ n → σ.2 60 i = lN (wy (fun t => spB L (T t) g) nt n k i)) → Fr (60 :: VS) σ0 σ → ok (f_X5_countWays_26 o N k17 fuel (nI (n - (k + 1))) (lN A) (nI t) σ) Q := by
    intro k hk k17 Q kk kt
    induction kt with
    | zero =>
      intro fuel t A σ hkt hf ht hA hW f
      obtain ⟨fuel, rfl⟩ : ∃ f, fuel = f + 1 := ⟨fuel - 1, by omega⟩
      have hA' : A = sT (fun t => sJ (spB L (T t) g (n - (k + 1))) (wy (fun t => spB L (T t) g) nt n k) (k + 1) (n - k)) nt 0 := hA
      have hbd : A ≤ nt * ((k + 1) * 1000000001) := by
        rw [hA']
        exact sT_le nt 0 (fun i _ _ => sJ_le (k + 1) (n - k) (fun j _ _ => wy_le _ nt n k j))
      have hbd2 : nt * ((k + 1) * 1000000001) ≤ 40 * (24 * 1000000001) := Nat.mul_le_mul h40 (Nat.mul_le_mul_right _ (by omega))
      rw [f_X5_countWays_26, f.i 7600 rfl, tx.1, if_pos (nI_le (by omega) (by omega)), ib_n (by omega), decide_eq_true (show n - (k + 1) < 25 by omega), grd_true, ncl (by omega)]
      refine kk _ (fun i h1 h2 => ?_) (f.sl _ _ _ rfl)
      rw [sl_rd, if_pos rfl]
      by_cases ei : i = n - (k + 1)
      · rw [if_pos ei, ei, wy_at, ← hA']
        unfold lmin
        by_cases hc : 1000000001 < A
        · rw [if_pos (show (1000000001 : Int64) < lN A from (pk_lLT (a := 1000000001) (by omega) (by omega)).mpr hc), Nat.min_eq_right (by omega)]; rfl
        · rw [if_neg (show ¬ (1000000001 : Int64) < lN A from fun q => hc ((pk_lLT (a := 1000000001) (by omega) (by omega)).mp q)), Nat.min_eq_left (by omega)]
      · rw [if_neg ei, wy_ne _ _ _ _ ei]; exact hW i (by omega) h2
    | succ kt ih =>
      intro fuel t A σ hkt hf ht hA hW f
      obtain ⟨fuel, rfl⟩ : ∃ f, fuel = f + 1 := ⟨fuel - 1, by omega⟩
      obtain ⟨σ1, l1, sx, f1⟩ := x_look ho (LX_fr ho lx f rfl) (tx.fr f rfl) h40 (show t < nt by omega)
      have F1 : Fr (60 :: VS) σ0 σ1 := f.trans (f1.wide rfl)
      obtain ⟨E, e2, hE, hb⟩ := x_endsFrom (r := 58) (rn := 24) hN sx hL (TOk_t hT (show t < nt by omega)) (g := g) (len := n) (a := n - (k + 1)) hn24 hn24 (by omega) (fun j hj => ⟨(hg j hj).1, by rw [F1.i 58 rfl]; exact (hg j hj).2⟩) (by omega)
      have e3 := x_waysBehind (N := N) hN (σ := σ1) (n := n) (i := n - (k + 1)) (E := E) (b := spB L (T t) g (n - (k + 1))) (W := wy (fun t => spB L (T t) g) nt n k) hn24 (by omega) hE (fv F1) (fun j h1 h2 => Bool.eq_iff_iff.mpr ⟨fun q => ((hb j).mp q).2.2, fun q => (hb j).mpr ⟨h1, h2, q⟩⟩) (fun j h1 h2 => by rw [f1.l 60 rfl]; exact hW j (by omega) h2)
      rw [show n - (n - (k + 1)) = k + 1 by omega, show n - (k + 1) + 1 = n - k by omega] at e3
      rw [f_X5_countWays_26, f.i 7600 rfl, tx.1, if_neg (nI_ge (by omega) (by omega)), l1, bo_some, fv F1, e2, bo_some, e3, bo_some, lN_add, nI_1]
      refine ih fuel (t + 1) _ σ1 (by omega) (by omega) (by omega) ?_ (fun i h1 h2 => by rw [f1.l 60 rfl]; exact hW i h1 h2) F1
      rw [← hA]
      show _ = A + (sJ (spB L (T t) g (n - (k + 1))) (wy (fun t => spB L (T t) g) nt n k) (k + 1) (n - k) + sT _ kt (t + 1))
      rw [Nat.add_assoc]
  have places : ∀ (m fuel : Nat) (σ : St), m ≤ n → m < fuel → (∀ i, m ≤ i → i ≤ n → σ.2 60 i = lN (wy (fun t => spB L (T t) g) nt n (n - m) i)) → Fr (60 :: VS) σ0 σ → ok (f_X5_countWays_17 o N fuel (nI m + (-1)) σ) (fun a => a.1 = (if wy (fun t => spB L (T t) g) nt n n 0 ≤ 1000000000 then nI (wy (fun t => spB L (T t) g) nt n n 0) else -3) ∧ Fr (60 :: VS) σ0 a.2) := by
    intro m
    induction m with
    | zero =>
      intro fuel σ hm hf hW f
      obtain ⟨fuel, rfl⟩ : ∃ f, fuel = f + 1 := ⟨fuel - 1, by omega⟩
      have hw := hW 0 (by omega) (by omega)
      rw [Nat.sub_zero] at hw
      have hle := wy_le (fun t => spB L (T t) g) nt n n 0
      rw [f_X5_countWays_17, if_pos (show nI 0 + (-1) < 0 by decide), show ib 0 25 = true from rfl, grd_true, hw]
      by_cases hc : wy (fun t => spB L (T t) g) nt n n 0 ≤ 1000000000
      · rw [if_pos (show lg_cmp (lN _) (1000000000 : Int64) ≤ 0 from (lcmp_le (b := 1000000000) (by omega) (by omega)).mpr hc), if_pos hc, grd_true, ok_some, lN_i]
        exact ⟨rfl, f⟩
      · rw [if_neg (show ¬ lg_cmp (lN _) (1000000000 : Int64) ≤ 0 from fun q => hc ((lcmp_le (b := 1000000000) (by omega) (by omega)).mp q)), if_neg hc, ok_some]
        exact ⟨rfl, f⟩
    | succ m ih =>
      intro fuel σ hm hf hW f
      obtain ⟨fuel, rfl⟩ : ∃ f, fuel = f + 1 := ⟨fuel - 1, by omega⟩
      have e2 : nI (m + 1) + (-1) = nI m := by rw [← Int32.sub_eq_add_neg]; exact nsub (b := 1) (by omega)
      rw [e2, f_X5_countWays_17, if_neg (nI_pos (by omega)), show m = n - ((n - (m + 1)) + 1) by omega]
      refine terms (n - (m + 1)) (by omega) _ _ (fun σ' y1 y2 => ?_) nt N 0 0 σ (by omega) (by omega) (by omega) (by rw [Nat.zero_add]) (fun i h1 h2 => hW i (by omega) h2) f
      rw [show n - (n - (m + 1) + 1) = m by omega]
      refine ih fuel σ' (by omega) (by omega) (fun i h1 h2 => ?_) y2
      have := y1 i (by omega) h2
      rw [show n - (m + 1) + 1 = n - m by omega] at this
      exact this
  have e2 : nI (n - 1) = nI n + (-1) := by rw [← Int32.sub_eq_add_neg]; exact e1.symm
  rw [e2]
  refine places n N _ (Nat.le_refl _) (by omega) (fun i h1 h2 => ?_) ((Fr.refl _ _).sl _ _ _ rfl)
  have hin : i = n := by omega
  subst hin
  rw [sl_rd, if_pos rfl, if_pos rfl, Nat.sub_self]
  show (1 : Int64) = lN (if i = i then 1 else 0)
  rw [if_pos rfl]; rfl
