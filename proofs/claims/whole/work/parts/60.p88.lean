/-! fill: PAINT for each number of BLOCKS -/
theorem sps_mem {L : Lv} (hL : LOk L) {T : Tv} (hT : TvOk T) {l : List Nat} (h : l ∈ sps L T) : 1 ≤ l.length ∧ l.length ≤ 9 ∧ GL L l := by
  unfold sps at h
  obtain ⟨b, hb, hl⟩ := List.mem_flatMap.mp h
  have bb : 1 ≤ b.length ∧ b.length ≤ 8 ∧ ∀ s, s ∈ b → s < L.n := by
    unfold bod at hb
    rcases List.mem_append.mp hb with hb | hb
    · unfold idb at hb
      obtain ⟨s, hs, hb⟩ := List.mem_flatMap.mp hb
      have s1 := List.mem_range.mp (List.mem_filter.mp hs).1
      rcases List.mem_cons.mp hb with e | e
      · rw [e]; exact ⟨by show 1 ≤ 1; omega, by show 1 ≤ 8; omega, fun x hx => by rw [List.mem_singleton.mp hx]; exact s1⟩
      · obtain ⟨o, ho, e⟩ := List.mem_map.mp e
        have o1 := List.mem_range.mp (List.mem_filter.mp ho).1
        rw [← e]
        refine ⟨by show 1 ≤ 2; omega, by show 2 ≤ 8; omega, fun x hx => ?_⟩
        rcases List.mem_cons.mp hx with e | e
        · rw [e]; exact s1
        · rw [List.mem_singleton.mp e]; exact o1
    · have c := cv_len hL hT b 0 1 0 Rch_1 hb
      refine ⟨?_, by omega, c.2.1⟩
      cases b with
      | nil =>
        rcases (cv_mem hL hT Rch_1 []).mp hb with ⟨_, q⟩ | ⟨s, l', q, _⟩
        · unfold isCov at q
          have := (decide_eq_true_iff.mp q).1
          have := hT.1
          omega
        · cases q
      | cons x b => rw [List.length_cons]; omega
  unfold kds at hl
  by_cases hk : T.kd = 0
  · rw [if_pos hk] at hl
    rw [List.mem_singleton.mp hl]
    exact ⟨bb.1, by omega, by omega, bb.2.2⟩
  · rw [if_neg hk] at hl
    obtain ⟨k, hk1, e⟩ := List.mem_map.mp hl
    have k1 := List.mem_range.mp (List.mem_filter.mp hk1).1
    rw [← e]
    have el : (b ++ [k]).length = b.length + 1 := by rw [List.length_append, List.length_singleton]
    exact ⟨by omega, by omega, by omega, GL_app bb.2.2 (fun x hx => by rw [List.mem_singleton.mp hx]; exact k1)⟩
def SB (L : Lv) (T : Tv) (b : Nat) (l : List Nat) : Prop := l ∈ sps L T ∧ Bk L l b
def WOk (L : Lv) (T : Tv) (w b : Nat) : Prop := (w = 0 ∧ ∀ l, ¬ SB L T b l) ∨ (∃ l, SB L T b l ∧ w = pnt L l ∧ ∀ l', SB L T b l' → kle L l l')
theorem WOk_uni {L : Lv} (hL : LOk L) {T : Tv} (hT : TvOk T) {w w' b : Nat} (h : WOk L T w b) (k : WOk L T w' b) : w = w' := by
  rcases h with ⟨h1, h2⟩ | ⟨l, h1, h2, h3⟩ <;> rcases k with ⟨k1, k2⟩ | ⟨l', k1, k2, k3⟩
  · omega
  · exact absurd k1 (h2 l')
  · exact absurd h1 (k2 l)
  · have e := kle_anti hL (sps_mem hL hT h1.1).2.2 (sps_mem hL hT k1.1).2.2 (h3 l' k1) (k3 l h1)
    rw [h2, k2, e]
theorem WOk_le {L : Lv} (hL : LOk L) {T : Tv} (hT : TvOk T) {w b : Nat} (h : WOk L T w b) : w ≤ 36000 := by
  rcases h with ⟨h1, _⟩ | ⟨l, h1, h2, _⟩
  · omega
  · have := sps_mem hL hT h1.1
    have := pnt_le hL this.2.2.2
    omega
def W51 (σ : St) (n : Nat) (u : Nat → Nat) (W : Nat → Nat → Nat) : Prop := ∀ i, i < n → ∀ b, b < 13 → (σ.1 51 (u i * 13 + b) = 2147483647 ∧ W i b = 0) ∨ (∃ c, c < 16 ∧ W i b ≠ 0 ∧ σ.1 51 (u i * 13 + b) = nI (W i b * 16 + c))
theorem W51_of {L : Lv} (hL : LOk L) {nt n : Nat} {T : Nat → Tv} (hT : TOk nt T) {u : Nat → Nat} (hu : ∀ i, i < n → u i < nt) {σ : St} (h : ∀ i, i < n → SlotX σ (u i) L (T (u i))) : ∃ W, W51 σ n u W ∧ (∀ i b, W i b ≤ 36000) ∧ ∀ i, i < n → ∀ b, b < 13 → WOk L (T (u i)) (W i b) b := by
  have one : ∀ i b, ∃ w, w ≤ 36000 ∧ (i < n → b < 13 → ((σ.1 51 (u i * 13 + b) = 2147483647 ∧ w = 0) ∨ (∃ c, c < 16 ∧ w ≠ 0 ∧ σ.1 51 (u i * 13 + b) = nI (w * 16 + c))) ∧ WOk L (T (u i)) w b) := by
    intro i b
    by_cases q : i < n ∧ b < 13
    · rcases h i q.1 b q.2 with ⟨h1, h2⟩ | ⟨l, h1, h2, h3, h4, h5⟩
      · exact ⟨0, by omega, fun _ _ => ⟨Or.inl ⟨h1, rfl⟩, Or.inl ⟨rfl, h2⟩⟩⟩
      · have m := sps_mem hL (TOk_t hT (hu i q.1)) h1.1
        have pl := pnt_le hL m.2.2.2
        have pp := pnt_pos hL m.2.2 m.1
        exact ⟨pnt L l, by omega, fun _ _ => ⟨Or.inr ⟨l.length, by omega, by omega, by rw [← cst_eq]; exact h3⟩, Or.inr ⟨l, h1, rfl, h5⟩⟩⟩
    · exact ⟨0, by omega, fun h1 h2 => absurd ⟨h1, h2⟩ q⟩
  refine ⟨fun i b => Classical.choose (one i b), fun i hi b hb => ((Classical.choose_spec (one i b)).2 hi hb).1, fun i b => (Classical.choose_spec (one i b)).1, fun i hi b hb => ((Classical.choose_spec (one i b)).2 hi hb).2⟩
theorem W58_of {L : Lv} (hL : LOk L) {nt n : Nat} {T : Nat → Tv} (hT : TOk nt T) {u : Nat → Nat} (hu : ∀ i, i < n → u i < nt) {τ : St} (h : ∀ i, i < n → FitRow τ L (T (u i)) i) : ∃ W, W58 τ n W ∧ (∀ i b, W i b ≤ 36000) ∧ ∀ i, i < n → ∀ b, b < 13 → WOk L (T (u i)) (W i b) b := by
  have one : ∀ i b, ∃ w, w ≤ 36000 ∧ (i < n → b < 13 → τ.1 58 (13 * i + b) = nI w ∧ WOk L (T (u i)) w b) := by
    intro i b
    by_cases q : i < n ∧ b < 13
    · rcases h i q.1 b q.2 with ⟨h1, h2⟩ | ⟨l, h1, h2, h3, h4, h5, h6, h7⟩
      · exact ⟨0, by omega, fun _ _ => ⟨h1, Or.inl ⟨rfl, h2⟩⟩⟩
      · have pl := pnt_le hL h2.2
        have := h2.1
        exact ⟨pnt L l, by omega, fun _ _ => ⟨h4, Or.inr ⟨l, h1, rfl, h7⟩⟩⟩
    · exact ⟨0, by omega, fun h1 h2 => absurd ⟨h1, h2⟩ q⟩
  refine ⟨fun i b => Classical.choose (one i b), fun i hi b hb => ((Classical.choose_spec (one i b)).2 hi hb).1, fun i b => (Classical.choose_spec (one i b)).1, fun i hi b hb => ((Classical.choose_spec (one i b)).2 hi hb).2⟩
/-! fill, the class: the plan -/
def gx (v : Nat) : Nat := if v = 1000000000 then 2147483647 else v
theorem gx_is (v : Nat) (h : v = 1000000000) : gx v = 2147483647 := if_pos h
theorem gx_no (v : Nat) (h : v ≠ 1000000000) : gx v = v := if_neg h
def pw (W rest : Nat → Nat) (m b : Nat) : Nat := if W b ≠ 0 ∧ rest (m - b) < 1000000000 then W b + rest (m - b) else 1000000000
theorem x_slotPaint {σ : St} {n : Nat} {u : Nat → Nat} {W : Nat → Nat → Nat} (w51 : W51 σ n u W) (hW : ∀ i b, W i b ≤ 36000) {i b : Nat} (hi : i < n) (hu : u i < 40) (hb : b < 13) : f_X2_slotPaint (nI (u i)) (nI b) σ = some (if W i b = 0 then -1 else nI (W i b)) := by
  unfold f_X2_slotPaint
  have ea : nI (u i) * 13 + nI b = nI (u i * 13 + b) := by rw [show (13 : Int32) = nI 13 from rfl, nmul, nadd]
  rw [ea, ib_n (by omega), decide_eq_true (show u i * 13 + b < 520 by omega), grd_true, ncl (by omega)]
  rcases w51 i hi b hb with ⟨h1, h2⟩ | ⟨c, h1, h2, h3⟩
  · rw [h1, if_pos rfl, if_pos h2]
  · have := hW i b
    have cc := c16 (a := W i b) (b := c) (by omega) h1
    rw [h3, if_neg cc.2.2, cc.1, if_neg h2]
theorem x_paintWith {σ : St} {n : Nat} {u : Nat → Nat} {W : Nat → Nat → Nat} (w51 : W51 σ n u W) (hW : ∀ i b, W i b ≤ 36000) {i m b : Nat} (hn : n ≤ 12) (hi : i < n) (hu : u i < 40) (h68 : σ.1 68 i = nI (u i)) {rest : Nat → Nat} (hr : ∀ x, rest x = 1000000000 ∨ rest x ≤ 1000000) (tb : ∀ x, x ≤ 144 → σ.1 69 ((i + 1) * 145 + x) = nI (gx (rest x))) (hm : m ≤ 144) (hb : b ≤ 12) (hbm : b ≤ m) : f_X4_paintWith (nI i) (nI m) (nI b) σ = some (nI (gx (pw (W i) rest m b))) := by
  unfold f_X4_paintWith
  have ea : (nI i + 1) * 145 + nI m - nI b = nI ((i + 1) * 145 + (m - b)) := by
    rw [nI_1, show (145 : Int32) = nI 145 from rfl, nmul, nadd, nsub (by omega)]
    congr 1; omega
  have wb := hW i b
  have rb := hr (m - b)
  rw [ib_n (a := i) (by omega), decide_eq_true (show i < 12 by omega), grd_true, ncl (a := i) (by omega), h68, x_slotPaint w51 hW hi hu (by omega), bo_some, ea, ib_n (by omega), decide_eq_true (show (i + 1) * 145 + (m - b) < 1885 by omega), grd_true, ncl (by omega), tb (m - b) (by omega)]
  unfold pw
  by_cases c1 : W i b = 0
  · rw [if_pos c1, if_pos rfl, if_neg (fun q => q.1 c1), gx_is _ rfl]; rfl
  · rw [if_neg c1, if_neg (nneg _ (by omega))]
    rcases rb with rb | rb
    · rw [rb, gx_is _ rfl, if_pos (show nI 2147483647 = (2147483647 : Int32) from rfl), if_neg (fun q => by have := q.2; omega), gx_is _ rfl]; rfl
    · rw [gx_no _ (by omega), if_neg (fun q => by
        have q' : nI (rest (m - b)) = nI 2147483647 := q
        have := (neq (by omega) (by omega)).mp q'
        omega), if_pos ⟨c1, by omega⟩, gx_no _ (by omega), nadd]
theorem x_leastFrom {N : Nat} (hN : 802 < N) {σ : St} {n : Nat} {u : Nat → Nat} {W : Nat → Nat → Nat} (w51 : W51 σ n u W) (hW : ∀ i b, W i b ≤ 36000) {i m : Nat} (hn : n ≤ 12) (hi : i < n) (hu : u i < 40) (h68 : σ.1 68 i = nI (u i)) {rest : Nat → Nat} (hr : ∀ x, rest x = 1000000000 ∨ rest x ≤ 1000000) (tb : ∀ x, x ≤ 144 → σ.1 69 ((i + 1) * 145 + x) = nI (gx (rest x))) (hm : m ≤ 144) : f_X4_leastFrom N (nI i) (nI m) σ = some (nI (gx (lsb (W i) rest m 12))) := by
  have bl := fun c (hc : c ≤ 12) => lsb_le (m := m) (fun b _ => hW i b) hr c hc
  have key : ∀ (k fuel b : Nat), 13 - b = k → k < fuel → 1 ≤ b → b ≤ 13 → f_X4_leastFrom_6 N fuel (nI i) (nI m) (nI (gx (lsb (W i) rest m (b - 1)))) (nI b) σ = some (nI (gx (lsb (W i) rest m 12))) := by
    intro k
    induction k with
    | zero =>
      intro fuel b hk hf h1 h2
      obtain ⟨fuel, rfl⟩ : ∃ f, fuel = f + 1 := ⟨fuel - 1, by omega⟩
      have e : b = 13 := by omega
      subst e
      rw [f_X4_leastFrom_6, if_pos (show (12 : Int32) < nI 13 by decide)]
    | succ k ih =>
      intro fuel b hk hf h1 h2
      obtain ⟨fuel, rfl⟩ : ∃ f, fuel = f + 1 := ⟨fuel - 1, by omega⟩
      rw [f_X4_leastFrom_6, if_neg (show ¬ (12 : Int32) < nI b from nI_nlt (a := 12) (by omega) (by omega))]
      by_cases c : m < b
      · have := lsb_stop (W := W i) (rest := rest) (m := m) (c := b - 1) (by omega) (12 - (b - 1))
        rw [show b - 1 + (12 - (b - 1)) = 12 by omega] at this
        rw [if_pos (nI_lt c (by omega)), this]
      · rw [if_neg (nI_nlt (by omega) (by omega)), x_paintWith w51 hW hn hi hu h68 hr tb hm (by omega) (by omega), bo_some, nI_1]
        have nx := ih fuel (b + 1) (by omega) (by omega) (by omega) (by omega)
        rw [show b + 1 - 1 = b by omega] at nx
        have em : imin (nI (gx (lsb (W i) rest m (b - 1)))) (nI (gx (pw (W i) rest m b))) = nI (gx (lsb (W i) rest m b)) := by
          have b1 := bl (b - 1) (by omega)
          have wb := hW i b
          have rb := hr (m - b)
          rw [lsb_at h1]
          unfold pw
          by_cases q : W i b ≠ 0 ∧ rest (m - b) < 1000000000
          · rw [if_pos q, if_pos ⟨by omega, q⟩, gx_no (W i b + rest (m - b)) (by omega)]
            rcases b1 with b1 | b1
            · rw [b1, gx_is _ rfl, nmin (by omega) (by omega), Nat.min_eq_right (by omega), Nat.min_eq_right (by omega), gx_no _ (by omega)]
            · rw [gx_no (lsb (W i) rest m (b - 1)) (by omega), nmin (by omega) (by omega), gx_no _ (by omega)]
          · rw [if_neg q, if_neg (fun h => q h.2), gx_is 1000000000 rfl]
            have g1 : gx (lsb (W i) rest m (b - 1)) ≤ 2147483647 := by
              rcases b1 with b1 | b1
              · rw [gx_is _ b1]; omega
              · rw [gx_no _ (by omega)]; omega
            rw [nmin (by omega) (by omega), Nat.min_eq_left g1]
        rw [em]; exact nx
  unfold f_X4_leastFrom
  exact key 12 N 1 (by omega) (by omega) (by omega) (by omega)
