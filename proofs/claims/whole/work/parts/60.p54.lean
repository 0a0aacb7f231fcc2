/-! read: both ways back meet -/
def RuT (S : Nat → Nat → Nat → Bool) (F : Nat → Nat) (nt n many : Nat) (R u : Nat → Nat) : Prop := R 0 = 1 ∧ (∀ k, k ≤ many → R k < 33554432 ∧ R k ≠ 0 ∧ ∀ q, (R k).testBit q = true → q ≤ n ∧ F q = many - k) ∧ (∀ k, k < many → u k < nt ∧ ∀ q, (R (k + 1)).testBit q = true ↔ ctS S F n (R k) (many - k - 1) (u k) q)
theorem dl_fw {S : Nat → Nat → Nat → Bool} {F : Nat → Nat} {nt n many : Nat} {R u D : Nat → Nat} (fw : FwP S nt n F) (ru : RuT S F nt n many R u) (dl : DlT S n many u D 0) : ∀ c k, many - k = c → k ≤ many → ∀ i, (D k).testBit i = true → i ≤ n ∧ F i ≤ many - k := by
  intro c
  induction c with
  | zero =>
    intro k hc hk i hi
    rw [show k = many by omega, dl.1, Nat.testBit_two_pow, decide_eq_true_iff] at hi
    rw [← hi, fw.1]; exact ⟨Nat.le_refl _, Nat.zero_le _⟩
  | succ c ih =>
    intro k hc hk i hi
    obtain ⟨h1, j, h2, h3, h4, h5⟩ := (dl.2.2 k (Nat.zero_le _) (by omega) i).mp hi
    obtain ⟨_, h6⟩ := ih (k + 1) (by omega) (by omega) j h5
    have h7 := (fw.2 i h1).2.2.1 (u k) j (ru.2.2 k (by omega)).1 h2 h3 h4
    exact ⟨by omega, by omega⟩
theorem dl_next {S : Nat → Nat → Nat → Bool} {F : Nat → Nat} {nt n many : Nat} {R u D : Nat → Nat} (fw : FwP S nt n F) (ru : RuT S F nt n many R u) (dl : DlT S n many u D 0) {k i j : Nat} (hk : k < many) (hi : (R k).testBit i = true) (hij : i < j) (hj : j ≤ n) (hs : S (u k) i j = true) (hd : (D (k + 1)).testBit j = true) : (R (k + 1)).testBit j = true := by
  obtain ⟨h1, h2⟩ := (ru.2.1 k (by omega)).2.2 i hi
  obtain ⟨h3, h4⟩ := dl_fw fw ru dl _ (k + 1) rfl (by omega) j hd
  have h5 := (fw.2 i (by omega)).2.2.1 (u k) j (ru.2.2 k hk).1 hij hj hs
  exact ((ru.2.2 k hk).2 j).mpr ⟨hj, by omega, i, by omega, hi, hij, hs⟩
theorem dr_dl {S : Nat → Nat → Nat → Bool} {F : Nat → Nat} {nt n many : Nat} {R u D D' : Nat → Nat} (fw : FwP S nt n F) (ru : RuT S F nt n many R u) (dl : DlT S n many u D 0) (dr : DrT S n many R u D' 0) : ∀ c k, many - k = c → k ≤ many → ∀ i, (D' k).testBit i = true ↔ ((D k).testBit i = true ∧ (R k).testBit i = true) := by
  intro c
  induction c with
  | zero =>
    intro k hc hk i
    rw [show k = many by omega, dr.1, dl.1, Nat.testBit_two_pow, decide_eq_true_iff]
    refine ⟨fun h => ⟨?_, h⟩, fun h => h.2⟩
    obtain ⟨h1, h2⟩ := (ru.2.1 many (Nat.le_refl _)).2.2 i h
    by_cases e : i = n
    · exact e.symm
    · have := (fw.2 i (by omega)).1
      omega
  | succ c ih =>
    intro k hc hk i
    rw [dr.2.2 k (Nat.zero_le _) (by omega) i, dl.2.2 k (Nat.zero_le _) (by omega) i]
    constructor
    · rintro ⟨h1, h2, j, h3, h4, h5, h6⟩
      exact ⟨⟨h1, j, h3, h4, h6, ((ih (k + 1) (by omega) (by omega) j).mp h5).1⟩, h2⟩
    · rintro ⟨⟨h1, j, h3, h4, h6, h5⟩, h2⟩
      exact ⟨h1, h2, j, h3, h4, (ih (k + 1) (by omega) (by omega) j).mpr ⟨h5, dl_next fw ru dl (by omega) h2 h3 h4 h6 h5⟩, h6⟩
theorem dl_some {S : Nat → Nat → Nat → Bool} {F : Nat → Nat} {nt n many : Nat} {R u D : Nat → Nat} (fw : FwP S nt n F) (ru : RuT S F nt n many R u) (dl : DlT S n many u D 0) : ∀ c k, many - k = c → k ≤ many → ∃ i, (D k).testBit i = true ∧ (R k).testBit i = true := by
  intro c
  induction c with
  | zero =>
    intro k hc hk
    rw [show k = many by omega]
    obtain ⟨i, hi⟩ := bit_of_ne (ru.2.1 many (Nat.le_refl _)).2.1
    refine ⟨i, ?_, hi⟩
    obtain ⟨h1, h2⟩ := (ru.2.1 many (Nat.le_refl _)).2.2 i hi
    rw [dl.1, Nat.testBit_two_pow, decide_eq_true_iff]
    by_cases e : i = n
    · exact e.symm
    · have := (fw.2 i (by omega)).1
      omega
  | succ c ih =>
    intro k hc hk
    obtain ⟨j, h1, h2⟩ := ih (k + 1) (by omega) (by omega)
    obtain ⟨h3, h4, i, h5, h6, h7, h8⟩ := ((ru.2.2 k (by omega)).2 j).mp h2
    exact ⟨i, (dl.2.2 k (Nat.zero_le _) (by omega) i).mpr ⟨h5, j, h7, h3, h8, h1⟩, h6⟩
theorem dl_zero {S : Nat → Nat → Nat → Bool} {F : Nat → Nat} {nt n many : Nat} {R u D : Nat → Nat} (fw : FwP S nt n F) (ru : RuT S F nt n many R u) (dl : DlT S n many u D 0) : (D 0).testBit 0 = true ∧ (R 0).testBit 0 = true := by
  obtain ⟨i, h1, h2⟩ := dl_some fw ru dl many 0 rfl (Nat.zero_le _)
  have e : i = 0 := by
    rw [ru.1, show (1 : Nat) = 2 ^ 0 from rfl, Nat.testBit_two_pow, decide_eq_true_iff] at h2
    exact h2.symm
  rw [e] at h1 h2
  exact ⟨h1, h2⟩
theorem ln_scan {N : Nat} {S : Nat → Nat → Nat → Bool} {nt n many k pos t E D D' X j0 : Nat} (h40 : nt ≤ 40) (hn24 : n ≤ 24) (hm : many ≤ 24) (hk : k < many) (ht : t < nt) (hp : pos < n) (hX : X < 33554432) (hD' : D' < 33554432) (hx : ∀ y, pos < y → y ≤ n → (X.testBit y = true ↔ (D'.testBit y = true ∧ S t pos y = true))) {σ τ : St} (hn : σ.1 12404 0 = nI n) (sp : SpS τ S nt n) (h52 : τ.1 51 (k + 1) = nI D') (h48 : τ.1 48 k = nI t) (hj1 : pos < j0) (hj2 : j0 ≤ n) (hj3 : X.testBit j0 = true) {k99 : Int32 → Int32 → St → Option St} {k469 : Int32 → Int32 → Int32 → St → Option (Int32 × St)} :
    ∀ (c fx fm x : Nat), j0 - x = c → c < fx → c < fm → pos < x → x ≤ j0 →
    ∃ y, pos < y ∧ y ≤ n ∧ X.testBit y = true ∧ f_X5_chooseLengths_146 N k99 fx (nI pos) (nI k) (nI x) (nI X) σ = k99 (nI y) (nI (k + 1)) (si σ 66 k (nI (y - pos))) ∧ f_X12_read_479 N k469 fm (nI many) (nI pos) (nI k) (nI x) τ = k469 (nI many) (nI y) (nI (k + 1)) (si τ 49 k (nI (y - pos))) := by
  intro c
  induction c with
  | zero =>
    intro fx fm x hc hfx hfm h1 h2
    obtain ⟨fx, rfl⟩ : ∃ f, fx = f + 1 := ⟨fx - 1, by omega⟩
    obtain ⟨fm, rfl⟩ : ∃ f, fm = f + 1 := ⟨fm - 1, by omega⟩
    have e : x = j0 := by omega
    subst e
    obtain ⟨y1, y2⟩ := (hx x h1 hj2).mp hj3
    have bx : ushr (nI X) (nI x) &&& 1 = nI 1 := by
      have := nbit (a := X) (k := x) (by omega) (by omega)
      rw [hj3] at this; exact this
    have bd : (nI D' >>> (nI x &&& 31)) &&& 1 = nI 1 := by
      have := nsbit (a := D') (k := x) (by omega) (by omega)
      rw [y1] at this; exact this
    refine ⟨x, h1, hj2, hj3, ?_, ?_⟩
    · have tk : f_X5_chooseLengths_169 N k99 (nI pos) (nI k) (nI x) σ = k99 (nI x) (nI (k + 1)) (si σ 66 k (nI (x - pos))) := by
        unfold f_X5_chooseLengths_169
        rw [ib_n (by omega), decide_eq_true (show k < 24 by omega), grd_true, ncl (by omega), nI_1, nsub (by omega)]
      rw [f_X5_chooseLengths_146, bx, if_neg (show ¬ nI 1 = (0 : Int32) by decide), tk]
      by_cases h : σ.1 12404 0 ≤ nI x
      · rw [if_pos h]
      · rw [if_neg h]
    · rw [f_X12_read_479, nI_1 k, ib_n (a := k + 1) (by omega), decide_eq_true (show k + 1 < 25 by omega), ncl (a := k + 1) (by omega), h52, bd, if_neg (show ¬ nI 1 = (0 : Int32) by decide), ib_n (a := k) (by omega), decide_eq_true (show k < 24 by omega), ncl (a := k) (by omega), h48, ix50 (by omega), ib_n (by omega), decide_eq_true (show 576 * t + 24 * pos + x - 1 < 23040 by omega), ncl (by omega), sp t pos x ht hp h1 hj2, y2, if_neg (show ¬ b2 true = 0 by decide), nsub (by omega)]
      simp only [grd_true]
  | succ c ih =>
    intro fx fm x hc hfx hfm h1 h2
    obtain ⟨fx, rfl⟩ : ∃ f, fx = f + 1 := ⟨fx - 1, by omega⟩
    obtain ⟨fm, rfl⟩ : ∃ f, fm = f + 1 := ⟨fm - 1, by omega⟩
    have hxn : x < n := by omega
    have bx : ushr (nI X) (nI x) &&& 1 = nI (if X.testBit x then 1 else 0) := nbit (by omega) (by omega)
    have bd : (nI D' >>> (nI x &&& 31)) &&& 1 = nI (if D'.testBit x then 1 else 0) := nsbit (by omega) (by omega)
    have hxx := hx x h1 (by omega)
    by_cases hb : X.testBit x = true
    · obtain ⟨y1, y2⟩ := hxx.mp hb
      rw [if_pos hb] at bx
      rw [if_pos y1] at bd
      refine ⟨x, h1, by omega, hb, ?_, ?_⟩
      · rw [f_X5_chooseLengths_146, hn, if_neg (nI_ge hxn (by omega)), bx, if_neg (show ¬ nI 1 = (0 : Int32) by decide)]
        unfold f_X5_chooseLengths_169
        rw [ib_n (by omega), decide_eq_true (show k < 24 by omega), grd_true, ncl (by omega), nI_1, nsub (by omega)]
      · rw [f_X12_read_479, nI_1 k, ib_n (a := k + 1) (by omega), decide_eq_true (show k + 1 < 25 by omega), ncl (a := k + 1) (by omega), h52, bd, if_neg (show ¬ nI 1 = (0 : Int32) by decide), ib_n (a := k) (by omega), decide_eq_true (show k < 24 by omega), ncl (a := k) (by omega), h48, ix50 (by omega), ib_n (by omega), decide_eq_true (show 576 * t + 24 * pos + x - 1 < 23040 by omega), ncl (by omega), sp t pos x ht hp h1 (by omega), y2, if_neg (show ¬ b2 true = 0 by decide), nsub (by omega)]
        simp only [grd_true]
    · rw [if_neg hb] at bx
      obtain ⟨y, e1, e2, e3, e4, e5⟩ := ih fx fm (x + 1) (by omega) (by omega) (by omega) (by omega) (by omega)
      refine ⟨y, e1, e2, e3, ?_, ?_⟩
      · rw [f_X5_chooseLengths_146, hn, if_neg (nI_ge hxn (by omega)), bx, if_pos (show nI 0 = (0 : Int32) from rfl), nI_1 x]; exact e4
      · rw [f_X12_read_479, nI_1 k, ib_n (a := k + 1) (by omega), decide_eq_true (show k + 1 < 25 by omega), ncl (a := k + 1) (by omega), h52, bd, grd_true, nI_1 x]
        by_cases hd : D'.testBit x = true
        · have hs : S t pos x = false := by
            cases e : S t pos x with
            | false => rfl
            | true => exact absurd (hxx.mpr ⟨hd, e⟩) hb
          rw [if_pos hd, if_neg (show ¬ nI 1 = (0 : Int32) by decide), ib_n (a := k) (by omega), decide_eq_true (show k < 24 by omega), ncl (a := k) (by omega), h48, ix50 (by omega), ib_n (by omega), decide_eq_true (show 576 * t + 24 * pos + x - 1 < 23040 by omega), ncl (by omega), sp t pos x ht hp h1 (by omega), hs, if_pos (show b2 false = 0 from rfl)]
          simp only [grd_true]
          exact e5
        · rw [if_neg hd, if_pos (show nI 0 = (0 : Int32) from rfl)]; exact e5
