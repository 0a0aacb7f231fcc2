/-! names, WORDS, NUMBERS: both sides -/
theorem lg_cmp0 {x y : Int64} : lg_cmp x y = 0 ↔ x = y := by
  unfold lg_cmp
  by_cases h : x > y
  · rw [if_pos h]
    constructor
    · intro k; exact absurd k (by decide)
    · intro k; rw [k] at h; exact absurd h (Int64.lt_irrefl)
  · rw [if_neg h]
    by_cases h2 : x = y
    · rw [if_pos h2]; exact ⟨fun _ => h2, fun _ => rfl⟩
    · rw [if_neg h2]; exact ⟨fun k => absurd k (by decide), fun k => absurd k h2⟩
def fndN (f : Nat → Int64) (w : Int64) : Nat → Nat → Int32
  | 0, _ => -1
  | k + 1, i => if f i = w then nI i else fndN f w k (i + 1)
theorem fndN_cases (f : Nat → Int64) (w : Int64) : ∀ k i, fndN f w k i = -1 ∧ (∀ j, i ≤ j → j < i + k → f j ≠ w) ∨ ∃ j, i ≤ j ∧ j < i + k ∧ fndN f w k i = nI j ∧ f j = w := by
  intro k
  induction k with
  | zero => intro i; exact Or.inl ⟨rfl, fun j h1 h2 => by omega⟩
  | succ k ih =>
    intro i
    unfold fndN
    by_cases h : f i = w
    · rw [if_pos h]; exact Or.inr ⟨i, Nat.le_refl _, by omega, rfl, h⟩
    · rw [if_neg h]
      rcases ih (i + 1) with ⟨h1, h2⟩ | ⟨j, h1, h2, h3, h4⟩
      · refine Or.inl ⟨h1, fun j hj hk => ?_⟩
        by_cases e : j = i
        · rw [e]; exact h
        · exact h2 j (by omega) (by omega)
      · exact Or.inr ⟨j, by omega, by omega, h3, h4⟩
theorem fndN_congr {f g : Nat → Int64} (w : Int64) : ∀ k i, (∀ j, i ≤ j → j < i + k → f j = g j) → fndN f w k i = fndN g w k i := by
  intro k
  induction k with
  | zero => intro i _; rfl
  | succ k ih =>
    intro i h
    unfold fndN
    rw [h i (Nat.le_refl _) (by omega), ih (i + 1) (fun j h1 h2 => h j (by omega) (by omega))]
theorem x_find_2 {o N : Nat} {w : Int64} {σ : St} {m : Nat} (hm : m ≤ 40) (h : σ.1 (1000 + 200 * o + 0) 0 = nI m) : ∀ (k fuel i : Nat), m - i = k → k < fuel → i ≤ m → f_X6_find_2 o N fuel w (nI i) σ = some (fndN (σ.2 (8 * o + 1 - 6)) w k i) := by
  intro k
  induction k with
  | zero =>
    intro fuel i hk hf hi
    obtain ⟨fuel, rfl⟩ : ∃ f, fuel = f + 1 := ⟨fuel - 1, by omega⟩
    rw [f_X6_find_2, h, if_pos (nI_le (by omega) (by omega))]; rfl
  | succ k ih =>
    intro fuel i hk hf hi
    obtain ⟨fuel, rfl⟩ : ∃ f, fuel = f + 1 := ⟨fuel - 1, by omega⟩
    rw [f_X6_find_2, h, if_neg (nI_ge (by omega) (by omega)), ib_n (by omega), decide_eq_true (by omega), grd_true, ncl (by omega)]
    unfold fndN
    by_cases e : σ.2 (8 * o + 1 - 6) i = w
    · rw [if_pos (lg_cmp0.mpr e), if_pos e]
    · rw [if_neg (fun k => e (lg_cmp0.mp k)), if_neg e, nI_1]
      exact ih fuel (i + 1) (by omega) (by omega) (by omega)
theorem x_find {o N : Nat} {w : Int64} {σ : St} {m : Nat} (hN : 802 < N) (hm : m ≤ 40) (h : σ.1 (1000 + 200 * o + 0) 0 = nI m) : f_X6_find o N w σ = some (fndN (σ.2 (8 * o + 1 - 6)) w m 0) := by
  unfold f_X6_find
  exact x_find_2 hm h m N 0 rfl (by omega) (by omega)
theorem m_signOf_3 {N : Nat} {w : Int64} {τ : St} {a m : Nat} (ha : a + m ≤ 80) : ∀ (k fuel i : Nat), a + m - i = k → k < fuel → a ≤ i → i ≤ a + m → f_X12_signOf_3 N fuel w (nI a) (nI m) (nI i) τ = some (fndN (τ.2 4) w k i) := by
  intro k
  induction k with
  | zero =>
    intro fuel i hk hf h1 hi
    obtain ⟨fuel, rfl⟩ : ∃ f, fuel = f + 1 := ⟨fuel - 1, by omega⟩
    rw [f_X12_signOf_3, nadd, if_pos (nI_le (by omega) (by omega))]; rfl
  | succ k ih =>
    intro fuel i hk hf h1 hi
    obtain ⟨fuel, rfl⟩ : ∃ f, fuel = f + 1 := ⟨fuel - 1, by omega⟩
    rw [f_X12_signOf_3, nadd, if_neg (nI_ge (by omega) (by omega)), ib_n (by omega), decide_eq_true (by omega), grd_true, ncl (by omega)]
    unfold fndN
    by_cases e : τ.2 4 i = w
    · rw [if_pos (lg_cmp0.mpr e), if_pos e]
    · rw [if_neg (fun k => e (lg_cmp0.mp k)), if_neg e, nI_1]
      exact ih fuel (i + 1) (by omega) (by omega) (by omega) (by omega)
theorem m_signOf {N : Nat} {w : Int64} {τ : St} {a m : Nat} (hN : 802 < N) (ha : a + m ≤ 80) : f_X12_signOf N w (nI a) (nI m) τ = some (fndN (τ.2 4) w m a) := by
  unfold f_X12_signOf
  exact m_signOf_3 ha m N a (by omega) (by omega) (by omega) (by omega)
/-- the class's WORDS -/
abbrev cwd : List (List Nat) := [[115, 105, 103, 110], [115, 111, 117, 110, 100, 115], [109, 101, 97, 110, 115], [107, 105, 110, 100], [103, 97, 112], [115, 113, 117, 97, 114, 101], [108, 101, 97, 115, 116], [101, 99, 104, 111]]
theorem cwd_ok : ∀ w, w < 8 → xtl.getD w 0 = (cwd.getD w []).length ∧ ∀ i, i < 6 → i < (cwd.getD w []).length → ((xtb.getD w []).getD i 0 = nI ((cwd.getD w []).getD i 0) ∧ (cwd.getD w []).getD i 0 < 128 ∧ (cwd.getD w []).length ≤ 6) := by decide +kernel
theorem sb_ne : ∀ c, c < 256 → ∀ d, d < 128 → (sb c = nI d ↔ c = d) := sb_eq
theorem x_isWord_23 {N n : Nat} {B : Nat → Nat} {σ : St} {w q m : Nat} (hw : w < 8) (hT : TapeX σ n B) (hq : q + m ≤ n) (hm : m = (cwd.getD w []).length) (h5 : σ.1 4805 0 = nI m) (h4 : σ.1 4804 0 = nI q) (hm6 : m ≤ 6) : ∀ (k fuel i : Nat), m - i = k → k < fuel → i ≤ m →
    f_X8_isWord_23 w N fuel (nI i) σ = some (if ∀ l, l < m → i ≤ l → B (q + l) = (cwd.getD w []).getD l 0 then 1 else 0) := by
  have hn := hT.1
  intro k
  induction k with
  | zero =>
    intro fuel i hk hf hi
    obtain ⟨fuel, rfl⟩ : ∃ f, fuel = f + 1 := ⟨fuel - 1, by omega⟩
    rw [f_X8_isWord_23, h5, if_pos (nI_le (by omega) (by omega)), if_pos (fun l h1 h2 => by omega)]
  | succ k ih =>
    intro fuel i hk hf hi
    obtain ⟨fuel, rfl⟩ : ∃ f, fuel = f + 1 := ⟨fuel - 1, by omega⟩
    have hc := cwd_ok w hw
    obtain ⟨c1, c2, c3⟩ := hc.2 i (by omega) (by omega)
    have hb := hT.2.2 (q + i) (by omega)
    rw [f_X8_isWord_23, h5, if_neg (nI_ge (by omega) (by omega)), h4, hT.2.1, nadd, if_neg (nI_ge (by omega) (by omega)), ib_n (by omega), decide_eq_true (by omega), grd_true, hc.1, ib_n (by omega), decide_eq_true (by omega), grd_true, ncl (by omega), ncl (by omega), hb.2, c1, nI_1]
    have e := sb_eq _ hb.1 _ c2
    by_cases h : B (q + i) = (cwd.getD w []).getD i 0
    · rw [if_pos (e.mpr h), ih fuel (i + 1) (by omega) (by omega) (by omega)]
      congr 2
      apply propext
      constructor
      · intro k l h1 h2
        by_cases e : l = i
        · rw [e]; exact h
        · exact k l h1 (by omega)
      · intro k l h1 h2; exact k l h1 (by omega)
    · rw [if_neg (fun k => h (e.mp k)), if_neg (show ¬ ∀ l, l < m → i ≤ l → B (q + l) = (cwd.getD w []).getD l 0 from fun k => h (k i (by omega) (Nat.le_refl _)))]
theorem tk_lt (B : Nat → Nat) (n p : Nat) : tk B n p < 5 := by
  unfold tk; repeat (first | split | omega)
theorem x_isWord {N n : Nat} {B : Nat → Nat} {σ : St} {p w : Nat} (hN : 802 < N) (hw : w < 8) (hT : TapeX σ n B) (hp : p ≤ n) (hK : TokX σ n B p) : f_X8_isWord w N σ = some (if tk B n p = 1 ∧ Wd (cwd.getD w []) B (tq B n p) (te B n p - tq B n p) = true then 1 else 0) := by
  have hn := hT.1
  have hk := tk_lt B n p
  have h1 := te_ge B n p
  have h2 := te_le (B := B) hp
  unfold f_X8_isWord
  rw [hK.2.1, show (1 : Int32) = nI 1 from rfl]
  by_cases e : tk B n p = 1
  · rw [e, if_pos rfl]
    obtain ⟨a1, a2, a3, a4⟩ := hK.2.2.2.1 e
    have hc := cwd_ok w hw
    have hl6 : (cwd.getD w []).length ≤ 6 := by
      cases h0 : (cwd.getD w []).length with
      | zero => omega
      | succ k => have := (hc.2 0 (by omega) (by omega)).2.2; omega
    rw [a1, hc.1]
    by_cases hm : te B n p - tq B n p = (cwd.getD w []).length
    · rw [hm, if_pos rfl, ← nI_0]
      have := x_isWord_23 (N := N) hw hT (q := tq B n p) (m := (cwd.getD w []).length) (by omega) rfl (by rw [a1, hm]) hK.2.2.1 hl6 (cwd.getD w []).length N 0 (by omega) (by omega) (by omega)
      rw [this]
      congr 2
      apply propext
      unfold Wd
      rw [decide_eq_true_iff]
      exact ⟨fun h => ⟨rfl, rfl, fun i hi => h i hi (by omega)⟩, fun h i hi _ => h.2.2 i hi⟩
    · rw [if_neg (fun h => hm ((neq (by omega) (by omega)).mp h)), if_neg (fun h => hm (of_decide_eq_true h.2).1)]
  · rw [if_neg (fun h => e ((neq (by omega) (by omega)).mp h)), if_neg (fun h => e h.1)]
theorem x_isRow {n : Nat} {B : Nat → Nat} {σ : St} {p m : Nat} (hn : n ≤ 800) (hm : m < 800) (hp : p ≤ n) (hK : TokX σ n B p) : f_X8_isRow (nI m) σ = if tk B n p = 1 ∧ isS B (tq B n p) (te B n p - tq B n p) = true ∧ te B n p - tq B n p ≤ m then 1 else 0 := by
  have hk := tk_lt B n p
  have h2 := te_le (B := B) hp
  unfold f_X8_isRow
  rw [hK.2.1]
  by_cases e : tk B n p = 1
  · rw [e, if_pos (show nI 1 = (1 : Int32) from rfl)]
    obtain ⟨a1, a2, a3, a4⟩ := hK.2.2.2.1 e
    rw [a1, a3]
    cases hS : isS B (tq B n p) (te B n p - tq B n p) with
    | false => rw [if_pos (by decide), if_neg (fun h => by cases h.2.1)]
    | true =>
      rw [if_neg (by decide)]
      by_cases hl : te B n p - tq B n p ≤ m
      · rw [if_neg (nI_nlt hl (by omega)), if_pos ⟨rfl, rfl, hl⟩]
      · rw [if_pos (nI_lt (by omega) (by omega)), if_neg (fun h => hl h.2.2)]
  · rw [if_neg (show ¬ nI (tk B n p) = (1 : Int32) from fun h => e ((neq (b := 1) (by omega) (by omega)).mp h)), if_neg (fun h => e h.1)]
theorem m_isRow_15 {N n : Nat} {B : Nat → Nat} {τ : St} {e : Nat} (hT : TapeM τ n B) (he : e ≤ n) (h6 : τ.1 1006 0 = nI e) : ∀ (k fuel i : Nat), e - i = k → k < fuel → i ≤ e → f_X12_isRow_15 N fuel (nI i) τ = some (if ∀ l, l < e → i ≤ l → B l ≤ 112 then 1 else 0) := by
  have hn := hT.1
  intro k
  induction k with
  | zero =>
    intro fuel i hk hf hi
    obtain ⟨fuel, rfl⟩ : ∃ f, fuel = f + 1 := ⟨fuel - 1, by omega⟩
    rw [f_X12_isRow_15, h6, if_pos (nI_le (by omega) (by omega)), if_pos (fun l h1 h2 => by omega)]
  | succ k ih =>
    intro fuel i hk hf hi
    obtain ⟨fuel, rfl⟩ : ∃ f, fuel = f + 1 := ⟨fuel - 1, by omega⟩
    have hb := (hT.2.2 i (by omega)).1
    rw [f_X12_isRow_15, h6, if_neg (nI_ge (by omega) (by omega)), m_see hT (by omega), bo_some, see_in (by omega), nI_1]
    by_cases h : B i ≤ 112
    · rw [if_pos (show nI (B i) ≤ (112 : Int32) from (nle (b := 112) (by omega) (by omega)).mpr h), ih fuel (i + 1) (by omega) (by omega) (by omega)]
      congr 2
      apply propext
      constructor
      · intro k l h1 h2
        by_cases e : l = i
        · rw [e]; exact h
        · exact k l h1 (by omega)
      · intro k l h1 h2; exact k l h1 (by omega)
    · rw [if_neg (show ¬ nI (B i) ≤ (112 : Int32) from nI_ge (a := 112) (by omega) (by omega)), if_neg (show ¬ ∀ l, l < e → i ≤ l → B l ≤ 112 from fun k => h (k i (by omega) (Nat.le_refl _)))]
theorem srt_1 {k c : Nat} (hk : k < 5) : (srt k c = 1 ↔ k = 1) ∧ (srt k c = 2 ↔ k = 2) ∧ (srt k c = 10 ↔ k = 0) ∧ srt k c < 11 := by
  unfold srt
  refine ⟨?_, ?_, ?_, ?_⟩ <;> (repeat' split) <;> omega
theorem m_isRow {N n : Nat} {B : Nat → Nat} {τ : St} {p : Nat} (hN : 802 < N) (hT : TapeM τ n B) (hp : p ≤ n) (hK : TokM τ n B p) : f_X12_isRow N τ = some (if tk B n p = 1 ∧ isS B (tq B n p) (te B n p - tq B n p) = true then 1 else 0) := by
  have hn := hT.1
  have h1 := te_ge B n p
  have h2 := te_le (B := B) hp
  have hs := srt_1 (c := B (tq B n p)) (tk_lt B n p)
  unfold f_X12_isRow
  rw [hK.2.2.1, show (1 : Int32) = nI 1 from rfl]
  by_cases e : tk B n p = 1
  · rw [if_pos ((neq (by omega) (by omega)).mpr (hs.1.mpr e)), hK.1, m_isRow_15 hT h2 hK.2.1 (te B n p - tq B n p) N (tq B n p) rfl (by omega) h1]
    congr 2
    apply propext
    rw [isS_at]
    constructor
    · intro h; exact ⟨e, fun i hi => h _ (by omega) (by omega)⟩
    · intro h l hl hq
      have := h.2 (l - tq B n p) (by omega)
      rw [show tq B n p + (l - tq B n p) = l by omega] at this
      exact this
  · rw [if_neg (fun h => e (hs.1.mp ((neq (by omega) (by omega)).mp h))), if_neg (fun h => e h.1)]
