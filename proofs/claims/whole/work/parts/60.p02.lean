/-! TOKENS -/
def isL (c : Nat) : Bool := decide (97 ≤ c ∧ c ≤ 122)
def isD (c : Nat) : Bool := decide (48 ≤ c ∧ c ≤ 57)
def isB (c : Nat) : Bool := decide (c = 32 ∨ c = 10)
def isM (c : Nat) : Bool := decide (c = 59 ∨ c = 58 ∨ c = 42 ∨ c = 38 ∨ c = 45 ∨ c = 40 ∨ c = 41)
def runN (P : Nat → Bool) (B : Nat → Nat) (n : Nat) : Nat → Nat → Nat
  | 0, p => p
  | k + 1, p => if p < n ∧ P (B p) = true then runN P B n k (p + 1) else p
def rn (P : Nat → Bool) (B : Nat → Nat) (n p : Nat) : Nat := runN P B n (n - p) p
theorem rn_go {P : Nat → Bool} {B : Nat → Nat} {n p : Nat} (h : p < n) (hP : P (B p) = true) : rn P B n p = rn P B n (p + 1) := by
  unfold rn
  have e : n - p = (n - (p + 1)) + 1 := by omega
  rw [e, runN, if_pos ⟨h, hP⟩]
theorem rn_end {P : Nat → Bool} {B : Nat → Nat} {n p : Nat} (h : n ≤ p ∨ P (B p) = false) : rn P B n p = p := by
  unfold rn
  cases e : n - p with
  | zero => rfl
  | succ k =>
    rw [runN, if_neg]
    rintro ⟨h1, h2⟩
    rcases h with h | h
    · omega
    · rw [h] at h2; cases h2
theorem rn_spec (P : Nat → Bool) (B : Nat → Nat) (n : Nat) : ∀ k p, n - p = k → p ≤ rn P B n p ∧ (p ≤ n → rn P B n p ≤ n) ∧ (∀ i, p ≤ i → i < rn P B n p → P (B i) = true) ∧ (rn P B n p < n → P (B (rn P B n p)) = false) := by
  intro k
  induction k with
  | zero =>
    intro p hp
    rw [rn_end (Or.inl (by omega))]
    exact ⟨Nat.le_refl _, fun h => h, fun i h1 h2 => by omega, fun h => by omega⟩
  | succ k ih =>
    intro p hp
    cases hP : P (B p) with
    | false =>
      rw [rn_end (Or.inr hP)]
      exact ⟨Nat.le_refl _, fun h => h, fun i h1 h2 => by omega, fun _ => hP⟩
    | true =>
      rw [rn_go (by omega) hP]
      obtain ⟨h1, h2, h3, h4⟩ := ih (p + 1) (by omega)
      refine ⟨by omega, fun h => h2 (by omega), fun i hi hj => ?_, h4⟩
      by_cases e : i = p
      · rw [e]; exact hP
      · exact h3 i (by omega) hj
theorem rn_ge (P : Nat → Bool) (B : Nat → Nat) (n p : Nat) : p ≤ rn P B n p := (rn_spec P B n _ p rfl).1
theorem rn_le {P : Nat → Bool} {B : Nat → Nat} {n p : Nat} (h : p ≤ n) : rn P B n p ≤ n := (rn_spec P B n _ p rfl).2.1 h
theorem rn_in {P : Nat → Bool} {B : Nat → Nat} {n p i : Nat} (h : p ≤ i) (h2 : i < rn P B n p) : P (B i) = true := (rn_spec P B n _ p rfl).2.2.1 i h h2
/-- the TOKEN that is read from p on: where it begins, its kind (0 END, 1 WORD, 2 NUMBER, 3 a mark, 4 none), where it ends -/
def tq (B : Nat → Nat) (n p : Nat) : Nat := rn isB B n p
def te (B : Nat → Nat) (n p : Nat) : Nat := if n ≤ tq B n p then tq B n p else if isL (B (tq B n p)) = true then rn isL B n (tq B n p) else if isD (B (tq B n p)) = true then rn isD B n (tq B n p) else tq B n p + 1
def tk (B : Nat → Nat) (n p : Nat) : Nat := if n ≤ tq B n p then 0 else if isL (B (tq B n p)) = true then (if te B n p - tq B n p ≤ 12 then 1 else 4) else if isD (B (tq B n p)) = true then (if te B n p - tq B n p ≤ 4 then 2 else 4) else if isM (B (tq B n p)) = true then 3 else 4
theorem tq_ge (B : Nat → Nat) (n p : Nat) : p ≤ tq B n p := rn_ge _ _ _ _
theorem tq_le {B : Nat → Nat} {n p : Nat} (h : p ≤ n) : tq B n p ≤ n := rn_le h
theorem te_ge (B : Nat → Nat) (n p : Nat) : tq B n p ≤ te B n p := by
  unfold te
  split
  · exact Nat.le_refl _
  · split
    · exact rn_ge _ _ _ _
    · split
      · exact rn_ge _ _ _ _
      · omega
theorem te_le {B : Nat → Nat} {n p : Nat} (h : p ≤ n) : te B n p ≤ n := by
  have := tq_le (B := B) h
  unfold te
  split
  · exact this
  · split
    · exact rn_le this
    · split
      · exact rn_le this
      · omega
/-- a TOKEN that is not the END has a byte -/
theorem te_gt {B : Nat → Nat} {n p : Nat} (h : tk B n p ≠ 0) : tq B n p < te B n p := by
  unfold tk at h
  unfold te
  by_cases h1 : n ≤ tq B n p
  · rw [if_pos h1] at h; exact absurd rfl h
  · rw [if_neg h1]
    by_cases h2 : isL (B (tq B n p)) = true
    · rw [if_pos h2, rn_go (by omega) h2]
      exact rn_ge _ _ _ _
    · rw [if_neg h2]
      by_cases h3 : isD (B (tq B n p)) = true
      · rw [if_pos h3, rn_go (by omega) h3]
        exact rn_ge _ _ _ _
      · rw [if_neg h3]; omega
/-- a WORD's name, of its first k letters -/
def nmf (B : Nat → Nat) (q : Nat) : Nat → Int64
  | 0 => 0
  | k + 1 => nmf B q k * 32 + lN (B (q + k) - 96)
def numf (B : Nat → Nat) (q : Nat) : Nat → Nat
  | 0 => 0
  | k + 1 => numf B q k * 10 + (B (q + k) - 48)
/-- the first k letters are SOUNDS -/
def isS (B : Nat → Nat) (q : Nat) : Nat → Bool
  | 0 => true
  | k + 1 => isS B q k && decide (B (q + k) ≤ 112)
theorem isS_at {B : Nat → Nat} {q k : Nat} : isS B q k = true ↔ ∀ i, i < k → B (q + i) ≤ 112 := by
  induction k with
  | zero => exact ⟨fun _ i hi => by omega, fun _ => rfl⟩
  | succ k ih =>
    unfold isS
    rw [Bool.and_eq_true, ih, decide_eq_true_iff]
    constructor
    · rintro ⟨h1, h2⟩ i hi
      by_cases e : i = k
      · rw [e]; exact h2
      · exact h1 i (by omega)
    · intro h
      exact ⟨fun i hi => h i (by omega), h k (by omega)⟩
/-- a byte as Java reads it -/
def sb (c : Nat) : Int32 := if c < 128 then nI c else nI c - 256
def TapeX (σ : St) (n : Nat) (B : Nat → Nat) : Prop := n ≤ 800 ∧ σ.1 4801 0 = nI n ∧ ∀ j, j < n → B j < 256 ∧ σ.1 20 j = sb (B j)
def TapeM (τ : St) (n : Nat) (B : Nat → Nat) : Prop := n ≤ 800 ∧ τ.1 1002 0 = nI n ∧ ∀ j, j < n → B j < 256 ∧ τ.1 1 j &&& 255 = nI (B j)
theorem sb_eq : ∀ c, c < 256 → ∀ d, d < 128 → (sb c = nI d ↔ c = d) := by decide +kernel
theorem sb_L : ∀ c, c < 256 → ((if sb c < 97 then (0 : Int32) else (if 122 < sb c then 0 else 1)) = if isL c = true then 1 else 0) := by decide +kernel
theorem sb_D : ∀ c, c < 256 → ((if sb c < 48 then (0 : Int32) else (if 57 < sb c then 0 else 1)) = if isD c = true then 1 else 0) := by decide +kernel
theorem sb_of : ∀ c, c < 256 → isL c = true → sb c = nI c ∧ sb c - 97 = nI (c - 97) ∧ (sb c - 97).toInt64 + 1 = lN (c - 96) := by decide +kernel
theorem sb_dig : ∀ c, c < 256 → isD c = true → sb c = nI c ∧ sb c - 48 = nI (c - 48) := by decide +kernel
theorem sb_and : ∀ c, c < 256 → sb c &&& 255 = nI c := by decide +kernel
theorem sb_8 : ∀ c, c < 256 → (sb c).toInt8.toInt32 = sb c := by decide +kernel
theorem sb_ex (x : Int32) (h : x.toInt8.toInt32 = x) : ∃ c, c < 256 ∧ x = sb c ∧ x &&& 255 = nI c := by
  have key : ∀ c, c < 256 → (Int8.ofNat c).toInt32 = sb c := by decide +kernel
  have h1 : x.toInt8 = Int8.ofNat x.toInt8.toBitVec.toNat := by
    apply Int8.toBitVec_inj.1
    show x.toInt8.toBitVec = BitVec.ofNat 8 x.toInt8.toBitVec.toNat
    rw [BitVec.ofNat_toNat, BitVec.setWidth_eq]
  have hb : x.toInt8.toBitVec.toNat < 256 := x.toInt8.toBitVec.isLt
  refine ⟨x.toInt8.toBitVec.toNat, hb, ?_, ?_⟩
  · rw [← key _ hb, ← h1, h]
  · rw [← sb_and _ hb, ← key _ hb, ← h1, h]
