/-! the views: THE LIST and TERMS as numbers -/
abbrev Lv : Type := Nat × (Nat → Nat) × (Nat → Nat) × (Nat → Nat) × (Nat → Nat) × (Nat → Nat → Nat) × (Nat → Int64) × (Nat → Int64) × Nat × Nat × Nat × Nat
abbrev Lv.n (L : Lv) : Nat := L.1
abbrev Lv.w (L : Lv) : Nat → Nat := L.2.1
abbrev Lv.h (L : Lv) : Nat → Nat := L.2.2.1
abbrev Lv.k (L : Lv) : Nat → Nat := L.2.2.2.1
abbrev Lv.c (L : Lv) : Nat → Nat := L.2.2.2.2.1
abbrev Lv.d (L : Lv) : Nat → Nat → Nat := L.2.2.2.2.2.1
abbrev Lv.nm (L : Lv) : Nat → Int64 := L.2.2.2.2.2.2.1
abbrev Lv.mn (L : Lv) : Nat → Int64 := L.2.2.2.2.2.2.2.1
abbrev Lv.gap (L : Lv) : Nat := L.2.2.2.2.2.2.2.2.1
abbrev Lv.sq (L : Lv) : Nat := L.2.2.2.2.2.2.2.2.2.1
abbrev Lv.lst (L : Lv) : Nat := L.2.2.2.2.2.2.2.2.2.2.1
abbrev Lv.ech (L : Lv) : Nat := L.2.2.2.2.2.2.2.2.2.2.2
abbrev Tv : Type := Int64 × Nat × (Nat → Nat) × Int64
abbrev Tv.nm (T : Tv) : Int64 := T.1
abbrev Tv.n (T : Tv) : Nat := T.2.1
abbrev Tv.d (T : Tv) : Nat → Nat := T.2.2.1
abbrev Tv.kd (T : Tv) : Int64 := T.2.2.2
/-- n SOUNDS, four bits each -/
def sp (f : Nat → Nat) : Nat → Nat
  | 0 => 0
  | n + 1 => sp f n + f n * 16 ^ n
theorem sp_lt {f : Nat → Nat} {n : Nat} (h : ∀ i, i < n → f i < 16) : sp f n < 16 ^ n := by
  induction n with
  | zero => simp [sp]
  | succ n ih =>
    have h1 := ih (fun i hi => h i (Nat.lt_succ_of_lt hi))
    have h2 := h n (Nat.lt_succ_self n)
    have h3 : f n * 16 ^ n ≤ 15 * 16 ^ n := Nat.mul_le_mul_right _ (by omega)
    rw [Nat.pow_succ]
    unfold sp
    omega
theorem sp_at {f : Nat → Nat} {n : Nat} (h : ∀ i, i < n → f i < 16) : ∀ i, i < n → sp f n / 16 ^ i % 16 = f i := by
  induction n with
  | zero => intro i hi; omega
  | succ n ih =>
    intro i hi
    have hl := sp_lt (f := f) (n := n) (fun i hi => h i (Nat.lt_succ_of_lt hi))
    have h2 := h n (Nat.lt_succ_self n)
    unfold sp
    by_cases e : i = n
    · subst e
      rw [Nat.add_mul_div_right _ _ (Nat.pow_pos (by omega)), Nat.div_eq_of_lt hl, Nat.zero_add, Nat.mod_eq_of_lt h2]
    · have hin : i < n := by omega
      have e2 : f n * 16 ^ n = (f n * 16 ^ (n - i - 1) * 16) * 16 ^ i := by
        rw [Nat.mul_assoc, Nat.mul_assoc, ← Nat.pow_succ', ← Nat.pow_add]
        congr 2
        omega
      rw [e2, Nat.add_mul_div_right _ _ (Nat.pow_pos (by omega)), Nat.add_mul_mod_self_right]
      exact ih (fun i hi => h i (Nat.lt_succ_of_lt hi)) i hin
theorem sp_congr {f g : Nat → Nat} {n : Nat} (h : ∀ i, i < n → f i = g i) : sp f n = sp g n := by
  induction n with
  | zero => rfl
  | succ n ih => unfold sp; rw [ih (fun i hi => h i (Nat.lt_succ_of_lt hi)), h n (Nat.lt_succ_self n)]
def LOk (L : Lv) : Prop := L.n ≤ 40 ∧ (∀ s, s < L.n → (1 ≤ L.w s ∧ L.w s ≤ 60) ∧ (1 ≤ L.h s ∧ L.h s ≤ 60) ∧ L.k s ≤ 3 ∧ (L.k s = 1 → 1 ≤ L.c s ∧ L.c s ≤ 3) ∧ (L.k s ≠ 1 → L.c s = 0) ∧ ∀ i, i < L.c s → L.d s i < 16) ∧ L.gap ≤ 9 ∧ (8 ≤ L.sq ∧ L.sq ≤ 99) ∧ (1 ≤ L.lst ∧ L.lst ≤ 100) ∧ L.ech ≤ 3
/-- the class's list, cell o, holds L -/
def LX (o : Nat) (σ : St) (L : Lv) : Prop := σ.1 (1000 + 200 * o + 0) 0 = nI L.n ∧ (∀ s, s < L.n → σ.2 (8 * o + 1 - 6) s = L.nm s ∧ σ.1 (8 * o + 2 - 6) s = nI (L.w s) ∧ σ.1 (8 * o + 3 - 6) s = nI (L.h s) ∧ σ.1 (8 * o + 4 - 6) s = nI (L.k s) ∧ σ.1 (8 * o + 5 - 6) s = nI (L.c s) ∧ σ.1 (8 * o + 6 - 6) s = nI (sp (L.d s) (L.c s)) ∧ σ.2 (8 * o + 7 - 6) s = L.mn s) ∧ σ.1 (8 * o + 8 - 6) 0 = nI L.gap ∧ σ.1 (8 * o + 8 - 6) 1 = nI L.sq ∧ σ.1 (8 * o + 8 - 6) 2 = nI L.lst ∧ σ.1 (8 * o + 8 - 6) 3 = nI L.ech
/-- the reference's list holds L -/
def LM (τ : St) (L : Lv) : Prop := τ.1 3 0 = nI L.n ∧ (∀ s, s < L.n → τ.2 4 s = L.nm s ∧ τ.1 5 s = nI (L.w s) ∧ τ.1 6 s = nI (L.h s) ∧ τ.1 7 s = nI (L.k s) ∧ τ.1 8 s = nI (L.c s) ∧ (∀ i, i < L.c s → τ.1 9 (3 * s + i) = nI (L.d s i)) ∧ τ.2 10 s = L.mn s) ∧ τ.1 2 0 = nI L.gap ∧ τ.1 2 1 = nI L.sq ∧ τ.1 2 2 = nI L.lst ∧ τ.1 2 3 = nI L.ech
def TOk (nt : Nat) (T : Nat → Tv) : Prop := nt ≤ 40 ∧ ∀ t, t < nt → 1 ≤ (T t).n ∧ (T t).n ≤ 8 ∧ ∀ i, i < (T t).n → (T t).d i < 16
def TX (σ : St) (nt : Nat) (T : Nat → Tv) : Prop := σ.1 7600 0 = nI nt ∧ ∀ t, t < nt → σ.2 34 t = (T t).nm ∧ σ.1 35 t = nI (sp (T t).d (T t).n) ∧ σ.1 36 t = nI (T t).n ∧ σ.2 37 t = (T t).kd
def TM (τ : St) (nt : Nat) (T : Nat → Tv) : Prop := τ.1 1049 0 = nI nt ∧ ∀ t, t < nt → τ.2 30 t = (T t).nm ∧ (∀ i, i < (T t).n → τ.1 32 (8 * t + i) = nI ((T t).d i)) ∧ τ.1 31 t = nI (T t).n ∧ τ.2 33 t = (T t).kd
/-- both states alike -/
def RTape (σ τ : St) : Prop := ∃ n, n ≤ 800 ∧ σ.1 4801 0 = nI n ∧ τ.1 1001 0 = nI n ∧ ∀ j, j < n → σ.1 20 j = τ.1 1 j ∧ (τ.1 1 j).toInt8.toInt32 = τ.1 1 j
def RFault (σ τ : St) : Prop := σ.1 4811 0 = τ.1 1008 0 ∧ σ.1 4812 0 = τ.1 1009 0
def RList (σ τ : St) (L : Lv) : Prop := LOk L ∧ LX 1 σ L ∧ LM τ L
def RTerms (σ τ : St) (nt : Nat) (T : Nat → Tv) : Prop := TOk nt T ∧ TX σ nt T ∧ TM τ nt T
def RBlocks (σ τ : St) (ns : Nat) : Prop := ∃ nb nl, nb ≤ 12 ∧ nl ≤ 24 ∧ σ.1 5602 0 = nI nb ∧ τ.1 1035 0 = nI nb ∧ σ.1 5605 0 = nI nl ∧ τ.1 1036 0 = nI nl ∧ (∀ b, b < nb → σ.1 25 b = τ.1 22 b ∧ ∃ w h, w < 32768 ∧ h < 65536 ∧ σ.1 24 b = nI (w * 65536 + h) ∧ τ.1 20 b = nI w ∧ τ.1 21 b = nI h) ∧ (∀ k, k < nl → σ.1 26 k = τ.1 23 k ∧ (∃ s, s < ns ∧ τ.1 23 k = nI s) ∧ σ.1 27 k = τ.1 24 k ∧ (∃ b, b < nb ∧ τ.1 24 k = nI b) ∧ σ.1 28 k = τ.1 25 k ∧ σ.1 29 k = τ.1 26 k ∧ ∃ w h, w < 32768 ∧ h < 65536 ∧ σ.1 30 k = nI (w * 65536 + h) ∧ τ.1 27 k = nI w ∧ τ.1 28 k = nI h)
def RFace (σ τ : St) : Prop := σ.1 1012 0 = τ.1 1048 0
def RRow (σ τ : St) (ns : Nat) : Prop := ∃ n, n ≤ 24 ∧ σ.1 12404 0 = nI n ∧ τ.1 1069 0 = nI n ∧ ∀ i, i < n → σ.1 58 i = τ.1 44 i ∧ ∃ s, s < ns ∧ τ.1 44 i = nI s
def RRead (σ τ : St) : Prop := ∃ n, n ≤ 24 ∧ σ.1 12411 0 = nI n ∧ τ.1 1074 0 = nI n ∧ ∀ i, i < n → σ.1 65 i = τ.1 48 i ∧ σ.1 66 i = τ.1 49 i
def RGroup (σ τ : St) : Prop := ∃ n, n ≤ 24 ∧ σ.1 9004 0 = nI n ∧ τ.1 1082 0 = nI n ∧ ∀ i, i < n → σ.1 44 i = τ.1 55 i ∧ σ.1 45 i = τ.1 56 i
def RPass (σ τ : St) (nt : Nat) : Prop := ∃ n, n ≤ 12 ∧ σ.1 14402 0 = nI n ∧ τ.1 1085 0 = nI n ∧ ∀ i, i < n → σ.1 68 i = τ.1 57 i ∧ ∃ t, t < nt ∧ τ.1 57 i = nI t
/-- m SIGNS of a row, six bits each, the last lowest -/
def sp6 (f : Nat → Nat) : Nat → Nat
  | 0 => 0
  | n + 1 => sp6 f n * 64 + f n
def RFill (σ τ : St) : Prop := ∃ n, n ≤ 12 ∧ σ.1 14405 0 = nI n ∧ τ.1 1086 0 = nI n ∧ ∀ i, i < n → σ.1 70 i = τ.1 62 i ∧ ∃ m f, m ≤ 10 ∧ (∀ j, j < m → f j < 64 ∧ τ.1 64 (12 * i + j) = nI (f j)) ∧ σ.1 71 i = nI m ∧ τ.1 63 i = nI m ∧ σ.2 72 i = lN (sp6 f m)
def RVals (σ τ : St) (ns : Nat) : Prop := ∃ n d, n ≤ 60 ∧ d ≤ 999 ∧ σ.1 15600 0 = nI n ∧ τ.1 1096 0 = nI n ∧ σ.1 15601 0 = nI d ∧ τ.1 1097 0 = nI d ∧ ∀ v, v < n → σ.1 74 v = τ.1 65 v ∧ σ.1 75 v = τ.1 66 v ∧ σ.1 76 v = τ.1 67 v ∧ ∃ m f, 1 ≤ m ∧ m ≤ 3 ∧ (∀ i, i < m → f i < 16 ∧ τ.1 69 (3 * v + i) = nI (f i)) ∧ σ.1 78 v = nI m ∧ τ.1 68 v = nI m ∧ σ.1 77 v = nI (sp f m)
