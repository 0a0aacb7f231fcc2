/-! pure rows: 'x answers, and Q' for Option; numbers; reads of the state -/
def ok {α : Type} (x : Option α) (Q : α → Prop) : Prop := ∃ a, x = some a ∧ Q a
theorem ok_some {α : Type} {a : α} {Q : α → Prop} : ok (some a) Q ↔ Q a := ⟨fun ⟨_, e, h⟩ => by cases e; exact h, fun h => ⟨a, rfl, h⟩⟩
theorem ok_none {α : Type} {Q : α → Prop} : ok (none : Option α) Q ↔ False := ⟨fun ⟨_, e, _⟩ => (nomatch e), False.elim⟩
theorem ok_grd {α : Type} {b : Bool} {x : Option α} {Q : α → Prop} : ok (grd b x) Q ↔ b = true ∧ ok x Q := by
  cases b
  · exact ⟨fun ⟨_, e, _⟩ => (nomatch e), fun h => (nomatch h.1)⟩
  · exact ⟨fun h => ⟨rfl, h⟩, fun h => h.2⟩
theorem ok_bo {α β : Type} {x : Option α} {f : α → Option β} {Q : β → Prop} : ok (bo x f) Q ↔ ok x (fun a => ok (f a) Q) := by
  cases x with
  | none => exact ⟨fun ⟨_, e, _⟩ => (nomatch e), fun ⟨_, e, _⟩ => (nomatch e)⟩
  | some a => rw [ok_some]; exact Iff.rfl
theorem ok_bd {α β : Type} {x : Option (α × St)} {f : α → St → Option β} {Q : β → Prop} : ok (bd x f) Q ↔ ok x (fun a => ok (f a.1 a.2) Q) := by
  cases x with
  | none => exact ⟨fun ⟨_, e, _⟩ => (nomatch e), fun ⟨_, e, _⟩ => (nomatch e)⟩
  | some a => obtain ⟨a, s⟩ := a; rw [ok_some]; exact Iff.rfl
theorem ok_ite {α : Type} {c : Prop} [Decidable c] {x y : Option α} {Q : α → Prop} : ok (if c then x else y) Q ↔ (c → ok x Q) ∧ (¬ c → ok y Q) := by
  by_cases h : c
  · rw [if_pos h]; exact ⟨fun k => ⟨fun _ => k, fun n => absurd h n⟩, fun k => k.1 h⟩
  · rw [if_neg h]; exact ⟨fun k => ⟨fun n => absurd n h, fun _ => k⟩, fun k => k.2 h⟩
theorem ok.mono {α : Type} {x : Option α} {P Q : α → Prop} (h : ok x P) (k : ∀ a, P a → Q a) : ok x Q := let ⟨a, e, p⟩ := h; ⟨a, e, k a p⟩
theorem ok.eq {α : Type} {x : Option α} {P : α → Prop} (h : ok x P) : ∃ a, x = some a ∧ P a := h
theorem bo_some {α β : Type} (a : α) (f : α → Option β) : bo (some a) f = f a := rfl
theorem bd_some {α β : Type} (a : α) (s : St) (f : α → St → Option β) : bd (some (a, s)) f = f a s := rfl
theorem grd_true {α : Type} (x : Option α) : grd true x = x := rfl
theorem grd_of {α : Type} {b : Bool} (h : b = true) (x : Option α) : grd b x = x := by rw [h]; rfl
theorem ok_bo_of {α β : Type} {x : Option α} {P : α → Prop} {f : α → Option β} {Q : β → Prop} (h : ok x P) (k : ∀ a, P a → ok (f a) Q) : ok (bo x f) Q := ok_bo.mpr (h.mono k)
theorem ok_bd_of {α β : Type} {x : Option (α × St)} {P : α × St → Prop} {f : α → St → Option β} {Q : β → Prop} (h : ok x P) (k : ∀ a s, P (a, s) → ok (f a s) Q) : ok (bd x f) Q := ok_bd.mpr (h.mono (fun p hp => k p.1 p.2 hp))
/-! numbers -/
theorem nlit (n : Nat) : (OfNat.ofNat n : Int32) = nI n := rfl
theorem nlt {a b : Nat} (ha : a < 2147483648) (hb : b < 2147483648) : (nI a < nI b) ↔ a < b :=
  ⟨fun h => Nat.lt_of_not_le (fun k => nI_nlt k ha h), fun h => nI_lt h hb⟩
theorem nle {a b : Nat} (ha : a < 2147483648) (hb : b < 2147483648) : (nI a ≤ nI b) ↔ a ≤ b :=
  ⟨fun h => Nat.le_of_not_lt (fun k => nI_ge k ha h), fun h => nI_le h hb⟩
theorem neq {a b : Nat} (ha : a < 2147483648) (hb : b < 2147483648) : (nI a = nI b) ↔ a = b :=
  ⟨fun h => by have := congrArg Int32.toNatClampNeg h; rwa [nI_clamp ha, nI_clamp hb] at this, fun h => by rw [h]⟩
theorem ncl {a : Nat} (ha : a < 2147483648) : (nI a).toNatClampNeg = a := nI_clamp ha
theorem nint {a : Nat} (ha : a < 2147483648) : (nI a).toInt = (a : Int) := nI_toInt ha
theorem ib_n {a : Nat} (ha : a < 2147483648) (n : Nat) : ib (nI a) n = decide (a < n) := by
  unfold ib
  rw [ncl ha, decide_eq_decide]
  constructor
  · intro h; exact Nat.lt_of_not_le (fun k => h (Or.inr k))
  · intro h; rintro (k | k)
    · exact nI_pos ha k
    · exact absurd h (Nat.not_lt.mpr k)
theorem nadd (a b : Nat) : nI a + nI b = nI (a + b) := nI_add a b
theorem nmul (a b : Nat) : nI a * nI b = nI (a * b) := by
  unfold nI
  exact (Int32.ofNat_mul a b).symm
theorem nsub {a b : Nat} (h : b ≤ a) : nI a - nI b = nI (a - b) := by
  have e : nI a = nI (a - b) + nI b := by rw [nadd, Nat.sub_add_cancel h]
  rw [e, Int32.add_sub_cancel]
theorem ndiv {a b : Nat} (ha : a < 2147483648) (hb : b < 2147483648) : nI a / nI b = nI (a / b) := by
  apply Int32.toInt_inj.mp
  rw [Int32.toInt_div_of_ne_left]
  · rw [nint ha, nint hb, nint (Nat.lt_of_le_of_lt (Nat.div_le_self a b) ha)]
    exact (Int.ofNat_tdiv a b).symm
  · intro h
    have := congrArg Int32.toInt h
    rw [nint ha] at this
    simp at this
theorem nmax {a b : Nat} (ha : a < 2147483648) (hb : b < 2147483648) : imax (nI a) (nI b) = nI (max a b) := by
  unfold imax
  by_cases h : a < b
  · rw [if_pos ((nlt ha hb).mpr h), Nat.max_eq_right (Nat.le_of_lt h)]
  · rw [if_neg (fun k => h ((nlt ha hb).mp k)), Nat.max_eq_left (Nat.le_of_not_lt h)]
theorem nmin {a b : Nat} (ha : a < 2147483648) (hb : b < 2147483648) : imin (nI a) (nI b) = nI (min a b) := by
  unfold imin
  by_cases h : b < a
  · rw [if_pos ((nlt hb ha).mpr h), Nat.min_eq_right (Nat.le_of_lt h)]
  · rw [if_neg (fun k => h ((nlt hb ha).mp k)), Nat.min_eq_left (Nat.le_of_not_lt h)]
theorem nand (a b : Nat) : nI a &&& nI b = nI (a &&& b) :=
  Int32.toBitVec_inj.1 (by
    show (BitVec.ofNat 32 a &&& BitVec.ofNat 32 b) = BitVec.ofNat 32 (a &&& b)
    exact BitVec.ofNat_and.symm)
theorem nor (a b : Nat) : nI a ||| nI b = nI (a ||| b) :=
  Int32.toBitVec_inj.1 (by
    show (BitVec.ofNat 32 a ||| BitVec.ofNat 32 b) = BitVec.ofNat 32 (a ||| b)
    exact BitVec.ofNat_or.symm)
theorem nshl_c : ∀ k, k < 32 → ((nI k &&& 31).toBitVec.smod 32).toNat = k := by decide +kernel
theorem nshl (a : Nat) {k : Nat} (hk : k < 32) : nI a <<< (nI k &&& 31) = nI (a <<< k) :=
  Int32.toBitVec_inj.1 (BitVec.eq_of_toNat_eq (by
    rw [pk_shl _ _ k (nshl_c k hk), Nat.shiftLeft_eq]
    show (a % 2 ^ 32) * 2 ^ k % 2 ^ 32 = (a * 2 ^ k) % 2 ^ 32
    rw [Nat.mul_mod (a % 2 ^ 32), Nat.mod_mod, ← Nat.mul_mod]))
theorem nushr_c : ∀ k, k < 32 → (((nI k).toUInt32 &&& Int32.toUInt32 31).toBitVec % 32).toNat = k := by decide +kernel
theorem nushr {a k : Nat} (ha : a < 4294967296) (hk : k < 32) : ushr (nI a) (nI k) = nI (a >>> k) := by
  unfold ushr
  rw [pk_ushrN ha (nI k) k (nushr_c k hk), Nat.shiftRight_eq_div_pow]
theorem nbit {a k : Nat} (ha : a < 4294967296) (hk : k < 32) : ushr (nI a) (nI k) &&& nI 1 = nI (if a.testBit k then 1 else 0) := by
  rw [nushr ha hk, nand, Nat.and_one_is_mod, Nat.shiftRight_eq_div_pow]
  congr 1
  rw [Nat.testBit_eq_decide_div_mod_eq]
  by_cases h : a / 2 ^ k % 2 = 1
  · simp [h]
  · simp [h]; omega
theorem nneg (a : Nat) (ha : a < 2147483648) : nI a ≠ -1 := by
  intro h
  have := congrArg Int32.toInt h
  rw [nint ha] at this
  simp at this
theorem nlt_neg {a : Nat} (ha : a < 2147483648) : ¬ nI a < -1 := by
  rw [Int32.lt_iff_toInt_lt, nint ha]
  simp
/-! reads -/
theorem si_rd (σ : St) (o j a b : Nat) (x : Int32) : (si σ o j x).1 a b = if a = o then (if b = j then x else σ.1 o b) else σ.1 a b := by
  unfold si upd
  dsimp only
  by_cases h : a = o
  · rw [if_pos h, if_pos h]
  · rw [if_neg h, if_neg h]
theorem sl_rd (σ : St) (o j a b : Nat) (x : Int64) : (sl σ o j x).2 a b = if a = o then (if b = j then x else σ.2 o b) else σ.2 a b := by
  unfold sl vp_updL
  dsimp only
  by_cases h : a = o
  · rw [if_pos h, if_pos h]
  · rw [if_neg h, if_neg h]
theorem si_2 (σ : St) (o j : Nat) (x : Int32) : (si σ o j x).2 = σ.2 := rfl
theorem sl_1 (σ : St) (o j : Nat) (x : Int64) : (sl σ o j x).1 = σ.1 := rfl
theorem sr_rd (σ : St) (o a : Nat) (f : Nat → Int32) : (sr σ o f).1 a = if a = o then f else σ.1 a := rfl
theorem srl_rd (σ : St) (o a : Nat) (f : Nat → Int64) : (srl σ o f).2 a = if a = o then f else σ.2 a := rfl
/-- nothing changed but the variables of V -/
def Fr (V : List Nat) (σ σ' : St) : Prop := ∀ a, V.contains a = false → σ'.1 a = σ.1 a ∧ σ'.2 a = σ.2 a
theorem Fr.i {V : List Nat} {σ σ' : St} (h : Fr V σ σ') (a : Nat) (ha : V.contains a = false) (j : Nat) : σ'.1 a j = σ.1 a j := by rw [(h a ha).1]
theorem Fr.l {V : List Nat} {σ σ' : St} (h : Fr V σ σ') (a : Nat) (ha : V.contains a = false) (j : Nat) : σ'.2 a j = σ.2 a j := by rw [(h a ha).2]
theorem Fr.refl (V : List Nat) (σ : St) : Fr V σ σ := fun _ _ => ⟨rfl, rfl⟩
theorem Fr.trans {V : List Nat} {σ σ' σ'' : St} (h : Fr V σ σ') (k : Fr V σ' σ'') : Fr V σ σ'' := fun a ha => ⟨(k a ha).1.trans (h a ha).1, (k a ha).2.trans (h a ha).2⟩
theorem Fr.wide {V W : List Nat} {σ σ' : St} (h : Fr V σ σ') (k : V.all (fun a => W.contains a) = true) : Fr W σ σ' := fun a ha => h a (by
  cases e : V.contains a with
  | false => rfl
  | true =>
    have h1 : a ∈ V := List.contains_iff_mem.mp e
    have h2 := List.all_eq_true.mp k a h1
    rw [ha] at h2; cases h2)
theorem Fr.si {V : List Nat} {σ σ' : St} (h : Fr V σ σ') (o j : Nat) (x : Int32) (k : V.contains o = true) : Fr V σ (si σ' o j x) := fun a ha => by
  have e : a ≠ o := fun e => by rw [e, k] at ha; cases ha
  rw [si_ne σ' j x e, si_2]; exact h a ha
theorem Fr.sl {V : List Nat} {σ σ' : St} (h : Fr V σ σ') (o j : Nat) (x : Int64) (k : V.contains o = true) : Fr V σ (sl σ' o j x) := fun a ha => by
  have e : a ≠ o := fun e => by rw [e, k] at ha; cases ha
  rw [sl_ne σ' j x e, sl_1]; exact h a ha
theorem Fr.sr {V : List Nat} {σ σ' : St} (h : Fr V σ σ') (o : Nat) (f : Nat → Int32) (k : V.contains o = true) : Fr V σ (sr σ' o f) := fun a ha => by
  have e : a ≠ o := fun e => by rw [e, k] at ha; cases ha
  rw [sr_ne σ' f e, sr_2]; exact h a ha
theorem Fr.srl {V : List Nat} {σ σ' : St} (h : Fr V σ σ') (o : Nat) (f : Nat → Int64) (k : V.contains o = true) : Fr V σ (srl σ' o f) := fun a ha => by
  have e : a ≠ o := fun e => by rw [e, k] at ha; cases ha
  rw [srl_ne σ' f e, srl_1]; exact h a ha
