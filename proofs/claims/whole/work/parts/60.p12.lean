/-! a clause of THE LIST -/
def up {α : Type} (f : Nat → α) (n : Nat) (x : α) : Nat → α := fun i => if i = n then x else f i
theorem up_is {α : Type} (f : Nat → α) (n : Nat) (x : α) : up f n x n = x := if_pos rfl
theorem up_ne {α : Type} (f : Nat → α) {n i : Nat} (x : α) (h : i ≠ n) : up f n x i = f i := if_neg h
def LAdd (L : Lv) (w h k c : Nat) (d : Nat → Nat) (nm mn : Int64) : Lv := (L.n + 1, up L.w L.n w, up L.h L.n h, up L.k L.n k, up L.c L.n c, up L.d L.n d, up L.nm L.n nm, up L.mn L.n mn, L.gap, L.sq, L.lst, L.ech)
def DX (σ : St) (L : Lv) (b : Nat) : Prop := LX 2 σ L ∧ σ.1 1409 0 = nI b
def DM (τ : St) (L : Lv) (b : Nat) : Prop := τ.1 3 1 = nI L.n ∧ (∀ s, s < L.n → τ.2 4 (40 + s) = L.nm s ∧ τ.1 5 (40 + s) = nI (L.w s) ∧ τ.1 6 (40 + s) = nI (L.h s) ∧ τ.1 7 (40 + s) = nI (L.k s) ∧ τ.1 8 (40 + s) = nI (L.c s) ∧ (∀ i, i < L.c s → τ.1 9 (3 * (40 + s) + i) = nI (L.d s i)) ∧ τ.2 10 (40 + s) = L.mn s) ∧ τ.1 2 4 = nI L.gap ∧ τ.1 2 5 = nI L.sq ∧ τ.1 2 6 = nI L.lst ∧ τ.1 2 7 = nI L.ech ∧ τ.1 1021 0 = nI (2 * b)
/-- the reference's list itself stays -/
def Kp (τ τ' : St) : Prop := (∀ s, s < 40 → τ'.2 4 s = τ.2 4 s ∧ τ'.1 5 s = τ.1 5 s ∧ τ'.1 6 s = τ.1 6 s ∧ τ'.1 7 s = τ.1 7 s ∧ τ'.1 8 s = τ.1 8 s ∧ τ'.2 10 s = τ.2 10 s) ∧ (∀ j, j < 120 → τ'.1 9 j = τ.1 9 j) ∧ (∀ i, i < 4 → τ'.1 2 i = τ.1 2 i) ∧ τ'.1 3 0 = τ.1 3 0
theorem Kp.refl (τ : St) : Kp τ τ := ⟨fun _ _ => ⟨rfl, rfl, rfl, rfl, rfl, rfl⟩, fun _ _ => rfl, fun _ _ => rfl, rfl⟩
theorem Kp.trans {τ τ' τ'' : St} (h : Kp τ τ') (k : Kp τ' τ'') : Kp τ τ'' := by
  refine ⟨fun s hs => ?_, fun j hj => (k.2.1 j hj).trans (h.2.1 j hj), fun i hi => (k.2.2.1 i hi).trans (h.2.2.1 i hi), k.2.2.2.trans h.2.2.2⟩
  obtain ⟨a1, a2, a3, a4, a5, a6⟩ := h.1 s hs
  obtain ⟨b1, b2, b3, b4, b5, b6⟩ := k.1 s hs
  exact ⟨b1.trans a1, b2.trans a2, b3.trans a3, b4.trans a4, b5.trans a5, b6.trans a6⟩
theorem FrP.kp {P : Nat → Nat → Prop} {τ τ' : St} (f : FrP P τ τ') (h : ∀ s, s < 40 → ¬ P 4 s ∧ ¬ P 5 s ∧ ¬ P 6 s ∧ ¬ P 7 s ∧ ¬ P 8 s ∧ ¬ P 10 s) (h9 : ∀ j, j < 120 → ¬ P 9 j) (h2 : ∀ i, i < 4 → ¬ P 2 i) (h3 : ¬ P 3 0) : Kp τ τ' :=
  ⟨fun s hs => ⟨(f 4 s (h s hs).1).2, (f 5 s (h s hs).2.1).1, (f 6 s (h s hs).2.2.1).1, (f 7 s (h s hs).2.2.2.1).1, (f 8 s (h s hs).2.2.2.2.1).1, (f 10 s (h s hs).2.2.2.2.2).2⟩, fun j hj => (f 9 j (h9 j hj)).1, fun i hi => (f 2 i (h2 i hi)).1, (f 3 0 h3).1⟩
/-- the class writes the s-th SIGN of the spare list -/
def PXs (s : Nat) (a j : Nat) : Prop := VC.contains a = true ∨ (([11, 12, 13, 14, 15, 16, 17] : List Nat).contains a = true ∧ j = s)
def PMs (s : Nat) (a j : Nat) : Prop := VCM.contains a = true ∨ (([4, 5, 6, 7, 8, 10] : List Nat).contains a = true ∧ j = 40 + s) ∨ (a = 9 ∧ 3 * (40 + s) ≤ j ∧ j < 3 * (40 + s) + 3) ∨ (a = 3 ∧ j = 1)
theorem PX_s {s : Nat} : ∀ a j, PX s a j → PXs s a j := by
  rintro a j (h | ⟨h, k⟩)
  · exact Or.inl h
  · exact Or.inr ⟨csub rfl h, k⟩
theorem PM_s {s : Nat} : ∀ a j, PM s a j → PMs s a j := by
  rintro a j (h | ⟨h, k⟩ | h | h)
  · exact Or.inl h
  · exact Or.inr (Or.inl ⟨csub rfl h, k⟩)
  · exact Or.inr (Or.inr (Or.inl h))
  · exact Or.inr (Or.inr (Or.inr h))
theorem VN_PXs {s : Nat} : ∀ a j, VN.contains a = true → PXs s a j := fun a j h => Or.inl (csub rfl h)
theorem VC_PXs {s : Nat} : ∀ a j, VC.contains a = true → PXs s a j := fun a j h => Or.inl h
theorem VM_PMs {s : Nat} : ∀ a j, VM.contains a = true → PMs s a j := fun a j h => Or.inl (csub rfl h)
theorem VCM_PMs {s : Nat} : ∀ a j, VCM.contains a = true → PMs s a j := fun a j h => Or.inl h
theorem PXs_tape {s : Nat} : ¬ PXs s 4801 0 ∧ ∀ j, ¬ PXs s 20 j := by
  unfold PXs; simp
theorem PMs_tape {s : Nat} : ¬ PMs s 1002 0 ∧ ∀ j, ¬ PMs s 1 j := by
  unfold PMs; simp
theorem PM_kp {s : Nat} {τ τ' : St} (f : FrP (PMs s) τ τ') : Kp τ τ' := by
  refine f.kp (fun t ht => ?_) (fun j hj => ?_) (fun i hi => ?_) ?_ <;> unfold PMs <;> simp <;> omega
theorem VCM_kp {τ τ' : St} (f : Fr VCM τ τ') : Kp τ τ' := PM_kp (s := 0) (f.toP VCM_PMs)
abbrev VL : List Nat := [4811, 4812, 4802, 4803, 4804, 4805, 4806, 4807, 4808, 4809, 4810, 11, 12, 13, 14, 15, 16, 17, 18, 1400, 1409]
abbrev VLM : List Nat := [1008, 1009, 1011, 1003, 1004, 1005, 1006, 1007, 1010, 2, 3, 4, 5, 6, 7, 8, 9, 10, 1021]
theorem PX_VL {s : Nat} : ∀ a j, PXs s a j → VL.contains a = true := by
  rintro a j (h | ⟨h, _⟩)
  · exact csub rfl h
  · exact csub rfl h
theorem PM_VLM {s : Nat} : ∀ a j, PMs s a j → VLM.contains a = true := by
  rintro a j (h | ⟨h, _⟩ | ⟨h, _⟩ | ⟨h, _⟩)
  · exact csub rfl h
  · exact csub rfl h
  · rw [h]; rfl
  · rw [h]; rfl
def ClPost (n : Nat) (B : Nat → Nat) (p : Nat) (a c : Int32 × St) : Prop := (a.1 = 0 ∧ c.1 = 0 ∧ RFault a.2 c.2) ∨ (a.1 = 1 ∧ c.1 = 1 ∧ ∃ p' L' b', p < p' ∧ p' ≤ n ∧ a.2.1 4802 0 = nI p' ∧ TokM c.2 n B p' ∧ LOk L' ∧ DX a.2 L' b' ∧ DM c.2 L' b' ∧ b' < 16 ∧ RFault a.2 c.2)
theorem x_marked {n : Nat} {B : Nat → Nat} {σ : St} {p c : Nat} (hX : TapeX σ n B) (hp : p ≤ n) (hK : TokX σ n B p) (hc : c < 256) : f_X8_isMarked (nI c) σ = if tk B n p = 3 ∧ B (tq B n p) = c then 1 else 0 := by
  have hn := hX.1
  unfold f_X8_isMarked
  by_cases e : tk B n p = 3
  · rw [if_pos ((knd3 hK).mpr e), hK.2.2.2.2.2 e]
    have hgt := te_gt (B := B) (n := n) (p := p) (by omega)
    have hle := te_le (B := B) hp
    have hb := (hX.2.2 (tq B n p) (by omega)).1
    by_cases e2 : B (tq B n p) = c
    · rw [e2, if_pos rfl, if_pos ⟨e, rfl⟩]
    · rw [if_neg (fun h => e2 ((neq (by omega) (by omega)).mp h)), if_neg (fun h => e2 h.2)]
  · rw [if_neg (fun h => e ((knd3 hK).mp h)), if_neg (fun h => e h.1)]
theorem srt_mark {k c : Nat} (hk : k < 5) (hM : k = 3 → isM c = true) : (srt k c = 3 ↔ k = 3 ∧ c = 59) ∧ (srt k c = 4 ↔ k = 3 ∧ c = 58) ∧ (srt k c = 5 ↔ k = 3 ∧ c = 42) ∧ (srt k c = 6 ↔ k = 3 ∧ c = 38) ∧ (srt k c = 7 ↔ k = 3 ∧ c = 45) ∧ (srt k c = 8 ↔ k = 3 ∧ c = 40) ∧ (srt k c = 9 ↔ k = 3 ∧ c = 41) := by
  have hM' : k = 3 → (c = 59 ∨ c = 58 ∨ c = 42 ∨ c = 38 ∨ c = 45 ∨ c = 40 ∨ c = 41) := fun h => of_decide_eq_true (hM h)
  unfold srt
  refine ⟨?_, ?_, ?_, ?_, ?_, ?_, ?_⟩ <;> (repeat' split) <;> omega
theorem tk_M {B : Nat → Nat} {n p : Nat} (h : tk B n p = 3) : isM (B (tq B n p)) = true := by
  unfold tk at h
  by_cases h1 : n ≤ tq B n p
  · rw [if_pos h1] at h; omega
  · rw [if_neg h1] at h
    split at h
    · split at h <;> omega
    · split at h
      · split at h <;> omega
      · split at h
        · assumption
        · omega
theorem m_srt {τ : St} {n : Nat} {B : Nat → Nat} {p : Nat} (h : TokM τ n B p) : (τ.1 1003 0 = 3 ↔ tk B n p = 3 ∧ B (tq B n p) = 59) ∧ (τ.1 1003 0 = 10 ↔ tk B n p = 0) := by
  have hs := srt_1 (c := B (tq B n p)) (tk_lt B n p)
  have hm := srt_mark (c := B (tq B n p)) (tk_lt B n p) (fun e => tk_M e)
  rw [h.2.2.1, show (3 : Int32) = nI 3 from rfl, show (10 : Int32) = nI 10 from rfl, neq (by omega) (by omega), neq (by omega) (by omega)]
  exact ⟨hm.1, hs.2.2.1⟩
/-- behind a clause: the ; -/
theorem semi_lock {N n : Nat} {B : Nat → Nat} {p p0 b : Nat} {L : Lv} {σ τ : St} (hN : 802 < N) (hp : p ≤ n) (hp0 : p0 ≤ p) (hX : TapeX σ n B) (hM : TapeM τ n B) (hK : TokX σ n B p) (mK : TokM τ n B p) (hL : LOk L) (dx : DX σ L b) (dm : DM τ L b) (hb : b < 16) (rf : RFault σ τ) :
    ok (if f_X8_isMarked 59 σ = 0 then bd (f_X8_refuse 1 σ) (fun r16_ σ16 => if r16_ = 0 then some ((0 : Int32), σ16) else some (1, σ16)) else some (1, σ)) (fun a => ok (f_X12_readClause_172 N 1 τ) (fun c => ClPost n B p0 a c ∧ Fr VC σ a.2 ∧ Fr VCM τ c.2)) := by
  have hn := hX.1
  unfold f_X12_readClause_172
  rw [show (59 : Int32) = nI 59 from rfl, x_marked hX hp hK (by omega), if_neg one_ne]
  by_cases e : tk B n p = 3 ∧ B (tq B n p) = 59
  · rw [i10 e, if_neg one_ne, if_pos ((m_srt mK).1.mpr e), ok_some]
    have hle := te_le (B := B) hp
    have hgt := te_gt (B := B) (n := n) (p := p) (by omega)
    have hge := tq_ge B n p
    obtain ⟨τ1, e1, mK1, g1⟩ := m_scan hN hle hM mK.2.1
    rw [e1, bo_some, ok_some]
    refine ⟨Or.inr ⟨rfl, rfl, te B n p, L, b, by omega, hle, hK.1, mK1, hL, dx, ?_, hb, rf.fr (V := VN) (W := VM) (Fr.refl _ _) g1 rfl rfl⟩, Fr.refl _ _, g1.wide rfl⟩
    unfold DM at dm ⊢
    have q := g1.at (l := [3, 4, 5, 6, 7, 8, 9, 10, 2, 1021]) rfl
    rw [(q 3 (by decide)).1, (q 4 (by decide)).2, (q 5 (by decide)).1, (q 6 (by decide)).1, (q 7 (by decide)).1, (q 8 (by decide)).1, (q 9 (by decide)).1, (q 10 (by decide)).2, (q 2 (by decide)).1, (q 1021 (by decide)).1]
    exact dm
  · rw [i00 e, if_pos rfl, if_neg (fun h => e ((m_srt mK).1.mp h))]
    unfold f_X8_refuse f_X12_fails
    rw [bd_some, if_pos rfl, ok_some, bd_some, show zbb 0 = true from rfl, grd_true, ok_some]
    exact ⟨Or.inl ⟨rfl, rfl, fault_of (tok_eq hK mK)⟩, ((Fr.refl _ _).si _ _ _ rfl).si _ _ _ rfl, ((Fr.refl _ _).si _ _ _ rfl).si _ _ _ rfl⟩
