theorem kyF_cases (B : Nat → Nat) (q m : Nat) : ∀ (l : List (List Nat)) (w : Nat), (∃ i, i < l.length ∧ Wd (l.getD i []) B q m = true ∧ kyF B q m l w = nI (w + i)) ∨ ((∀ i, i < l.length → Wd (l.getD i []) B q m = false) ∧ kyF B q m l w = -1) := by
  intro l
  induction l with
  | nil => intro w; exact Or.inr ⟨fun i hi => by simp at hi, rfl⟩
  | cons x r ih =>
    intro w
    unfold kyF
    cases hx : Wd x B q m with
    | true => exact Or.inl ⟨0, by simp, by simpa using hx, by simp⟩
    | false =>
      rw [if_neg (by decide)]
      rcases ih (w + 1) with ⟨i, h1, h2, h3⟩ | ⟨h1, h2⟩
      · exact Or.inl ⟨i + 1, by simpa using h1, by simpa using h2, by rw [h3]; congr 1; omega⟩
      · refine Or.inr ⟨fun i hi => ?_, h2⟩
        cases i with
        | zero => simpa using hx
        | succ i => simpa using h1 i (by simpa using hi)
theorem ky_iff {B : Nat → Nat} {q m w : Nat} (hw : w < 8) : kyv B q m = nI w ↔ Wd (wds.getD w []) B q m = true := by
  have inj : ∀ i, i < 8 → ∀ j, j < 8 → wds.getD i [] = wds.getD j [] → i = j := by decide
  unfold kyv
  rcases kyF_cases B q m wds 0 with ⟨i, h1, h2, h3⟩ | ⟨h1, h2⟩
  · rw [h3, Nat.zero_add]
    have h1' : i < 8 := h1
    constructor
    · intro h
      have := (neq (by omega) (by omega)).mp h
      rw [← this]; exact h2
    · intro h
      rw [inj i h1' w hw (Wd_one h2 h)]
  · rw [h2]
    constructor
    · intro h; exact absurd h.symm (nneg w (by omega))
    · intro h; rw [h1 w hw] at h; cases h
theorem ky_in {B : Nat → Nat} {q m : Nat} (a b : Nat) (ha : a < 8) (hb : b < 8) : ((nI a ≤ kyv B q m ∧ kyv B q m ≤ nI b) ↔ ∃ w, a ≤ w ∧ w ≤ b ∧ kyv B q m = nI w) := by
  constructor
  · intro h
    rcases kyF_cases B q m wds 0 with ⟨i, h1, h2, h3⟩ | ⟨h1, h2⟩
    · have h1' : i < 8 := h1
      have e : kyv B q m = nI i := by unfold kyv; rw [h3, Nat.zero_add]
      rw [e] at h
      exact ⟨i, (nle (by omega) (by omega)).mp h.1, (nle (by omega) (by omega)).mp h.2, e⟩
    · have e : kyv B q m = -1 := h2
      rw [e, Int32.le_iff_toInt_le, nint (by omega)] at h
      have := h.1
      rw [show ((-1 : Int32)).toInt = -1 from rfl] at this
      omega
  · rintro ⟨w, h1, h2, h3⟩
    rw [h3]
    exact ⟨nI_le h1 (by omega), nI_le h2 (by omega)⟩
def mVal (N : Nat) (x1 : Int32) (τ : St) : Option (Int32 × St) := if τ.1 1003 0 = 1 then (if f_X12_in (τ.1 1004 0) 5 7 τ = 0 then f_X12_readSign_304 N τ else bo (f_X12_scan N τ) (fun σ19 => if τ.1 1004 0 = 5 then bo (f_X12_isRow N σ19) (fun r22_ => if r22_ = 0 then f_X12_readSign_182 N σ19 else f_X12_readSign_188 N x1 (τ.1 1004 0) σ19) else (if σ19.1 1003 0 = 1 then f_X12_readSign_188 N x1 (τ.1 1004 0) σ19 else f_X12_readSign_182 N σ19))) else f_X12_readSign_304 N τ
def ValPost (n : Nat) (B : Nat → Nat) (p s : Nat) (a c : Int32 × St) : Prop := (a.1 = 0 ∧ c.1 = 0 ∧ RFault a.2 c.2) ∨ (a.1 = 1 ∧ c.1 = 1 ∧ ∃ p2 kk cc dd mm, p ≤ p2 ∧ p2 ≤ n ∧ TokX a.2 n B p2 ∧ TokM c.2 n B p2 ∧ kk ≤ 3 ∧ (kk = 1 → 1 ≤ cc ∧ cc ≤ 3) ∧ (kk ≠ 1 → cc = 0) ∧ (∀ i, i < cc → dd i < 16) ∧ a.2.1 14 s = nI kk ∧ a.2.1 15 s = nI cc ∧ a.2.1 16 s = nI (sp dd cc) ∧ a.2.2 17 s = mm ∧ c.2.1 7 (40 + s) = nI kk ∧ c.2.1 8 (40 + s) = nI cc ∧ (∀ i, i < cc → c.2.1 9 (3 * (40 + s) + i) = nI (dd i)) ∧ c.2.2 10 (40 + s) = mm ∧ c.2.1 3 1 = nI (s + 1) ∧ RFault a.2 c.2)
abbrev VNa : List Nat := [4802, 4803, 4804, 4805, 4806, 4807, 4808, 4809, 4810, 14, 15, 16, 17]
abbrev VMa : List Nat := [1003, 1004, 1005, 1006, 1007, 1010, 7, 8, 10, 9, 3]
theorem csub {V W : List Nat} (h : V.all (fun a => W.contains a) = true) {a : Nat} (ha : V.contains a = true) : W.contains a = true := List.all_eq_true.mp h a (List.contains_iff_mem.mp ha)
theorem VN_PX {s : Nat} : ∀ a j, VN.contains a = true → PX s a j := fun a j h => Or.inl (csub rfl h)
theorem VC_PX {s : Nat} : ∀ a j, VC.contains a = true → PX s a j := fun a j h => Or.inl h
theorem VM_PM {s : Nat} : ∀ a j, VM.contains a = true → PM s a j := fun a j h => Or.inl (csub rfl h)
theorem VCM_PM {s : Nat} : ∀ a j, VCM.contains a = true → PM s a j := fun a j h => Or.inl h
theorem val_bad {n : Nat} {B : Nat → Nat} {p s q : Nat} {σ τ σ1 τ1 : St} {k : Int32} (h1 : TokX σ1 n B q) (h2 : TokM τ1 n B q) (f : FrP (PX s) σ σ1) (g : FrP (PM s) τ τ1) : ok (bd (f_X8_refuse k σ1) (fun r5_ σ5 => grd (zbb r5_) (some (r5_, σ5)))) (fun a => ok (bd (f_X12_fails k τ1) (fun r6_ σ6 => grd (zbb r6_) (some (r6_, σ6)))) (fun c => ValPost n B p s a c ∧ FrP (PX s) σ a.2 ∧ FrP (PM s) τ c.2)) := by
  unfold f_X8_refuse f_X12_fails
  rw [bd_some, show zbb 0 = true from rfl, grd_true, ok_some, bd_some, show zbb 0 = true from rfl, grd_true, ok_some]
  exact ⟨Or.inl ⟨rfl, rfl, fault_of (tok_eq h1 h2)⟩, (f.si _ _ _ (Or.inl rfl)).si _ _ _ (Or.inl rfl), (g.si _ _ _ (Or.inl rfl)).si _ _ _ (Or.inl rfl)⟩
theorem srt_is1 {τ : St} {n : Nat} {B : Nat → Nat} {p : Nat} (h : TokM τ n B p) : τ.1 1003 0 = 1 ↔ tk B n p = 1 := by
  have hs := srt_1 (c := B (tq B n p)) (tk_lt B n p)
  rw [h.2.2.1, show (1 : Int32) = nI 1 from rfl, neq (by omega) (by omega)]
  exact hs.1
theorem knd_is {σ : St} {n : Nat} {B : Nat → Nat} {p : Nat} (h : TokX σ n B p) {k : Nat} (hk : k < 100) : σ.1 4803 0 = nI k ↔ tk B n p = k := by
  have := tk_lt B n p
  rw [h.2.1, neq (by omega) (by omega)]
theorem knd0 {σ : St} {n : Nat} {B : Nat → Nat} {p : Nat} (h : TokX σ n B p) : σ.1 4803 0 = 0 ↔ tk B n p = 0 := knd_is h (k := 0) (by omega)
theorem knd1 {σ : St} {n : Nat} {B : Nat → Nat} {p : Nat} (h : TokX σ n B p) : σ.1 4803 0 = 1 ↔ tk B n p = 1 := knd_is h (k := 1) (by omega)
theorem knd3 {σ : St} {n : Nat} {B : Nat → Nat} {p : Nat} (h : TokX σ n B p) : σ.1 4803 0 = 3 ↔ tk B n p = 3 := knd_is h (k := 3) (by omega)
theorem nw_mean {N n : Nat} {B : Nat → Nat} {p p0 s k : Nat} {σ τ σ5 τ5 : St} (hN : 802 < N) (hs : s < 40) (hp : p ≤ n) (hp0 : p0 ≤ p) (hk : k = 2 ∨ k = 3) (hX : TapeX σ5 n B) (hM : TapeM τ5 n B) (f : FrP (PX s) σ σ5) (g : FrP (PM s) τ τ5) (ha : σ5.1 4802 0 = nI p) (hb : τ5.1 1006 0 = nI p) (c5 : σ5.1 15 s = 0) (c6 : σ5.1 16 s = 0) (d8 : τ5.1 8 (40 + s) = 0) (d3 : τ5.1 3 1 = nI s) (rf : RFault σ5 τ5) :
    ok (f_X6_takeMeaning 2 N (nI s) (nI k) σ5) (fun a => ok (bo (f_X12_scan N τ5) (fun σ19 => if σ19.1 1003 0 = 1 then f_X12_readSign_188 N (nI (40 + s)) (nI (k + 4)) σ19 else f_X12_readSign_182 N σ19)) (fun c => ValPost n B p0 s a c ∧ FrP (PX s) σ a.2 ∧ FrP (PM s) τ c.2)) := by
  have hn := hX.1
  unfold f_X6_takeMeaning
  simp only [Nat.reduceMul, Nat.reduceAdd, Nat.reduceSub]
  refine ok_bo_of (x_next (by omega) hp hX ha) (fun σ1 h1 => ?_)
  obtain ⟨hK1, f1⟩ := h1
  have F1 : FrP (PX s) σ σ1 := f.trans (f1.toP VN_PX)
  rw [ncl (by omega), ib_n (by omega), decide_eq_true hs, grd_true, grd_true]
  have hle := te_le (B := B) hp
  have hge := te_ge B n p
  have hqe := tq_ge B n p
  by_cases e : tk B n p = 1
  · rw [if_pos ((knd1 hK1).mpr e)]
    obtain ⟨a1, a2, a3, a4⟩ := hK1.2.2.2.1 e
    rw [a2]
    have f2 : FrP (PX s) σ1 (sl (si σ1 14 s (nI k)) 17 s (nmf B (tq B n p) (te B n p - tq B n p))) := ((FrP.refl _ _).si _ _ _ (Or.inr ⟨rfl, rfl⟩)).sl _ _ _ (Or.inr ⟨rfl, rfl⟩)
    have hX2 : TapeX (sl (si σ1 14 s (nI k)) 17 s (nmf B (tq B n p) (te B n p - tq B n p))) n B := (hX.fr f1 rfl).frP f2 PX_tape.1 PX_tape.2
    refine ok_bo_of (x_next (by omega) hle hX2 (by rw [sl_1, si_rd, if_neg (by decide)]; exact hK1.1)) (fun σ3 h3 => ok_some.mpr ?_)
    obtain ⟨hK3, f3⟩ := h3
    refine ok_bo_of (m_scan hN hp hM hb) (fun τ1 g1 => ?_)
    obtain ⟨mK1, g1⟩ := g1
    rw [if_pos ((srt_is1 mK1).mpr e)]
    unfold f_X12_readSign_188 f_X12_readSign_212
    have hk5 : ¬ nI (k + 4) = (5 : Int32) := fun h => by have := (neq (b := 5) (by omega) (by omega)).mp h; omega
    have ek : nI (k + 4) - 5 + 1 = nI k := by
      have : nI (k + 4) - 5 = nI (k + 4 - 5) := nsub (b := 5) (by omega)
      rw [this, nI_1]; congr 1; omega
    rw [if_neg hk5, if_neg hk5, ek, ncl (by omega), ib_n (by omega), decide_eq_true (by omega), grd_true, grd_true, mK1.2.2.2.1 e]
    unfold f_X12_readSign_300
    have g2 : FrP (PM s) τ1 (sl (si τ1 7 (40 + s) (nI k)) 10 (40 + s) (nmf B (tq B n p) (te B n p - tq B n p))) := ((FrP.refl _ _).si _ _ _ (Or.inr (Or.inl ⟨rfl, rfl⟩))).sl _ _ _ (Or.inr (Or.inl ⟨rfl, rfl⟩))
    have hM2 := (hM.fr g1 rfl).frP g2 PM_tape.1 PM_tape.2
    refine ok_bo_of (m_scan hN hle hM2 (by rw [sl_1, si_rd, if_neg (by decide)]; exact mK1.2.1)) (fun τ3 g3 => ?_)
    obtain ⟨mK3, g3⟩ := g3
    unfold f_X12_readSign_304
    rw [show ib 1 2 = true from rfl, grd_true, grd_true, ok_some]
    have g4 : FrP (PM s) τ3 (si τ3 3 1 (τ3.1 3 1 + 1)) := (FrP.refl _ _).si _ _ _ (Or.inr (Or.inr (Or.inr ⟨rfl, rfl⟩)))
    have gF : Fr [3] τ3 (si τ3 3 1 (τ3.1 3 1 + 1)) := (Fr.refl _ _).si _ _ _ rfl
    refine ⟨Or.inr ⟨rfl, rfl, te B n p, k, 0, fun _ => 0, nmf B (tq B n p) (te B n p - tq B n p), by omega, hle, hK3, ?_, by omega, by omega, fun _ => rfl, fun i hi => by omega, ?_, ?_, ?_, ?_, ?_, ?_, fun i hi => by omega, ?_, ?_, rf.fr (V := VNa) (W := VMa) (((f1.wide rfl).trans (((Fr.refl _ _).si _ _ _ rfl).sl _ _ _ rfl)).trans (f3.wide rfl)) ((((g1.wide rfl).trans (((Fr.refl _ _).si _ _ _ rfl).sl _ _ _ rfl)).trans (g3.wide rfl)).trans (gF.wide rfl)) rfl rfl⟩, (F1.trans f2).trans (f3.toP VN_PX), (((g.trans (g1.toP VM_PM)).trans g2).trans (g3.toP VM_PM)).trans g4⟩
    · unfold TokM at mK3 ⊢
      rw [gF.i 1005 rfl, gF.i 1006 rfl, gF.i 1003 rfl, gF.l 1010 rfl, gF.i 1004 rfl, gF.i 1007 rfl]
      exact mK3
    · show σ3.1 14 s = nI k
      rw [f3.i 14 rfl, sl_1, si_rd, if_pos rfl, if_pos rfl]
    · show σ3.1 15 s = nI 0
      rw [f3.i 15 rfl, sl_1, si_rd, if_neg (by decide), f1.i 15 rfl]; exact c5
    · show σ3.1 16 s = nI 0
      rw [f3.i 16 rfl, sl_1, si_rd, if_neg (by decide), f1.i 16 rfl]; exact c6
    · show σ3.2 17 s = _
      rw [f3.l 17 rfl, sl_rd, if_pos rfl, if_pos rfl]
    · show (si τ3 3 1 (τ3.1 3 1 + 1)).1 7 (40 + s) = nI k
      rw [gF.i 7 rfl, g3.i 7 rfl, sl_1, si_rd, if_pos rfl, if_pos rfl]
    · show (si τ3 3 1 (τ3.1 3 1 + 1)).1 8 (40 + s) = nI 0
      rw [gF.i 8 rfl, g3.i 8 rfl, sl_1, si_rd, if_neg (by decide), g1.i 8 rfl]; exact d8
    · show (si τ3 3 1 (τ3.1 3 1 + 1)).2 10 (40 + s) = _
      rw [gF.l 10 rfl, g3.l 10 rfl, sl_rd, if_pos rfl, if_pos rfl]
    · show (si τ3 3 1 (τ3.1 3 1 + 1)).1 3 1 = nI (s + 1)
      rw [si_rd, if_pos rfl, if_pos rfl, g3.i 3 rfl, sl_1, si_rd, if_neg (by decide), g1.i 3 rfl, d3, nI_1]
  · rw [if_neg (fun h => e ((knd1 hK1).mp h))]
    obtain ⟨τ1, eq1, mK1, g1⟩ := m_scan hN hp hM hb
    rw [eq1, bo_some, if_neg (fun h => e ((srt_is1 mK1).mp h))]
    exact val_bad hK1 mK1 F1 (g.trans (g1.toP VM_PM))
