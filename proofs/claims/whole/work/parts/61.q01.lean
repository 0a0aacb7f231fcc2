/-! blocks: text and tree side by side -/
def MX (L : Lv) (τ : St) (n : Nat) (B : Nat → Nat) (p d sc parts : Nat) : Prop := TapeM τ n B ∧ TokM τ n B p ∧ LM τ L ∧ τ.1 1032 0 = nI d ∧ τ.1 1033 0 = nI sc ∧ τ.1 1031 0 = nI parts
abbrev VRf : List Nat := [1003, 1004, 1005, 1006, 1007, 1010, 1031, 1032, 1033, 1034]
def PRf (lo a j : Nat) : Prop := VRf.contains a = true ∨ (([11, 12, 13, 14, 15] : List Nat).contains a = true ∧ lo ≤ j)
def PRe (lo a j : Nat) : Prop := PRf lo a j ∨ a = 1008 ∨ a = 1009
abbrev VRh : List Nat := [1003, 1004, 1005, 1006, 1007, 1010, 1031, 1032, 1033, 1034, 11, 12, 13, 14, 15]
abbrev VRg : List Nat := [1003, 1004, 1005, 1006, 1007, 1010, 1031, 1032, 1033, 1034, 1008, 1009, 11, 12, 13, 14, 15]
theorem PRf_V {lo a j : Nat} (h : PRf lo a j) : VRg.contains a = true := by
  rcases h with h | ⟨h, _⟩
  · have key : ∀ a, a ∈ VRf → VRg.contains a = true := by decide
    exact key a (List.contains_iff_mem.mp h)
  · have key : ∀ a, a ∈ ([11, 12, 13, 14, 15] : List Nat) → VRg.contains a = true := by decide
    exact key a (List.contains_iff_mem.mp h)
theorem PRf_W {lo a j : Nat} (h : PRf lo a j) : VRh.contains a = true := by
  rcases h with h | ⟨h, _⟩
  · have key : ∀ a, a ∈ VRf → VRh.contains a = true := by decide
    exact key a (List.contains_iff_mem.mp h)
  · have key : ∀ a, a ∈ ([11, 12, 13, 14, 15] : List Nat) → VRh.contains a = true := by decide
    exact key a (List.contains_iff_mem.mp h)
theorem PRe_V {lo a j : Nat} (h : PRe lo a j) : VRg.contains a = true := by
  rcases h with h | h | h
  · exact PRf_V h
  · rw [h]; rfl
  · rw [h]; rfl
theorem FrP.toE {lo : Nat} {τ τ' : St} (f : FrP (PRf lo) τ τ') : FrP (PRe lo) τ τ' := f.wide (fun a j h => Or.inl h)
theorem PRf_up {lo hi a j : Nat} (h : lo ≤ hi) (q : PRf hi a j) : PRf lo a j := q.imp id (fun q => ⟨q.1, by have := q.2; omega⟩)
theorem PRf_nd {lo : Nat} {τ τ' : St} (f : FrP (PRf lo) τ τ') {j : Nat} (hj : j < lo) (a : Nat) (ha : ([11, 12, 13, 14, 15] : List Nat).contains a = true) : τ'.1 a j = τ.1 a j := (f a j (fun q => by
  rcases q with q | q
  · have key : ∀ a, a ∈ ([11, 12, 13, 14, 15] : List Nat) → VRf.contains a = false := by decide
    rw [key a (List.contains_iff_mem.mp ha)] at q; cases q
  · have := q.2; omega)).1
theorem Fr.toRf {V : List Nat} {τ τ' : St} (f : Fr V τ τ') (h : V.all (fun a => VRf.contains a) = true) (lo : Nat) : FrP (PRf lo) τ τ' := f.toP (fun a j ha => Or.inl (by
  have h1 := List.all_eq_true.mp h a (List.contains_iff_mem.mp ha)
  exact h1))
def FailP (σ τ : St) (lo : Nat) (Cl : Option (Int32 × St)) (τ' : St) : Prop := ∃ σ', Cl = some (0, σ') ∧ RFault σ' τ' ∧ Fr VPX σ σ' ∧ FrP (PRe lo) τ τ'
theorem fail_of {σ τ σ' : St} {n : Nat} {B : Nat → Nat} {p lo : Nat} {k : Int32} {Cl : Option (Int32 × St)} (h : Cl = some (0, σ')) (b : Bad σ σ' k (tq B n p)) (mK : TokM τ n B p) {τ0 : St} (f : FrP (PRf lo) τ0 τ) : FailP σ τ0 lo Cl (si (si τ 1008 0 k) 1009 0 (τ.1 1005 0)) := by
  refine ⟨σ', h, ⟨?_, ?_⟩, b.2.2, ((f.toE.si _ _ _ (Or.inr (Or.inl rfl))).si _ _ _ (Or.inr (Or.inr rfl)))⟩
  · rw [b.1]; simp only [si_rd, reduceIte, Nat.reduceEqDiff]
  · rw [b.2.1]; simp only [si_rd, reduceIte, Nat.reduceEqDiff]; exact mK.1.symm
def GoP {α : Type} (N : Nat) (L : Lv) (n : Nat) (B : Nat → Nat) (p d bc lo sc : Nat) (c : List Int32) (σ τ : St) (Cl : Option (Int32 × St)) (nx : Nat → Nat → Prop) (cd : α → List Int32) (okp : α → Prop) (len : α → Nat) (nd : St → α → Nat → Nat → Nat → Prop) (τ' : St) : Prop :=
  ∃ x σ' p' i' fuel' sc' hi root st', Cl = f_X0_take_27 N fuel' (nI i') σ' ∧ i' ≤ p' ∧ 801 - i' < fuel' ∧ p < p' ∧ (st' = 3 ∨ st' = 4) ∧ CX L σ' n B p' (c ++ cd x) st' d bc sc' ∧ MX L τ' n B p' d sc' hi ∧ okp x ∧ nd τ' x root lo hi ∧ τ'.1 1034 0 = nI root ∧ τ'.1 15 root = -1 ∧ sc' = sc + len x ∧ (c ++ cd x).length + d + 1 ≤ 10 * sc' ∧ hi + 1 ≤ 2 * sc' ∧ lo ≤ hi ∧ (st' = 3 → ¬ (tk B n p' = 3 ∧ B (tq B n p') = 38)) ∧ nx (tk B n p') (B (tq B n p')) ∧ Fr VPY σ σ' ∧ FrP (PRf lo) τ τ'
def PP {α : Type} (N : Nat) (L : Lv) (n : Nat) (B : Nat → Nat) (p d bc lo sc : Nat) (c : List Int32) (σ τ : St) (Cl : Option (Int32 × St)) (nx : Nat → Nat → Prop) (cd : α → List Int32) (okp : α → Prop) (len : α → Nat) (nd : St → α → Nat → Nat → Nat → Prop) (a : Int32 × St) : Prop :=
  (a.1 = 0 ∧ FailP σ τ lo Cl a.2) ∨ (a.1 = 1 ∧ GoP N L n B p d bc lo sc c σ τ Cl nx cd okp len nd a.2)
/-- what a reader of a piece does, where an item is wanted -/
def KC {α : Type} (N : Nat) (L : Lv) (n : Nat) (B : Nat → Nat) (d : Nat) (G : St → Option (Int32 × St)) (nx : Nat → Nat → Prop) (cd : α → List Int32) (okp : α → Prop) (len : α → Nat) (nd : St → α → Nat → Nat → Nat → Prop) : Prop :=
  ∀ (σ τ : St) (p : Nat) (c : List Int32) (st bc sc lo i fuel : Nat), CX L σ n B p c st d bc sc → (st = 0 ∨ st = 1) → (st = 0 → bc < 12) → MX L τ n B p d sc lo → i ≤ p → 801 - i < fuel → c.length ≤ 10 * sc + d → lo ≤ 2 * sc → ok (G τ) (PP N L n B p d (bcN st bc) lo sc c σ τ (f_X0_take_27 N fuel (nI i) σ) nx cd okp len nd)
theorem tok_adv {B : Nat → Nat} {n p : Nat} (h : tk B n p ≠ 0) : p < te B n p := by
  have := te_gt h
  have := tq_ge B n p
  omega
theorem srt_3 {L : Lv} {τ : St} {n : Nat} {B : Nat → Nat} {p d sc parts : Nat} (h : MX L τ n B p d sc parts) : (τ.1 1003 0 = 4 ↔ tk B n p = 3 ∧ B (tq B n p) = 58) ∧ (τ.1 1003 0 = 5 ↔ tk B n p = 3 ∧ B (tq B n p) = 42) ∧ (τ.1 1003 0 = 6 ↔ tk B n p = 3 ∧ B (tq B n p) = 38) ∧ (τ.1 1003 0 = 7 ↔ tk B n p = 3 ∧ B (tq B n p) = 45) ∧ (τ.1 1003 0 = 8 ↔ tk B n p = 3 ∧ B (tq B n p) = 40) ∧ (τ.1 1003 0 = 9 ↔ tk B n p = 3 ∧ B (tq B n p) = 41) := by
  have e := h.2.1.2.2.1
  have m := srt_mark (k := tk B n p) (c := B (tq B n p)) (tk_lt B n p) (fun q => tk_M q)
  have b : srt (tk B n p) (B (tq B n p)) < 11 := (srt_1 (tk_lt B n p)).2.2.2
  rw [e]
  have q : ∀ k, k < 11 → (nI (srt (tk B n p) (B (tq B n p))) = nI k ↔ srt (tk B n p) (B (tq B n p)) = k) := fun k hk => neq (by omega) (by omega)
  exact ⟨(q 4 (by omega)).trans m.2.1, (q 5 (by omega)).trans m.2.2.1, (q 6 (by omega)).trans m.2.2.2.1, (q 7 (by omega)).trans m.2.2.2.2.1, (q 8 (by omega)).trans m.2.2.2.2.2.1, (q 9 (by omega)).trans m.2.2.2.2.2.2⟩
theorem MX_scan {N : Nat} (hN : 802 < N) {L : Lv} {τ : St} {n : Nat} {B : Nat → Nat} {p d sc parts : Nat} (hp : p ≤ n) (h : MX L τ n B p d sc parts) {τ1 : St} {d' sc' : Nat} (f : Fr [1032, 1033] τ τ1) (h32 : τ1.1 1032 0 = nI d') (h33 : τ1.1 1033 0 = nI sc') : ok (f_X12_scan N τ1) (fun τ' => MX L τ' n B (te B n p) d' sc' parts ∧ Fr VM τ1 τ') := by
  obtain ⟨h1, h2, h3, h4, h5, h6⟩ := h
  refine (m_scan hN (te_le hp) (h1.fr f rfl) (by rw [f.i 1006 rfl]; exact h2.2.1)).mono (fun τ' ⟨y1, y2⟩ => ⟨⟨(h1.fr f rfl).fr y2 rfl, y1, LM_fr (LM_fr h3 f rfl) y2 rfl, by rw [y2.i 1032 rfl]; exact h32, by rw [y2.i 1033 rfl]; exact h33, by rw [y2.i 1031 rfl, f.i 1031 rfl]; exact h6⟩, y2⟩)
theorem lk_name {N : Nat} (hN : 802 < N) {L : Lv} (hL : LOk L) {σ τ : St} {n : Nat} {B : Nat → Nat} {p : Nat} {c : List Int32} {st d bc sc lo i fuel lo0 : Nat} (cx : CX L σ n B p c st d bc sc) (hst : st = 0 ∨ st = 1 ∨ st = 2) (hbc : st = 0 → bc < 12) (mx : MX L τ n B p d sc lo) (hi : i ≤ 800) (h40 : st ≠ 2 → ¬ (tk B n p = 3 ∧ B (tq B n p) = 40)) :
    ok (f_X12_readName N τ) (fun a => (a.1 = -1 ∧ FailP σ τ lo0 (f_X0_take_27 N (fuel + 1) (nI i) σ) a.2) ∨ (∃ s σ', s < L.n ∧ a.1 = nI s ∧ tk B n p = 1 ∧ f_X0_take_27 N (fuel + 1) (nI i) σ = f_X0_take_27 N fuel (nI (i + 1)) σ' ∧ CX L σ' n B (te B n p) (c ++ [nI s]) (if st = 2 then 4 else 3) d (bcN st bc) (sc + 1) ∧ MX L a.2 n B (te B n p) d (sc + 1) lo ∧ Fr VPY σ σ' ∧ Fr (1033 :: VM) τ a.2)) := by
  have hl40 := hL.1
  unfold f_X12_readName f_X12_fails
  by_cases k1 : tk B n p = 1
  · rw [if_pos ((srt_is1 mx.2.1).mpr k1), mx.2.2.2.2.1]
    rcases xs_name (fuel := fuel) hN hL cx hi k1 hst hbc with ⟨a1, σ', a2, a3⟩ | ⟨a0, a1, σ', a2, a3⟩ | ⟨a0, s, hs, a1, σ', a2, a3, a4⟩
    · rw [if_pos (show nI sc = (24 : Int32) by rw [a1]; rfl), bd_some, if_pos rfl, ok_some]
      exact Or.inl ⟨rfl, fail_of a2 a3 mx.2.1 (FrP.refl _ _)⟩
    · have h3 : τ.1 3 0 = nI L.n := mx.2.2.1.1
      have en : fndN (τ.2 4) (nmf B (tq B n p) (te B n p - tq B n p)) L.n 0 = fndN L.nm (nmf B (tq B n p) (te B n p - tq B n p)) L.n 0 := fndN_congr _ L.n 0 (fun j _ hj => (mx.2.2.1.2.1 j (by omega)).1)
      rw [if_neg (show ¬ nI sc = (24 : Int32) from fun q => by have := (neq (b := 24) (by omega) (by omega)).mp q; omega), show ib 0 2 = true from rfl, grd_true, mx.2.1.2.2.2.1 k1, h3, show (0 : Int32) = nI 0 from rfl, m_signOf hN (by omega), bo_some, en, a1, if_pos rfl, bd_some, if_pos rfl, ok_some]
      exact Or.inl ⟨rfl, fail_of a2 a3 mx.2.1 (FrP.refl _ _)⟩
    · have h3 : τ.1 3 0 = nI L.n := mx.2.2.1.1
      have en : fndN (τ.2 4) (nmf B (tq B n p) (te B n p - tq B n p)) L.n 0 = fndN L.nm (nmf B (tq B n p) (te B n p - tq B n p)) L.n 0 := fndN_congr _ L.n 0 (fun j _ hj => (mx.2.2.1.2.1 j (by omega)).1)
      rw [if_neg (show ¬ nI sc = (24 : Int32) from fun q => by have := (neq (b := 24) (by omega) (by omega)).mp q; omega), show ib 0 2 = true from rfl, grd_true, mx.2.1.2.2.2.1 k1, h3, nI_1]
      have es : f_X12_signOf N (nmf B (tq B n p) (te B n p - tq B n p)) 0 (nI L.n) τ = some (nI s) := by
        have := m_signOf (N := N) (w := nmf B (tq B n p) (te B n p - tq B n p)) (τ := τ) (a := 0) (m := L.n) hN (by omega)
        rw [en, a1] at this
        exact this
      rw [es, bo_some, if_neg (nneg s (by omega))]
      have f1 : Fr [1032, 1033] τ (si τ 1033 0 (nI (sc + 1))) := (Fr.refl _ _).si _ _ _ rfl
      refine ok_bo_of (MX_scan (d' := d) (sc' := sc + 1) hN cx.2.2.1 mx f1 (by rw [si_rd, if_neg (by decide)]; exact mx.2.2.2.1) (by rw [si_rd, if_pos rfl, if_pos rfl])) (fun τ1 ⟨y1, y2⟩ => ?_)
      rw [ok_some]
      exact Or.inr ⟨s, σ', hs, rfl, k1, a2, a3, y1, a4, (((Fr.refl (1033 :: VM) τ).si _ _ _ rfl)).trans (y2.wide rfl)⟩
  · have na : ¬ acp st d (tk B n p) (B (tq B n p)) := by
      intro q
      rcases q with ⟨q, _⟩ | ⟨q, q2⟩ | ⟨q, q2, _⟩
      · exact k1 q
      · rcases q2 with ⟨q2, q3⟩ | ⟨q2, q3, _⟩ | ⟨q2, q3, _⟩ | ⟨q2, q3⟩ | ⟨q2, q3⟩
        · exact h40 (by omega) ⟨q, q2⟩
        · omega
        · omega
        · omega
        · omega
      · omega
    obtain ⟨σ', a2, a3⟩ := xs_bad (fuel := fuel) hN cx hi na
    rw [if_neg (fun q => k1 ((srt_is1 mx.2.1).mp q)), bd_some, if_pos rfl, ok_some]
    exact Or.inl ⟨rfl, fail_of a2 a3 mx.2.1 (FrP.refl _ _)⟩
