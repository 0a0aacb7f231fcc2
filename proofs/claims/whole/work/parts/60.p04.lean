/-! TOKENS of the reference -/
theorem TapeM.fr {σ σ' : St} {V : List Nat} {n : Nat} {B : Nat → Nat} (h : TapeM σ n B) (f : Fr V σ σ') (hv : ([1002, 1] : List Nat).all (fun a => !V.contains a) = true) : TapeM σ' n B := by
  have e := f.at hv
  unfold TapeM at h ⊢
  rw [(e 1002 (by decide)).1, (e 1 (by decide)).1]
  exact h
def seeN (B : Nat → Nat) (n i : Nat) : Int32 := if i < n then nI (B i) else -1
theorem m_see {τ : St} {n : Nat} {B : Nat → Nat} (h : TapeM τ n B) {i : Nat} (hi : i < 2147483648) : f_X12_see (nI i) τ = some (seeN B n i) := by
  have hn := h.1
  unfold f_X12_see seeN
  rw [h.2.1]
  by_cases k : i < n
  · rw [if_neg (nI_ge k (by omega)), if_pos k, ib_n hi, decide_eq_true (by omega), grd_true, ncl hi, (h.2.2 i k).2]
  · rw [if_neg k, if_pos (nI_le (by omega) hi)]
def Wd (l : List Nat) (B : Nat → Nat) (q m : Nat) : Bool := decide (m = l.length ∧ ∀ i, i < m → B (q + i) = l.getD i 0)
theorem Wd_one {l1 l2 : List Nat} {B : Nat → Nat} {q m : Nat} (h1 : Wd l1 B q m = true) (h2 : Wd l2 B q m = true) : l1 = l2 := by
  have a := of_decide_eq_true h1
  have b := of_decide_eq_true h2
  apply List.ext_getElem (by omega)
  intro i hi hj
  have c := a.2 i (by omega)
  have d := b.2 i (by omega)
  rw [List.getD_eq_getElem?_getD, List.getElem?_eq_getElem hi] at c
  rw [List.getD_eq_getElem?_getD, List.getElem?_eq_getElem hj] at d
  exact c.symm.trans d
abbrev wds : List (List Nat) := [[115, 105, 103, 110], [103, 97, 112], [115, 113, 117, 97, 114, 101], [108, 101, 97, 115, 116], [101, 99, 104, 111], [115, 111, 117, 110, 100, 115], [109, 101, 97, 110, 115], [107, 105, 110, 100]]
def kyF (B : Nat → Nat) (q m : Nat) : List (List Nat) → Nat → Int32
  | [], _ => -1
  | l :: r, w => if Wd l B q m = true then nI w else kyF B q m r (w + 1)
def kyv (B : Nat → Nat) (q m : Nat) : Int32 := kyF B q m wds 0
abbrev kch (k : Nat) : Int32 := (xtb.getD 8 []).getD k 0
theorem ka_go {N n : Nat} {x1 x2 x3 x4 : Int32} {k : Nat} {σ : St} (hk : k < 45) (hc : kch k ≠ 32) : f_X12_keyAt_8 N (n + 1) x1 x2 x3 x4 (nI k) σ = f_X12_keyAt_8 N n x1 x2 x3 x4 (nI (k + 1)) σ := by
  rw [f_X12_keyAt_8]
  have e : xtl.getD 8 0 = 45 := rfl
  rw [e, if_neg (nI_ge hk (by omega)), ib_n (by omega), decide_eq_true hk, grd_true, ncl (by omega), if_neg hc, nI_1]
theorem ka_run {N : Nat} {x1 x2 x3 x4 : Int32} {σ : St} : ∀ (j n k : Nat), (∀ i, i < j → k + i < 45 ∧ kch (k + i) ≠ 32) → f_X12_keyAt_8 N (n + j) x1 x2 x3 x4 (nI k) σ = f_X12_keyAt_8 N n x1 x2 x3 x4 (nI (k + j)) σ := by
  intro j
  induction j with
  | zero => intro n k h; rfl
  | succ j ih =>
    intro n k h
    have h0 := h 0 (by omega)
    rw [← Nat.add_assoc, ka_go (k := k) h0.1 h0.2, ih n (k + 1) (fun i hi => by have := h (i + 1) (by omega); rw [Nat.add_assoc, Nat.add_comm 1 i]; exact this)]
    rw [Nat.add_assoc, Nat.add_comm 1 j]
theorem ka_in {N n : Nat} {B : Nat → Nat} {τ : St} (hT : TapeM τ n B) {k8 : Int32 → Int32 → Int32 → Int32 → Int32 → St → Option Int32} {q m w a : Nat} (hq : q + m ≤ n) (ha : a + m < 45) : ∀ (j fuel i : Nat), m - i = j → j < fuel → i ≤ m →
    f_X12_keyAt_52 N k8 fuel (nI q) (nI m) (nI w) (nI a) (nI (a + m)) 1 (nI i) τ = if ∀ l, l < m → i ≤ l → nI (B (q + l)) = kch (a + l) then some (nI w) else k8 (nI q) (nI m) (nI (w + 1)) (nI (a + m + 1)) (nI (a + m + 1)) τ := by
  have hn := hT.1
  intro j
  induction j with
  | zero =>
    intro fuel i hj hf hi
    obtain ⟨fuel, rfl⟩ : ∃ f, fuel = f + 1 := ⟨fuel - 1, by omega⟩
    rw [f_X12_keyAt_52, if_pos (nI_le (by omega) (by omega)), if_pos (fun l h2 h1 => by omega)]
    unfold f_X12_keyAt_97
    rw [if_neg (by decide)]
  | succ j ih =>
    intro fuel i hj hf hi
    obtain ⟨fuel, rfl⟩ : ∃ f, fuel = f + 1 := ⟨fuel - 1, by omega⟩
    have e : xtl.getD 8 0 = 45 := rfl
    rw [f_X12_keyAt_52, if_neg (nI_ge (by omega) (by omega)), if_neg (by decide), nadd, e, ib_n (by omega), decide_eq_true (by omega), grd_true, nadd, m_see hT (by omega), bo_some, ncl (by omega), nI_1]
    unfold seeN
    rw [if_pos (show q + i < n by omega)]
    by_cases h : kch (a + i) = nI (B (q + i))
    · rw [if_pos h, ih fuel (i + 1) (by omega) (by omega) (by omega)]
      congr 1
      apply propext
      constructor
      · intro k l h2 h1
        by_cases e : l = i
        · rw [e]; exact h.symm
        · exact k l h2 (by omega)
      · intro k l h2 h1
        exact k l h2 (by omega)
    · rw [if_neg h, if_neg (show ¬ ∀ l, l < m → i ≤ l → nI (B (q + l)) = kch (a + l) from fun k => h (k i (by omega) (Nat.le_refl _)).symm)]
      obtain ⟨fuel, rfl⟩ : ∃ f, fuel = f + 1 := ⟨fuel - 1, by omega⟩
      rw [f_X12_keyAt_52]
      unfold f_X12_keyAt_97
      by_cases h2 : nI m ≤ nI (i + 1)
      · rw [if_pos h2, if_pos rfl, nI_1, nI_1]
      · rw [if_neg h2, if_pos rfl, if_pos rfl, nI_1, nI_1]
theorem ka_sp {N n : Nat} {B : Nat → Nat} {τ : St} (hT : TapeM τ n B) (hN : 801 < N) {q m w a k fuel : Nat} (l : List Nat) (hq : q + m ≤ n) (hm : 1 ≤ m) (hk : a + l.length = k) (hk4 : k < 45) (hc : kch k = 32) (hl : ∀ i, i < l.length → kch (a + i) = nI (l.getD i 0) ∧ l.getD i 0 < 256) :
    f_X12_keyAt_8 N (fuel + 1) (nI q) (nI m) (nI w) (nI a) (nI k) τ = if Wd l B q m = true then some (nI w) else f_X12_keyAt_8 N fuel (nI q) (nI m) (nI (w + 1)) (nI (k + 1)) (nI (k + 1)) τ := by
  have hn := hT.1
  have e : xtl.getD 8 0 = 45 := rfl
  rw [f_X12_keyAt_8, e, if_neg (nI_ge hk4 (by omega)), ib_n (by omega), decide_eq_true hk4, grd_true, ncl (by omega), if_pos hc, nsub (by omega)]
  by_cases hm2 : m = l.length
  · have e2 : k - a = m := by omega
    have e3 : k = a + m := by omega
    rw [e2, if_pos rfl, e3]
    have := ka_in (N := N) (k8 := f_X12_keyAt_8 N fuel) (w := w) hT hq (show a + m < 45 by omega) m N 0 rfl (by omega) (by omega)
    rw [nI_0] at this
    rw [this]
    congr 1
    apply propext
    unfold Wd
    rw [decide_eq_true_iff]
    constructor
    · intro h
      refine ⟨hm2, fun i hi => ?_⟩
      have h1 := h i hi (by omega)
      have h2 := hl i (by omega)
      have hb := (hT.2.2 (q + i) (by omega)).1
      rw [h2.1] at h1
      exact (neq (by omega) (by omega)).mp h1
    · intro h i hi _
      rw [(hl i (by omega)).1, h.2 i hi]
  · rw [if_neg (fun h => hm2 (by have := (neq (by omega) (by omega)).mp h; omega)), if_neg (fun h => hm2 (of_decide_eq_true h).1)]
    obtain ⟨N', rfl⟩ : ∃ f, N = f + 1 := ⟨N - 1, by omega⟩
    rw [f_X12_keyAt_52]
    unfold f_X12_keyAt_97
    rw [if_neg (nI_nle (by omega) (by omega)), if_pos rfl, if_pos rfl, nI_1, nI_1]
theorem m_keyAt {N n : Nat} {B : Nat → Nat} {τ : St} (hT : TapeM τ n B) (hN : 801 < N) {q m : Nat} (hq : q + m ≤ n) (hm : 1 ≤ m) : f_X12_keyAt N (nI q) (nI m) τ = some (kyv B q m) := by
  unfold f_X12_keyAt kyv wds kyF
  obtain ⟨M, rfl⟩ : ∃ f, N = f + 46 := ⟨N - 46, by omega⟩
  have hNN : 801 < M + 46 := hN
  generalize hG : M + 46 = G at hNN
  rw [← hG]
  rw [hG]
  have st : f_X12_keyAt_8 G G (nI q) (nI m) 0 0 0 τ = f_X12_keyAt_8 G (M + 1 + 45) (nI q) (nI m) (nI 0) (nI 0) (nI 0) τ := by rw [← hG]; rfl
  rw [st]
  rw [show M + 1 + 45 = (M + 1 + 41) + 4 from rfl, ka_run 4 (M + 1 + 41) 0 (by decide), show M + 1 + 41 = (M + 1 + 40) + 1 from rfl, ka_sp (B := B) (n := n) hT hNN [115, 105, 103, 110] hq hm (by decide) (by decide) (by decide) (by decide)]
  by_cases h0 : Wd [115, 105, 103, 110] B q m = true
  · rw [if_pos h0, if_pos h0]
  rw [if_neg h0, if_neg h0]
  unfold kyF
  rw [show M + 1 + 40 = (M + 1 + 37) + 3 from rfl, ka_run 3 (M + 1 + 37) 5 (by decide), show M + 1 + 37 = (M + 1 + 36) + 1 from rfl, ka_sp (B := B) (n := n) hT hNN [103, 97, 112] hq hm (by decide) (by decide) (by decide) (by decide)]
  by_cases h1 : Wd [103, 97, 112] B q m = true
  · rw [if_pos h1, if_pos h1]
  rw [if_neg h1, if_neg h1]
  unfold kyF
  rw [show M + 1 + 36 = (M + 1 + 30) + 6 from rfl, ka_run 6 (M + 1 + 30) 9 (by decide), show M + 1 + 30 = (M + 1 + 29) + 1 from rfl, ka_sp (B := B) (n := n) hT hNN [115, 113, 117, 97, 114, 101] hq hm (by decide) (by decide) (by decide) (by decide)]
  by_cases h2 : Wd [115, 113, 117, 97, 114, 101] B q m = true
  · rw [if_pos h2, if_pos h2]
  rw [if_neg h2, if_neg h2]
  unfold kyF
  rw [show M + 1 + 29 = (M + 1 + 24) + 5 from rfl, ka_run 5 (M + 1 + 24) 16 (by decide), show M + 1 + 24 = (M + 1 + 23) + 1 from rfl, ka_sp (B := B) (n := n) hT hNN [108, 101, 97, 115, 116] hq hm (by decide) (by decide) (by decide) (by decide)]
  by_cases h3 : Wd [108, 101, 97, 115, 116] B q m = true
  · rw [if_pos h3, if_pos h3]
  rw [if_neg h3, if_neg h3]
  unfold kyF
  rw [show M + 1 + 23 = (M + 1 + 19) + 4 from rfl, ka_run 4 (M + 1 + 19) 22 (by decide), show M + 1 + 19 = (M + 1 + 18) + 1 from rfl, ka_sp (B := B) (n := n) hT hNN [101, 99, 104, 111] hq hm (by decide) (by decide) (by decide) (by decide)]
  by_cases h4 : Wd [101, 99, 104, 111] B q m = true
  · rw [if_pos h4, if_pos h4]
  rw [if_neg h4, if_neg h4]
  unfold kyF
  rw [show M + 1 + 18 = (M + 1 + 12) + 6 from rfl, ka_run 6 (M + 1 + 12) 27 (by decide), show M + 1 + 12 = (M + 1 + 11) + 1 from rfl, ka_sp (B := B) (n := n) hT hNN [115, 111, 117, 110, 100, 115] hq hm (by decide) (by decide) (by decide) (by decide)]
  by_cases h5 : Wd [115, 111, 117, 110, 100, 115] B q m = true
  · rw [if_pos h5, if_pos h5]
  rw [if_neg h5, if_neg h5]
  unfold kyF
  rw [show M + 1 + 11 = (M + 1 + 6) + 5 from rfl, ka_run 5 (M + 1 + 6) 34 (by decide), show M + 1 + 6 = (M + 1 + 5) + 1 from rfl, ka_sp (B := B) (n := n) hT hNN [109, 101, 97, 110, 115] hq hm (by decide) (by decide) (by decide) (by decide)]
  by_cases h6 : Wd [109, 101, 97, 110, 115] B q m = true
  · rw [if_pos h6, if_pos h6]
  rw [if_neg h6, if_neg h6]
  unfold kyF
  rw [show M + 1 + 5 = (M + 1 + 1) + 4 from rfl, ka_run 4 (M + 1 + 1) 40 (by decide), show M + 1 + 1 = (M + 1 + 0) + 1 from rfl, ka_sp (B := B) (n := n) hT hNN [107, 105, 110, 100] hq hm (by decide) (by decide) (by decide) (by decide)]
  by_cases h7 : Wd [107, 105, 110, 100] B q m = true
  · rw [if_pos h7, if_pos h7]
  rw [if_neg h7, if_neg h7]
  unfold kyF
  rw [show M + 1 + 0 = M + 1 from rfl, f_X12_keyAt_8, if_pos (show nI (xtl.getD 8 0) ≤ nI 45 from nI_le (by decide) (by decide))]
