/-! spellings, the class: covers counted with a memory -/
def MemoX (L : Lv) (T : Tv) (σ : St) : Prop := ∀ S, S < 12 → ∀ R, R < 32 → σ.1 39 (S * 32 + R) = -1 ∨ σ.1 39 (S * 32 + R) = nI (min 100001 (cv L T R S).length)
abbrev PCB (L : Lv) (T : Tv) (R S : Nat) (σ : St) (a : Int32 × St) : Prop := a.1 = nI (min 100001 (cv L T R S).length) ∧ MemoX L T a.2 ∧ Fr [39] σ a.2
theorem x_cb74 {N : Nat} (hN : 802 < N) {L : Lv} (hL : LOk L) {T : Tv} (hT : TvOk T) {m R S dep : Nat} (hr : Rch L T m R S) (hd : dep ≤ S) {f : Int32 → Int32 → Int32 → St → Option (Int32 × St)} (ih : ∀ (R' S' : Nat) (σ : St), Rch L T (m + 1) R' S' → S < S' → SPX σ 1 L T → MemoX L T σ → ok (f (nI R') (nI S') (nI (dep + 1)) σ) (PCB L T R' S' σ)) {σ0 : St} :
    ∀ (k fuel s A : Nat) (σ : St), L.n - s = k → k < fuel → s ≤ L.n → SPX σ 1 L T → MemoX L T σ → A ≤ 1 + 100001 * s → min 100001 A = min 100001 (cvp L T R S s).length → Fr [39] σ0 σ → ok (f_X7_coversBehind_74 N f fuel (nI R) (nI S) (nI dep) (nI (S * 32 + R)) (nI A) (nI s) σ) (PCB L T R S σ0) := by
  have h40 := hL.1
  have hS := Rch_S hL hT hr
  intro k
  induction k with
  | zero =>
    intro fuel s A σ hk hf hs sx mx hA hm f0
    obtain ⟨fuel, rfl⟩ : ∃ f, fuel = f + 1 := ⟨fuel - 1, by omega⟩
    have e : s = L.n := by omega
    subst e
    rw [f_X7_coversBehind_74, sx.2.1, sgb_n (Or.inl rfl), grd_true, ncl (by omega), sx.2.2.1.1, if_pos (nI_le (by omega) (by omega)), ib_n (by omega), decide_eq_true (show S * 32 + R < 384 by omega), grd_true, grd_true, ncl (by omega), ok_some, show (100001 : Int32) = nI 100001 from rfl, nmin (by omega) (by omega), hm, ← cv_eq hL hT hr]
    refine ⟨?_, fun S' hS' R' hR' => ?_, f0.si _ _ _ rfl⟩
    · rw [si_rd, if_pos rfl, if_pos rfl]
    · rw [si_rd, if_pos rfl]
      by_cases e : S' * 32 + R' = S * 32 + R
      · have e1 : S' = S := by omega
        have e2 : R' = R := by omega
        rw [if_pos e, e1, e2]; exact Or.inr rfl
      · rw [if_neg e]; exact mx S' hS' R' hR'
  | succ k ihk =>
    intro fuel s A σ hk hf hs sx mx hA hm f0
    obtain ⟨fuel, rfl⟩ : ∃ f, fuel = f + 1 := ⟨fuel - 1, by omega⟩
    have hs' : s < L.n := by omega
    rw [f_X7_coversBehind_74, sx.2.1, sgb_n (Or.inl rfl), grd_true, ncl (by omega), sx.2.2.1.1, if_neg (nI_ge (by omega) (by omega)), x_step hN sx hL hT hr.1 (by omega) hs', bo_some]
    by_cases e0 : stp L T R S s = 0
    · rw [e0, if_pos (show nI 0 = (0 : Int32) from rfl), nI_1]
      refine ihk fuel (s + 1) A σ (by omega) (by omega) (by omega) sx mx (by omega) ?_ f0
      rw [cvp_succ, cvn, if_pos e0, List.append_nil]; exact hm
    · have r := Rch_stp hL hs' hr e0
      have r32 := (Rch_S hL hT r.1).2.2.2.1
      rw [if_neg (nI_ne0 (by omega) (by omega)), grd_true, ib_n (by omega), decide_eq_true (show s < 40 by omega), grd_true, ncl (a := s) (by omega), (sx.2.2.1.2.1 s hs').2.2.2.2.1, nadd, nI_1, nI_1]
      refine ok_bd_of (ih _ _ σ r.1 (by omega) sx mx) (fun v σ1 ⟨y1, y2, y3⟩ => ?_)
      have y1' : v = nI (min 100001 (cv L T (stp L T R S s) (S + L.c s)).length) := y1
      rw [y1', nadd]
      refine ihk fuel (s + 1) _ σ1 (by omega) (by omega) (by omega) (SPX_fr sx y3 rfl) y2 (by omega) ?_ (f0.trans y3)
      rw [cvp_succ, cvn, if_neg e0, List.length_append, List.length_map]
      omega
theorem x_cb {N : Nat} (hN : 802 < N) {L : Lv} (hL : LOk L) {T : Tv} (hT : TvOk T) : ∀ (D m R S dep : Nat) (σ : St), Rch L T m R S → dep ≤ S → 12 ≤ D + S → SPX σ 1 L T → MemoX L T σ → ok (f_X7_coversBehind N D (nI R) (nI S) (nI dep) σ) (PCB L T R S σ) := by
  have h40 := hL.1
  intro D
  induction D with
  | zero => intro m R S dep σ hr _ h12 _ _; have := (Rch_S hL hT hr).1; omega
  | succ D ih =>
    intro m R S dep σ hr hd h12 sx mx
    have hS := Rch_S hL hT hr
    have ek : nI S * 32 + nI R = nI (S * 32 + R) := by rw [show (32 : Int32) = nI 32 from rfl, nmul, nadd]
    rw [f_X7_coversBehind]
    unfold f_X7_coversBehind_b
    rw [if_neg (show ¬ nI R ≤ (0 : Int32) from nI_ge (a := 0) (by omega) (by omega)), if_neg (show ¬ (32 : Int32) ≤ nI R from nI_ge (b := 32) (by omega) (by omega)), if_neg (show ¬ nI S < (0 : Int32) from nI_nlt (b := 0) (by omega) (by omega)), if_neg (show ¬ (12 : Int32) ≤ nI S from nI_ge (b := 12) (by omega) (by omega)), if_pos (show nI dep ≤ (12 : Int32) from nI_le (b := 12) (by omega) (by omega)), ek, ib_n (by omega), decide_eq_true (show S * 32 + R < 384 by omega), grd_true, grd_true, ncl (by omega)]
    rcases mx S (by omega) R (by omega) with q | q
    · rw [q, if_pos rfl, x_isCover sx hL hT hS.2.2.2.1 (by omega)]
      have lp := x_cb74 hN hL hT hr hd (f := f_X7_coversBehind N D) (σ0 := σ) (fun R' S' σ' h1 h2 h3 h4 => ih (m + 1) R' S' (dep + 1) σ' h1 (by omega) (by omega) h3 h4)
      cases hc : isCov L T R S with
      | false =>
        rw [if_pos (show b2 false = 0 from rfl)]
        exact lp L.n N 0 0 σ (by omega) (by omega) (by omega) sx mx (by omega) (by rw [cvp_0, cvh, hc]; rfl) (Fr.refl _ _)
      | true =>
        rw [if_neg (show ¬ b2 true = 0 by decide)]
        exact lp L.n N 0 1 σ (by omega) (by omega) (by omega) sx mx (by omega) (by rw [cvp_0, cvh, hc]; rfl) (Fr.refl _ _)
    · rw [q, if_neg (nneg _ (by omega)), ok_some]
      exact ⟨rfl, mx, Fr.refl _ _⟩
/-! how many SPELLINGS -/
def cnt (P : Nat → Bool) (n : Nat) : Nat := ((List.range n).filter P).length
theorem cnt_succ (P : Nat → Bool) (n : Nat) : cnt P (n + 1) = cnt P n + (if P n = true then 1 else 0) := by
  unfold cnt
  rw [List.range_succ, List.filter_append, List.length_append]
  congr 1
  by_cases h : P n = true
  · rw [if_pos h, List.filter_cons_of_pos h]; rfl
  · rw [if_neg h, List.filter_cons_of_neg h]; rfl
theorem cnt_le (P : Nat → Bool) : ∀ n, cnt P n ≤ n := by
  intro n
  induction n with
  | zero => exact Nat.le_refl _
  | succ n ih => rw [cnt_succ]; by_cases h : P n = true
                 · rw [if_pos h]; omega
                 · rw [if_neg h]; omega
theorem kds_len (L : Lv) (T : Tv) (l : List Nat) : (kds L T l).length = if T.kd = 0 then 1 else cnt (kdB L T) L.n := by
  unfold kds cnt
  by_cases h : T.kd = 0
  · rw [if_pos h, if_pos h]; rfl
  · rw [if_neg h, if_neg h, List.length_map]
theorem fm_len {α β : Type} {f : α → List β} {c : Nat} : ∀ (l : List α), (∀ x, x ∈ l → (f x).length = c) → (l.flatMap f).length = l.length * c := by
  intro l
  induction l with
  | nil => intro _; rw [List.flatMap_nil, List.length_nil, List.length_nil, Nat.zero_mul]
  | cons a l ih => intro h; rw [List.flatMap_cons, List.length_append, h a List.mem_cons_self, ih (fun x hx => h x (List.mem_cons_of_mem _ hx)), List.length_cons, Nat.add_mul, Nat.one_mul, Nat.add_comm]
theorem sps_len (L : Lv) (T : Tv) : (sps L T).length = (cnt (idB L T) L.n * (1 + cnt (tlB L T) L.n) + (cv L T 1 0).length) * (if T.kd = 0 then 1 else cnt (kdB L T) L.n) := by
  unfold sps
  rw [fm_len (c := if T.kd = 0 then 1 else cnt (kdB L T) L.n) _ (fun l _ => kds_len L T l)]
  congr 1
  unfold bod
  rw [List.length_append]
  congr 1
  unfold idb
  rw [fm_len (c := 1 + cnt (tlB L T) L.n) _ (fun s _ => by rw [List.length_cons, List.length_map]; unfold cnt; omega)]
  rfl
