/-! spellings, the reference: a body comes -/
abbrev VK : List Nat := [52, 53, 54, 58, 59, 60]
def PF (a _j : Nat) : Prop := a = 37 ∨ a = 39 ∨ a = 1060 ∨ a = 1061
def RowS (τ : St) (l : List Nat) : Prop := ∀ j, j < l.length → τ.1 39 j = nI (gl l j)
def KOk (N : Nat) (L : Lv) (T : Tv) (t : Nat) (K : St → List (List Nat) → Prop) : Prop := (∀ τ τ' P, FrP PF τ τ' → K τ P → K τ' P) ∧ (∀ τ P l, MS τ L t T → GL L l → 1 ≤ l.length → l.length ≤ 9 → τ.1 1060 0 = nI l.length → RowS τ l → K τ P → ok (f_X12_spellingComes N (nI t) τ) (fun τ' => K τ' (P ++ [l]) ∧ Fr VK τ τ'))
def GI (K : St → List (List Nat) → Prop) (kp : Bool) (most M : Nat) (τ : St) (P : List (List Nat)) : Prop := ∃ c, τ.1 1061 0 = nI c ∧ c ≤ M ∧ c ≤ P.length ∧ (c ≤ most → c = P.length ∧ (kp = true → K τ P)) ∧ τ.1 1062 0 = nI most ∧ τ.1 1063 0 = b2 kp
theorem GI.fr {N t : Nat} {L : Lv} {T : Tv} {kp : Bool} {K : St → List (List Nat) → Prop} (hK : kp = true → KOk N L T t K) {most M : Nat} {τ τ' : St} {P : List (List Nat)} (h : GI K kp most M τ P) (f : FrP (fun a _ => a = 37 ∨ a = 39 ∨ a = 1060) τ τ') : GI K kp most M τ' P := by
  obtain ⟨c, c1, c2, c3, c4, c5, c6⟩ := h
  refine ⟨c, by rw [(f 1061 0 (by decide)).1]; exact c1, c2, c3, fun h => ⟨(c4 h).1, fun hk => (hK hk).1 τ τ' P (f.wide (fun a j h => by rcases h with h | h | h <;> simp [PF, h])) ((c4 h).2 hk)⟩, by rw [(f 1062 0 (by decide)).1]; exact c5, by rw [(f 1063 0 (by decide)).1]; exact c6⟩
theorem GI.up {K : St → List (List Nat) → Prop} {kp : Bool} {most M M' : Nat} {τ : St} {P : List (List Nat)} (h : GI K kp most M τ P) (hM : M ≤ M') : GI K kp most M' τ P := by
  obtain ⟨c, c1, c2, c3⟩ := h
  exact ⟨c, c1, by omega, c3⟩
def PB (n a j : Nat) : Prop := (a = 39 ∧ n ≤ j) ∨ a = 1060 ∨ a = 1061 ∨ VK.contains a = true
abbrev VE : List Nat := [37, 39, 1060, 1061, 52, 53, 54, 58, 59, 60]
theorem VK_VE {a : Nat} (h : VK.contains a = true) : VE.contains a = true := by
  have key : ∀ a, a ∈ VK → VE.contains a = true := by decide
  exact key a (List.contains_iff_mem.mp h)
theorem PB_V {n a j : Nat} (h : PB n a j) : VE.contains a = true := by
  rcases h with ⟨h, _⟩ | h | h | h
  · rw [h]; rfl
  · rw [h]; rfl
  · rw [h]; rfl
  · exact VK_VE h
/-- the row that a body and one SIGN give -/
def rwK (T : Tv) (l : List Nat) (s : Nat) : List Nat := if T.kd = 0 then l else l ++ [s]
theorem m_b42 {N : Nat} {L : Lv} (hL : LOk L) {T : Tv} {t most M : Nat} {kp : Bool} {K : St → List (List Nat) → Prop} (hK : kp = true → KOk N L T t K) (hmost : most ≤ 100000) (hM : M ≤ 200000) {l : List Nat} (hl : GL L l) (hl1 : 1 ≤ l.length) (hl8 : l.length ≤ 8) {s : Nat} (hs : s < L.n) {τ : St} {P : List (List Nat)} (ms : MS τ L t T) (rs : RowS τ l) (gi : GI K kp most M τ P) {k2 : Int32 → Int32 → Int32 → St → Option St} {Q : St → Prop}
    (kk : ∀ τ', GI K kp most (M + 1) τ' (P ++ [rwK T l s]) → MS τ' L t T → FrP (PB l.length) τ τ' → ok (k2 (nI l.length) (nI t) (nI (s + 1)) τ') Q) : ok (f_X12_bodyComes_42 N k2 (nI l.length) (nI t) (nI s) τ) Q := by
  have t40 := ms.2.1.1
  have h40 := hL.1
  obtain ⟨c, c1, c2, c3, c4, c5, c6⟩ := gi
  unfold f_X12_bodyComes_42
  rw [c1, c5, c6, nI_1, nI_1]
  have plain : (c + 1 ≤ most → kp = false) → ok (k2 (nI l.length) (nI t) (nI (s + 1)) (si τ 1061 0 (nI (c + 1)))) Q := by
    intro hp
    have f1 : FrP (PB l.length) τ (si τ 1061 0 (nI (c + 1))) := (FrP.refl _ _).si _ _ _ (Or.inr (Or.inr (Or.inl rfl)))
    refine kk _ ⟨c + 1, by rw [si_rd, if_pos rfl, if_pos rfl], by omega, by rw [List.length_append, List.length_singleton]; omega, fun h => ⟨by rw [List.length_append, List.length_singleton, (c4 (by omega)).1], fun hk => by rw [hp h] at hk; cases hk⟩, by rw [si_rd, if_neg (by decide)]; exact c5, by rw [si_rd, if_neg (by decide)]; exact c6⟩ (ms.fr (f1.toFr (V := VE) (fun a j h => PB_V h)) rfl) f1
  cases hkp : kp with
  | false =>
    rw [if_pos (show b2 false = 0 from rfl)]
    exact plain (fun _ => hkp)
  | true =>
    rw [if_neg (show ¬ b2 true = 0 by decide)]
    by_cases cc : c + 1 ≤ most
    · rw [if_pos (nI_le cc (by omega)), ib_n (a := t) (by omega), decide_eq_true t40, grd_true, ncl (a := t) (by omega), ms.2.1.2.2.2.2]
      have kO := hK hkp
      have k0 : K τ P := (c4 (by omega)).2 hkp
      have fin : ∀ (τ1 : St) (l' : List Nat), l' = rwK T l s → GL L l' → l'.length ≤ 9 → 1 ≤ l'.length → FrP (fun a j => (a = 39 ∧ l.length ≤ j) ∨ a = 1060 ∨ a = 1061) τ τ1 → τ1.1 1061 0 = nI (c + 1) → τ1.1 1060 0 = nI l'.length → RowS τ1 l' → ok (f_X12_bodyComes_103 N k2 (nI l.length) (nI t) (nI s) τ1) Q := by
        intro τ1 l' e g9 h9 h1 f1 q61 q60 r1
        unfold f_X12_bodyComes_103
        have ms1 : MS τ1 L t T := ms.fr (f1.toFr (V := VE) (fun a j h => by rcases h with ⟨h, _⟩ | h | h <;> (rw [h]; rfl))) rfl
        refine ok_bo_of (kO.2 τ1 P l' ms1 g9 h1 h9 q60 r1 (kO.1 τ τ1 P (f1.wide (fun a j h => by rcases h with ⟨h, _⟩ | h | h <;> simp [PF, h])) k0)) (fun τ2 ⟨y1, y2⟩ => ?_)
        rw [nI_1]
        have f2 : FrP (PB l.length) τ τ2 := (f1.wide (fun a j h => by
          rcases h with h | h | h
          · exact Or.inl h
          · exact Or.inr (Or.inl h)
          · exact Or.inr (Or.inr (Or.inl h)))).trans (y2.toP (fun a j h => Or.inr (Or.inr (Or.inr h))))
        refine kk τ2 ⟨c + 1, by rw [y2.i 1061 rfl]; exact q61, by omega, by rw [List.length_append, List.length_singleton]; omega, fun h => ⟨by rw [List.length_append, List.length_singleton, (c4 (by omega)).1], fun _ => by rw [← e]; exact y1⟩, by rw [y2.i 1062 rfl, (f1 1062 0 (by intro q; rcases q with ⟨q, _⟩ | q | q <;> cases q)).1]; exact c5, by rw [y2.i 1063 rfl, (f1 1063 0 (by intro q; rcases q with ⟨q, _⟩ | q | q <;> cases q)).1]; exact c6⟩ (ms1.fr y2 rfl) f2
      by_cases hk0 : T.kd = 0
      · rw [if_pos (lg_cmp0.mpr hk0)]
        refine fin _ l (by unfold rwK; rw [if_pos hk0]) hl (by omega) hl1 (((FrP.refl _ _).si _ _ _ (Or.inr (Or.inr rfl))).si _ _ _ (Or.inr (Or.inl rfl))) ?_ ?_ (fun j hj => ?_)
        · simp only [si_rd, reduceIte, Nat.reduceEqDiff]
        · simp only [si_rd, reduceIte, Nat.reduceEqDiff]
        · simp only [si_rd, reduceIte, Nat.reduceEqDiff]; exact rs j hj
      · rw [if_neg (fun q => hk0 (lg_cmp0.mp q)), ib_n (a := l.length) (by omega), decide_eq_true (show l.length < 12 by omega), grd_true, ncl (a := l.length) (by omega), nI_1]
        have e9 : (l ++ [s]).length = l.length + 1 := by rw [List.length_append, List.length_singleton]
        refine fin _ (l ++ [s]) (by unfold rwK; rw [if_neg hk0]) ⟨by omega, GL_app hl.2 (fun x hx => by rw [List.mem_singleton.mp hx]; exact hs)⟩ (by omega) (by omega) ((((((FrP.refl _ _).si _ _ _ (Or.inr (Or.inr rfl))).si _ _ _ (Or.inr (Or.inl rfl)))).si _ _ _ (Or.inl ⟨rfl, Nat.le_refl _⟩)).si _ _ _ (Or.inr (Or.inl rfl))) ?_ ?_ (fun j hj => ?_)
        · simp only [si_rd, reduceIte, Nat.reduceEqDiff]
        · rw [e9]; simp only [si_rd, reduceIte, Nat.reduceEqDiff]
        · rw [e9] at hj
          rw [gl_snoc _ _ _ (by omega)]
          simp only [si_rd, reduceIte, Nat.reduceEqDiff]
          by_cases e : j = l.length
          · rw [if_pos e, if_pos e]
          · rw [if_neg e, if_neg e]; exact rs j (by omega)
    · rw [if_neg (nI_ge (by omega) (by omega))]
      exact plain (fun h => absurd h cc)
def kdn (L : Lv) (T : Tv) (l : List Nat) (s : Nat) : List (List Nat) := if T.kd = 0 then (if s = 0 then [] else [l]) else ((List.range s).filter (kdB L T)).map (fun k => l ++ [k])
theorem RowS.frP {τ τ' : St} {l : List Nat} (h : RowS τ l) (f : FrP (PB l.length) τ τ') : RowS τ' l := fun j hj => by
  rw [(f 39 j (fun q => by
    rcases q with ⟨_, q⟩ | q | q | q
    · omega
    · cases q
    · cases q
    · cases q)).1]
  exact h j hj
theorem m_body {N : Nat} (hN : 802 < N) {L : Lv} (hL : LOk L) {T : Tv} {t most M : Nat} {kp : Bool} {K : St → List (List Nat) → Prop} (hK : kp = true → KOk N L T t K) (hmost : most ≤ 100000) (hM : M ≤ 150000) {l : List Nat} (hl : GL L l) (hl1 : 1 ≤ l.length) (hl8 : l.length ≤ 8) {τ0 : St} {P : List (List Nat)} (ms0 : MS τ0 L t T) (rs0 : RowS τ0 l) (gi0 : GI K kp most M τ0 P) : ok (f_X12_bodyComes N (nI l.length) (nI t) τ0) (fun τ' => GI K kp most (M + 40) τ' (P ++ kds L T l) ∧ MS τ' L t T ∧ FrP (PB l.length) τ0 τ') := by
  have h40 := hL.1
  have t40 := ms0.2.1.1
  have n1 : 1 ≤ L.n := by
    cases l with
    | nil => exact absurd hl1 (by decide)
    | cons x l => have := hl.2 x List.mem_cons_self; omega
  unfold f_X12_bodyComes
  have key : ∀ (k fuel s : Nat) (τ : St), L.n - s = k → k < fuel → s ≤ L.n → GI K kp most (M + s) τ (P ++ kdn L T l s) → MS τ L t T → FrP (PB l.length) τ0 τ → ok (f_X12_bodyComes_2 N fuel (nI l.length) (nI t) (nI s) τ) (fun τ' => GI K kp most (M + 40) τ' (P ++ kds L T l) ∧ MS τ' L t T ∧ FrP (PB l.length) τ0 τ') := by
    intro k
    induction k with
    | zero =>
      intro fuel s τ hk hf hs gi ms f
      obtain ⟨fuel, rfl⟩ : ∃ f, fuel = f + 1 := ⟨fuel - 1, by omega⟩
      have e : s = L.n := by omega
      subst e
      rw [f_X12_bodyComes_2, show ib 0 2 = true from rfl, grd_true, ms.2.2.1, if_pos (nI_le (by omega) (by omega)), ok_some]
      have ek : kdn L T l L.n = kds L T l := by
        unfold kdn kds
        by_cases hk0 : T.kd = 0
        · rw [if_pos hk0, if_pos hk0, if_neg (by omega)]
        · rw [if_neg hk0, if_neg hk0]
      rw [ek] at gi
      exact ⟨gi.up (by omega), ms, f⟩
    | succ k ih =>
      intro fuel s τ hk hf hs gi ms f
      obtain ⟨fuel, rfl⟩ : ∃ f, fuel = f + 1 := ⟨fuel - 1, by omega⟩
      have hs' : s < L.n := by omega
      have take : kdn L T l (s + 1) = kdn L T l s ++ [rwK T l s] → ok (f_X12_bodyComes_42 N (f_X12_bodyComes_2 N fuel) (nI l.length) (nI t) (nI s) τ) (fun τ' => GI K kp most (M + 40) τ' (P ++ kds L T l) ∧ MS τ' L t T ∧ FrP (PB l.length) τ0 τ') := by
        intro e
        refine m_b42 hL hK hmost (show M + s ≤ 200000 by omega) hl hl1 hl8 hs' ms (rs0.frP f) gi (fun τ' g1 g2 g3 => ?_)
        rw [List.append_assoc, ← e] at g1
        exact ih fuel (s + 1) τ' (by omega) (by omega) (by omega) g1 g2 (f.trans g3)
      have skip : kdn L T l (s + 1) = kdn L T l s → ok (f_X12_bodyComes_2 N fuel (nI l.length) (nI t) (nI (s + 1)) τ) (fun τ' => GI K kp most (M + 40) τ' (P ++ kds L T l) ∧ MS τ' L t T ∧ FrP (PB l.length) τ0 τ') := by
        intro e
        exact ih fuel (s + 1) τ (by omega) (by omega) (by omega) (by rw [e]; exact gi.up (by omega)) ms f
      rw [f_X12_bodyComes_2, show ib 0 2 = true from rfl, grd_true, ms.2.2.1, if_neg (nI_ge (by omega) (by omega)), ib_n (a := t) (by omega), decide_eq_true t40, grd_true, ncl (a := t) (by omega), ms.2.1.2.2.2.2, nI_1]
      by_cases hk0 : T.kd = 0
      · rw [if_pos (lg_cmp0.mpr hk0)]
        by_cases s0 : s = 0
        · subst s0
          rw [if_pos (show nI 0 ≤ (0 : Int32) by decide)]
          exact take (by unfold kdn rwK; rw [if_pos hk0, if_pos hk0, if_pos hk0, if_pos rfl, if_neg (by omega)]; rfl)
        · rw [if_neg (show ¬ nI s ≤ (0 : Int32) from nI_ge (a := 0) (by omega) (by omega))]
          exact skip (by unfold kdn; rw [if_pos hk0, if_pos hk0, if_neg s0, if_neg (by omega)])
      · rw [if_neg (fun q => hk0 (lg_cmp0.mp q)), m_isKind ms.1 ms.2.1 hL hs', bo_some]
        cases hb : kdB L T s with
        | false =>
          rw [if_pos (show b2 false = 0 from rfl)]
          exact skip (by
            unfold kdn
            rw [if_neg hk0, if_neg hk0, List.range_succ, List.filter_append, List.filter_cons_of_neg (by rw [hb]; decide), List.filter_nil, List.append_nil])
        | true =>
          rw [if_neg (show ¬ b2 true = 0 by decide)]
          exact take (by
            unfold kdn rwK
            rw [if_neg hk0, if_neg hk0, if_neg hk0, List.range_succ, List.filter_append, List.filter_cons_of_pos hb, List.filter_nil, List.map_append]
            rfl)
  exact key L.n N 0 τ0 (by omega) (by omega) (by omega) (by
    have e : kdn L T l 0 = [] := by
      unfold kdn
      by_cases hk0 : T.kd = 0
      · rw [if_pos hk0, if_pos rfl]
      · rw [if_neg hk0]; rfl
    rw [e, List.append_nil]; exact gi0) ms0 (FrP.refl _ _)
