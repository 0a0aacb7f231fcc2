/-! the list of covers: its own law -/
def Rch (L : Lv) (T : Tv) (m R S : Nat) : Prop := Rok L T R S ∧ (∃ e, e < 4 ∧ R.testBit e = true) ∧ ∀ e, e < 4 → R.testBit e = true → m ≤ S - e ∧ (16 ≤ R → m + 1 ≤ S - e)
theorem Rch_1 {L : Lv} {T : Tv} : Rch L T 0 1 0 := ⟨Rok_1, ⟨0, by omega, by decide⟩, fun e _ _ => ⟨Nat.zero_le _, fun h => absurd h (by omega)⟩⟩
theorem stp_ex {L : Lv} {T : Tv} {R S s : Nat} (h : stp L T R S s ≠ 0) : ∃ e, e < 4 ∧ stB L T R S s e = true := by
  apply Classical.byContradiction
  intro hc
  apply h
  rw [stp_0]
  intro e he
  cases hb : stB L T R S s e with
  | false => rfl
  | true => exact absurd ⟨e, he, hb⟩ hc
theorem stB_c {L : Lv} {T : Tv} (hL : LOk L) {R S s e : Nat} (hs : s < L.n) (h : stB L T R S s e = true) : e ≤ L.ech ∧ 1 ≤ L.c s ∧ L.c s ≤ 3 ∧ ((R.testBit e = true ∧ e ≤ S ∧ atB L T s (S - e) = true) ∨ (0 < e ∧ R.testBit (e - 1) = true ∧ 16 ≤ R ∧ e - 1 ≤ S ∧ L.c s = 1)) := by
  unfold stB at h
  obtain ⟨h1, h2⟩ := decide_eq_true_iff.mp h
  rcases h2 with ⟨a, b, c⟩ | ⟨a, b, c, d, g⟩
  · have := atB_c hL hs c
    exact ⟨h1, this.1, this.2.1, Or.inl ⟨a, b, c⟩⟩
  · unfold ecB at g
    have g1 := (decide_eq_true_iff.mp g).1
    exact ⟨h1, by omega, by omega, Or.inr ⟨a, b, c, d, g1⟩⟩
theorem Rch_S {L : Lv} {T : Tv} (hL : LOk L) (hT : TvOk T) {m R S : Nat} (h : Rch L T m R S) : S ≤ 11 ∧ m ≤ 8 ∧ m ≤ S ∧ R < 32 ∧ R ≠ 0 := by
  obtain ⟨h1, ⟨e, he, hb⟩, h3⟩ := h
  have a := h1.2 e he hb
  have b := h3 e he hb
  have h8 := hT.2.1
  have h3 : L.ech ≤ 3 := hL.2.2.2.2.2
  refine ⟨by omega, by omega, by omega, h1.1, fun q => ?_⟩
  rw [q, Nat.zero_testBit] at hb; cases hb
theorem Rch_stp {L : Lv} {T : Tv} (hL : LOk L) {m R S s : Nat} (hs : s < L.n) (h : Rch L T m R S) (hn : stp L T R S s ≠ 0) : Rch L T (m + 1) (stp L T R S s) (S + L.c s) ∧ 1 ≤ L.c s ∧ L.c s ≤ 3 := by
  obtain ⟨h1, h2, h3⟩ := h
  obtain ⟨e, he, hb⟩ := stp_ex hn
  have c0 := stB_c hL hs hb
  refine ⟨⟨Rok_stp h1, ⟨e, he, by rw [stp_bit _ _ _ _ _ he]; exact hb⟩, fun e' he' hb' => ?_⟩, c0.2.1, c0.2.2.1⟩
  rw [stp_bit _ _ _ _ _ he'] at hb'
  have c1 := stB_c hL hs hb'
  rcases c1.2.2.2 with ⟨a, b, c⟩ | ⟨a, b, c, d, g⟩
  · have := (h3 e' he' a).1
    exact ⟨by omega, fun q => by have := ((stp_16 _ _ _ _ _).mp q).2; omega⟩
  · have := (h3 (e' - 1) (by omega) b).2 c
    exact ⟨by omega, fun q => by have := ((stp_16 _ _ _ _ _).mp q).2; omega⟩
theorem fm_congr {α β : Type} {f g : α → List β} : ∀ {l : List α}, (∀ x, x ∈ l → f x = g x) → l.flatMap f = l.flatMap g := by
  intro l
  induction l with
  | nil => intro _; rfl
  | cons a l ih => intro h; rw [List.flatMap_cons, List.flatMap_cons, h a List.mem_cons_self, ih (fun x hx => h x (List.mem_cons_of_mem _ hx))]
theorem cvs_fuel {L : Lv} {T : Tv} (hL : LOk L) (hT : TvOk T) : ∀ (d d' m R S : Nat), Rch L T m R S → 12 ≤ d + S → 12 ≤ d' + S → cvs L T d R S = cvs L T d' R S := by
  intro d
  induction d with
  | zero => intro d' m R S h h1 _; have := (Rch_S hL hT h).1; omega
  | succ d ih =>
    intro d' m R S h h1 h2
    have hS := (Rch_S hL hT h).1
    obtain ⟨d', rfl⟩ : ∃ x, d' = x + 1 := ⟨d' - 1, by omega⟩
    rw [cvs, cvs]
    congr 1
    apply fm_congr
    intro s hs
    have hs' := List.mem_range.mp hs
    by_cases e : stp L T R S s = 0
    · rw [if_pos e, if_pos e]
    · have r := Rch_stp hL hs' h e
      rw [if_neg e, if_neg e, ih d' (m + 1) _ _ r.1 (by omega) (by omega)]
abbrev cv (L : Lv) (T : Tv) (R S : Nat) : List (List Nat) := cvs L T 12 R S
def cvn (L : Lv) (T : Tv) (R S s : Nat) : List (List Nat) := if stp L T R S s = 0 then [] else (cv L T (stp L T R S s) (S + L.c s)).map (fun l => s :: l)
def cvh (L : Lv) (T : Tv) (R S : Nat) : List (List Nat) := if isCov L T R S = true then [[]] else []
def cvp (L : Lv) (T : Tv) (R S n : Nat) : List (List Nat) := cvh L T R S ++ (List.range n).flatMap (cvn L T R S)
theorem cv_eq {L : Lv} {T : Tv} (hL : LOk L) (hT : TvOk T) {m R S : Nat} (h : Rch L T m R S) : cv L T R S = cvp L T R S L.n := by
  have key : (List.range L.n).flatMap (fun s => if stp L T R S s = 0 then [] else (cvs L T 11 (stp L T R S s) (S + L.c s)).map (fun l => s :: l)) = (List.range L.n).flatMap (cvn L T R S) := fm_congr (fun s hs => by
    have hs' := List.mem_range.mp hs
    unfold cvn
    by_cases e : stp L T R S s = 0
    · rw [if_pos e, if_pos e]
    · have r := Rch_stp hL hs' h e
      rw [if_neg e, if_neg e, cvs_fuel hL hT 11 12 (m + 1) _ _ r.1 (by omega) (by omega)])
  unfold cvp cvh
  rw [← key]
  show cvs L T (11 + 1) R S = _
  rw [cvs]
theorem cvp_succ (L : Lv) (T : Tv) (R S n : Nat) : cvp L T R S (n + 1) = cvp L T R S n ++ cvn L T R S n := by
  unfold cvp
  rw [List.range_succ, List.flatMap_append, List.append_assoc, List.flatMap_cons, List.flatMap_nil, List.append_nil]
theorem cvp_0 (L : Lv) (T : Tv) (R S : Nat) : cvp L T R S 0 = cvh L T R S := by
  unfold cvp; rw [List.range_zero, List.flatMap_nil, List.append_nil]
theorem cv_mem {L : Lv} {T : Tv} (hL : LOk L) (hT : TvOk T) {m R S : Nat} (h : Rch L T m R S) (l : List Nat) : l ∈ cv L T R S ↔ ((l = [] ∧ isCov L T R S = true) ∨ ∃ s l', l = s :: l' ∧ s < L.n ∧ stp L T R S s ≠ 0 ∧ l' ∈ cv L T (stp L T R S s) (S + L.c s)) := by
  rw [cv_eq hL hT h]
  unfold cvp cvh cvn
  rw [List.mem_append, List.mem_flatMap]
  constructor
  · rintro (q | ⟨s, q1, q2⟩)
    · by_cases c : isCov L T R S = true
      · rw [if_pos c] at q; exact Or.inl ⟨List.mem_singleton.mp q, c⟩
      · rw [if_neg c] at q; exact absurd q List.not_mem_nil
    · by_cases c : stp L T R S s = 0
      · rw [if_pos c] at q2; exact absurd q2 List.not_mem_nil
      · rw [if_neg c] at q2
        obtain ⟨l', a1, a2⟩ := List.mem_map.mp q2
        exact Or.inr ⟨s, l', a2.symm, List.mem_range.mp q1, c, a1⟩
  · rintro (⟨q1, q2⟩ | ⟨s, l', q1, q2, q3, q4⟩)
    · left; rw [if_pos q2, q1]; exact List.mem_singleton.mpr rfl
    · right
      refine ⟨s, List.mem_range.mpr q2, ?_⟩
      rw [if_neg q3, q1]
      exact List.mem_map.mpr ⟨l', q4, rfl⟩
theorem cv_len {L : Lv} {T : Tv} (hL : LOk L) (hT : TvOk T) : ∀ (l : List Nat) (m R S : Nat), Rch L T m R S → l ∈ cv L T R S → m + l.length ≤ 8 ∧ (∀ s, s ∈ l → s < L.n) ∧ ∃ e, e < 4 ∧ R.testBit e = true ∧ ∃ l2, til L T T.n l2 (S - e) ∧ l2.length ≤ l.length := by
  intro l
  induction l with
  | nil =>
    intro m R S h q
    have b := Rch_S hL hT h
    rcases (cv_mem hL hT h []).mp q with ⟨_, c⟩ | ⟨s, l', c, _⟩
    · unfold isCov at c
      obtain ⟨c1, c2, c3⟩ := decide_eq_true_iff.mp c
      have h3 : L.ech ≤ 3 := hL.2.2.2.2.2
      exact ⟨by show m + 0 ≤ 8; omega, fun s hs => (nomatch hs), S - T.n, by omega, c3, [], by show S - (S - T.n) = T.n; omega, Nat.le_refl _⟩
    · cases c
  | cons s l ih =>
    intro m R S h q
    rcases (cv_mem hL hT h (s :: l)).mp q with ⟨c, _⟩ | ⟨s', l', c1, c2, c3, c4⟩
    · cases c
    · have e1 := (List.cons.inj c1).1
      have e2 := (List.cons.inj c1).2
      subst e1; subst e2
      have r := Rch_stp hL c2 h c3
      obtain ⟨i1, i2, e, he, hb, l2, i3, i4⟩ := ih (m + 1) _ _ r.1 c4
      refine ⟨by rw [List.length_cons]; omega, fun x hx => (List.mem_cons.mp hx).elim (fun q => by rw [q]; exact c2) (i2 x), ?_⟩
      rw [stp_bit _ _ _ _ _ he] at hb
      rcases (stB_c hL c2 hb).2.2.2 with ⟨a, b, c⟩ | ⟨a, b, c, d, g⟩
      · refine ⟨e, he, a, s :: l2, ⟨c2, c, ?_⟩, by rw [List.length_cons, List.length_cons]; omega⟩
        rw [show S - e + L.c s = S + L.c s - e by omega]; exact i3
      · refine ⟨e - 1, by omega, b, l2, ?_, by rw [List.length_cons]; omega⟩
        rw [show S - (e - 1) = S + L.c s - e by omega]; exact i3
