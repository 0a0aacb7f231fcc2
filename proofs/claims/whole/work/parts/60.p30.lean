/-! SPELLINGS in the reference -/
def NM (τ : St) (L : Lv) : Prop := (∀ s, s < L.n → τ.1 34 s = nI (L.k s) ∧ τ.1 35 s = nI (L.c s) ∧ (∀ i, i < L.c s → τ.1 36 (3 * s + i) = nI (L.d s i)) ∧ τ.2 10 s = L.mn s) ∧ τ.1 2 3 = nI L.ech
def TMt (τ : St) (t : Nat) (T : Tv) : Prop := t < 40 ∧ τ.2 30 t = T.nm ∧ (∀ i, i < T.n → τ.1 32 (8 * t + i) = nI (T.d i)) ∧ τ.1 31 t = nI T.n ∧ τ.2 33 t = T.kd
theorem NM.frP {P : Nat → Nat → Prop} {τ τ' : St} {L : Lv} (h : NM τ L) (f : FrP P τ τ') (hp : ∀ a j, P a j → ([34, 35, 36, 10, 2] : List Nat).contains a = false) : NM τ' L := by
  have e : ∀ a, ([34, 35, 36, 10, 2] : List Nat).contains a = true → ∀ j, τ'.1 a j = τ.1 a j ∧ τ'.2 a j = τ.2 a j := fun a ha j => f a j (fun q => by rw [hp a j q] at ha; cases ha)
  refine ⟨fun s hs => ?_, by rw [(e 2 rfl 3).1]; exact h.2⟩
  obtain ⟨q1, q2, q3, q4⟩ := h.1 s hs
  rw [(e 34 rfl s).1, (e 35 rfl s).1, (e 10 rfl s).2]
  exact ⟨q1, q2, fun i hi => by rw [(e 36 rfl _).1]; exact q3 i hi, q4⟩
theorem TMt.frP {P : Nat → Nat → Prop} {τ τ' : St} {t : Nat} {T : Tv} (h : TMt τ t T) (f : FrP P τ τ') (hp : ∀ a j, P a j → ([30, 31, 32, 33] : List Nat).contains a = false) : TMt τ' t T := by
  have e : ∀ a, ([30, 31, 32, 33] : List Nat).contains a = true → ∀ j, τ'.1 a j = τ.1 a j ∧ τ'.2 a j = τ.2 a j := fun a ha j => f a j (fun q => by rw [hp a j q] at ha; cases ha)
  obtain ⟨q0, q1, q2, q3, q4⟩ := h
  refine ⟨q0, by rw [(e 30 rfl t).2]; exact q1, fun i hi => by rw [(e 32 rfl _).1]; exact q2 i hi, by rw [(e 31 rfl t).1]; exact q3, by rw [(e 33 rfl t).2]; exact q4⟩
theorem m_isIdea {τ : St} {L : Lv} {T : Tv} {t : Nat} (hn : NM τ L) (ht : TMt τ t T) (hL : LOk L) {s : Nat} (hs : s < L.n) : f_X12_isIdea (nI s) (nI t) τ = some (b2 (idB L T s)) := by
  have h40 := hL.1
  have hk := (hL.2.1 s hs).2.2.1
  have t40 := ht.1
  obtain ⟨q1, _, _, q4⟩ := hn.1 s hs
  unfold f_X12_isIdea
  rw [ib_n (a := s) (by omega), ib_n (a := s) (by omega), ib_n (a := t) (by omega), decide_eq_true (show s < 40 by omega), decide_eq_true (show s < 80 by omega), decide_eq_true t40, ncl (a := s) (by omega), ncl (a := t) (by omega), q1, q4, ht.2.1]
  simp only [grd_true]
  unfold idB
  by_cases e : L.k s = 2
  · rw [if_pos (show nI (L.k s) = (2 : Int32) by rw [e]; rfl)]
    by_cases e2 : L.mn s = T.nm
    · rw [if_pos (lg_cmp0.mpr e2), decide_eq_true ⟨e, e2⟩]; rfl
    · rw [if_neg (fun k => e2 (lg_cmp0.mp k)), decide_eq_false (fun k => e2 k.2)]; rfl
  · rw [if_neg (show ¬ nI (L.k s) = (2 : Int32) from fun k => e ((neq (b := 2) (by omega) (by omega)).mp k)), decide_eq_false (fun k => e k.1)]; rfl
theorem m_isKind {τ : St} {L : Lv} {T : Tv} {t : Nat} (hn : NM τ L) (ht : TMt τ t T) (hL : LOk L) {s : Nat} (hs : s < L.n) : f_X12_isKind (nI s) (nI t) τ = some (b2 (kdB L T s)) := by
  have h40 := hL.1
  have hk := (hL.2.1 s hs).2.2.1
  have t40 := ht.1
  obtain ⟨q1, _, _, q4⟩ := hn.1 s hs
  unfold f_X12_isKind
  rw [ib_n (a := s) (by omega), ib_n (a := s) (by omega), ib_n (a := t) (by omega), decide_eq_true (show s < 40 by omega), decide_eq_true (show s < 80 by omega), decide_eq_true t40, ncl (a := s) (by omega), ncl (a := t) (by omega), q1, q4, ht.2.2.2.2]
  simp only [grd_true]
  unfold kdB
  by_cases e : L.k s = 3
  · rw [if_pos (show nI (L.k s) = (3 : Int32) by rw [e]; rfl)]
    by_cases e2 : L.mn s = T.kd
    · rw [if_pos (lg_cmp0.mpr e2), decide_eq_true ⟨e, e2⟩]; rfl
    · rw [if_neg (fun k => e2 (lg_cmp0.mp k)), decide_eq_false (fun k => e2 k.2)]; rfl
  · rw [if_neg (show ¬ nI (L.k s) = (3 : Int32) from fun k => e ((neq (b := 3) (by omega) (by omega)).mp k)), decide_eq_false (fun k => e k.1)]; rfl
theorem m_isAt {N : Nat} (hN : 802 < N) {τ : St} {L : Lv} {T : Tv} {t : Nat} (hn : NM τ L) (ht : TMt τ t T) (hL : LOk L) (hT : TvOk T) {s p : Nat} (hs : s < L.n) (hp : p < 100) : f_X12_isAt N (nI s) (nI t) (nI p) τ = some (b2 (atB L T s p)) := by
  have h40 := hL.1
  have hk := (hL.2.1 s hs).2.2.1
  have hc3 := LOk_c hL hs
  have cd := LOk_d hL hs
  obtain ⟨t40, _, t1, t2, _⟩ := ht
  obtain ⟨q1, q2, q3, q4⟩ := hn.1 s hs
  obtain ⟨u1, u2, u3⟩ := hT
  unfold f_X12_isAt
  rw [ib_n (a := s) (by omega), ib_n (a := t) (by omega), decide_eq_true (show s < 40 by omega), decide_eq_true t40, ncl (a := s) (by omega), ncl (a := t) (by omega), q1, q2, t2]
  simp only [grd_true]
  unfold atB
  by_cases e : L.k s = 1
  · rw [if_pos (show nI (L.k s) = (1 : Int32) by rw [e]; rfl), if_neg (nI_pos (by omega)), nadd]
    by_cases e2 : p + L.c s ≤ T.n
    · rw [if_pos (nI_le e2 (by omega))]
      have key : ∀ (k fuel i : Nat), L.c s - i = k → k < fuel → i ≤ L.c s → f_X12_isAt_36 N fuel (nI s) (nI t) (nI p) (nI i) τ = some (if ∀ j, j < L.c s → i ≤ j → L.d s j = T.d (p + j) then 1 else 0) := by
        intro k
        induction k with
        | zero =>
          intro fuel i hk hf hi
          obtain ⟨fuel, rfl⟩ : ∃ f, fuel = f + 1 := ⟨fuel - 1, by omega⟩
          rw [f_X12_isAt_36, ib_n (a := s) (by omega), decide_eq_true (show s < 40 by omega), grd_true, ncl (a := s) (by omega), q2, if_pos (nI_le (by omega) (by omega)), if_pos (fun j h1 h2 => by omega)]
        | succ k ih =>
          intro fuel i hk hf hi
          obtain ⟨fuel, rfl⟩ : ∃ f, fuel = f + 1 := ⟨fuel - 1, by omega⟩
          have ea : 3 * nI s + nI i = nI (3 * s + i) := by rw [show (3 : Int32) = nI 3 from rfl, nmul, nadd]
          have eb : 8 * nI t + nI p + nI i = nI (8 * t + (p + i)) := by rw [show (8 : Int32) = nI 8 from rfl, nmul, nadd, nadd, Nat.add_assoc]
          rw [f_X12_isAt_36, ib_n (a := s) (by omega), decide_eq_true (show s < 40 by omega), grd_true, ncl (a := s) (by omega), q2, if_neg (nI_ge (by omega) (by omega)), ea, eb, ib_n (by omega), decide_eq_true (by omega), grd_true, ib_n (by omega), decide_eq_true (by omega), grd_true, ncl (by omega), ncl (by omega), q3 i (by omega), t1 (p + i) (by omega), nI_1]
          have d1 := cd i (by omega)
          have d2 := u3 (p + i) (by omega)
          by_cases h : L.d s i = T.d (p + i)
          · rw [if_pos (by rw [h]), ih fuel (i + 1) (by omega) (by omega) (by omega)]
            congr 2
            apply propext
            constructor
            · intro k j h1 h2
              by_cases ej : j = i
              · rw [ej]; exact h
              · exact k j h1 (by omega)
            · intro k j h1 h2; exact k j h1 (by omega)
          · rw [if_neg (fun q => h ((neq (by omega) (by omega)).mp q)), if_neg (show ¬ ∀ j, j < L.c s → i ≤ j → L.d s j = T.d (p + j) from fun k => h (k i (by omega) (Nat.le_refl _)))]
      have := key (L.c s) N 0 rfl (by omega) (by omega)
      rw [nI_0] at this
      rw [this]
      by_cases e3 : ∀ i, i < L.c s → L.d s i = T.d (p + i)
      · rw [if_pos (fun j h1 _ => e3 j h1), decide_eq_true ⟨e, e2, e3⟩]; rfl
      · rw [if_neg (show ¬ ∀ j, j < L.c s → 0 ≤ j → L.d s j = T.d (p + j) from fun k => e3 (fun i hi => k i hi (by omega))), decide_eq_false (fun q => e3 q.2.2)]; rfl
    · rw [if_neg (nI_ge (by omega) (by omega)), decide_eq_false (fun q => e2 q.2.1)]; rfl
  · rw [if_neg (show ¬ nI (L.k s) = (1 : Int32) from fun k => e ((neq (b := 1) (by omega) (by omega)).mp k)), decide_eq_false (fun q => e q.1)]; rfl
theorem m_isTail {N : Nat} (hN : 802 < N) {τ : St} {L : Lv} {T : Tv} {t : Nat} (hn : NM τ L) (ht : TMt τ t T) (hL : LOk L) (hT : TvOk T) {s : Nat} (hs : s < L.n) : f_X12_isTail N (nI s) (nI t) τ = some (b2 (tlB L T s)) := by
  have h40 := hL.1
  have hc3 := LOk_c hL hs
  have u2 := hT.2.1
  unfold f_X12_isTail
  rw [ib_n (a := s) (by omega), ib_n (a := t) (by have := ht.1; omega), decide_eq_true (show s < 40 by omega), decide_eq_true ht.1, ncl (a := s) (by omega), ncl (a := t) (by have := ht.1; omega), ht.2.2.2.1, (hn.1 s hs).2.1]
  simp only [grd_true]
  unfold tlB
  by_cases e : L.c s ≤ T.n
  · rw [nsub e, m_isAt hN hn ht hL hT hs (by omega), bo_some, b2_z, grd_true, decide_eq_true e, Bool.true_and]
  · have hneg : nI T.n - nI (L.c s) < 0 := nsub_neg (by omega) (by omega)
    unfold f_X12_isAt
    rw [ib_n (a := s) (by omega), decide_eq_true (show s < 40 by omega), grd_true, if_pos hneg, decide_eq_false e, Bool.false_and]
    split <;> rfl
theorem Rfl_stp {L : Lv} {T : Tv} {R S s : Nat} (h16 : 16 ≤ stp L T R S s) {e : Nat} (he : e < 4) (hb : (stp L T R S s).testBit e = true) : e < S + L.c s := by
  have h1 := (stp_16 L T R S s).mp h16
  rw [stp_bit _ _ _ _ _ he] at hb
  obtain ⟨_, q | q⟩ := of_decide_eq_true hb
  · omega
  · have := (of_decide_eq_true q.2.2.2.2).1
    omega
theorem rdg_fl (L : Lv) (T : Tv) (f : Nat → Nat) {m e : Nat} (h16 : 16 ≤ rdg L T f m) (he : e < 4) (hb : (rdg L T f m).testBit e = true) : e < sm L f m := by
  cases m with
  | zero => have : rdg L T f 0 = 1 := rfl; omega
  | succ m => exact Rfl_stp (L := L) (T := T) (R := rdg L T f m) (S := sm L f m) (s := f m) h16 he hb
/-- the row of covers that a reading makes -/
def bAt (R S p : Nat) : Prop := p ≤ S ∧ S - p < 4 ∧ R.testBit (S - p) = true
def cvm (R S p g : Nat) : Nat := if (p ≤ S ∧ S - p < 4 ∧ R.testBit (S - p) = true) ∧ g = (if 16 ≤ R then 1 else 0) then 2 ^ (S - p) else 0
def CvR (τ : St) (m R S : Nat) : Prop := ∀ p, p ≤ 8 → ∀ g, g < 2 → τ.1 37 (18 * m + 2 * p + g) = nI (cvm R S p g)
theorem pw_c : ∀ a, a < 4 → ∀ h, h < 4 → ((nI (2 ^ a) <<< ((1 : Int32) &&& 31)) &&& ((2 <<< (nI h &&& 31)) - 1)) = nI (if a + 1 ≤ h then 2 ^ (a + 1) else 0) ∧ (2 : Nat) ^ a < 16 ∧ nI (2 ^ a) ≠ 0 := by decide +kernel
