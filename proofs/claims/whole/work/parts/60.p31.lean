def gC (L : Lv) (s : Nat) : Nat := if 1 < L.c s then 1 else 0
def cstB (L : Lv) (T : Tv) (R S s p p' g' : Nat) : Bool := decide (g' = gC L s ∧ ((L.c s ≤ p' ∧ p' - L.c s < p ∧ (p' - L.c s ≤ S ∧ S - (p' - L.c s) < 4 ∧ R.testBit (S - (p' - L.c s)) = true) ∧ atB L T s (p' - L.c s) = true) ∨ (L.c s = 1 ∧ p' < p ∧ (p' ≤ S ∧ S - p' < 4 ∧ R.testBit (S - p') = true) ∧ 16 ≤ R ∧ S - p' + 1 ≤ L.ech ∧ ecB L T s p' = true)))
def cel (L : Lv) (T : Tv) (R S s p p' g' : Nat) : Nat := if cstB L T R S s p p' g' = true then 2 ^ (S + L.c s - p') else 0
def PC (m : Nat) (a j : Nat) : Prop := a = 37 ∧ 18 * (m + 1) ≤ j ∧ j < 18 * (m + 1) + 18
def CelI (τ : St) (L : Lv) (T : Tv) (m R S s p : Nat) : Prop := ∀ p', p' ≤ 8 → ∀ g', g' < 2 → τ.1 37 (18 * m + 18 + 2 * p' + g') = nI (cel L T R S s p p' g')
theorem CvR.frC {τ τ' : St} {m R S : Nat} (h : CvR τ m R S) (f : FrP (PC m) τ τ') : CvR τ' m R S := fun p hp g hg => by
  rw [(f 37 (18 * m + 2 * p + g) (by unfold PC; omega)).1]; exact h p hp g hg
theorem PC_n {m : Nat} : ∀ a j, PC m a j → ([34, 35, 36, 10, 2] : List Nat).contains a = false := by
  rintro a j ⟨h, _⟩; rw [h]; rfl
theorem PC_t {m : Nat} : ∀ a j, PC m a j → ([30, 31, 32, 33] : List Nat).contains a = false := by
  rintro a j ⟨h, _⟩; rw [h]; rfl
theorem cst_succ {L : Lv} {T : Tv} {R S s p p' g' : Nat} : cstB L T R S s (p + 1) p' g' = true ↔ (cstB L T R S s p p' g' = true ∨ (g' = gC L s ∧ p' = p + L.c s ∧ (p ≤ S ∧ S - p < 4 ∧ R.testBit (S - p) = true) ∧ atB L T s p = true) ∨ (g' = gC L s ∧ p' = p ∧ L.c s = 1 ∧ (p ≤ S ∧ S - p < 4 ∧ R.testBit (S - p) = true) ∧ 16 ≤ R ∧ S - p + 1 ≤ L.ech ∧ ecB L T s p = true)) := by
  unfold cstB
  rw [decide_eq_true_iff, decide_eq_true_iff]
  constructor
  · rintro ⟨h1, h | h⟩
    · by_cases e : p' - L.c s = p
      · rw [e] at h; exact Or.inr (Or.inl ⟨h1, by omega, h.2.2.1, h.2.2.2⟩)
      · exact Or.inl ⟨h1, Or.inl ⟨h.1, by omega, h.2.2⟩⟩
    · by_cases e : p' = p
      · subst e; exact Or.inr (Or.inr ⟨h1, rfl, h.1, h.2.2.1, h.2.2.2⟩)
      · exact Or.inl ⟨h1, Or.inr ⟨h.1, by omega, h.2.2⟩⟩
  · rintro (⟨h1, h | h⟩ | ⟨h1, h2, h3, h4⟩ | ⟨h1, h2, h3, h4, h5⟩)
    · exact ⟨h1, Or.inl ⟨h.1, by omega, h.2.2⟩⟩
    · exact ⟨h1, Or.inr ⟨h.1, by omega, h.2.2⟩⟩
    · subst h2
      refine ⟨h1, Or.inl ?_⟩
      rw [Nat.add_sub_cancel]
      exact ⟨by omega, by omega, h3, h4⟩
    · subst h2
      exact ⟨h1, Or.inr ⟨h3, by omega, h4, h5⟩⟩
theorem cel_or {L : Lv} {T : Tv} {R S s p p' g' : Nat} : nI (cel L T R S s p p' g') ||| nI (2 ^ (S + L.c s - p')) = nI (2 ^ (S + L.c s - p')) := by
  unfold cel
  rw [nor]
  split
  · rw [Nat.or_self]
  · rw [Nat.zero_or]
theorem m_cov_step {N : Nat} (hN : 802 < N) {τ : St} {L : Lv} {T : Tv} {t : Nat} (hn : NM τ L) (ht : TMt τ t T) (hL : LOk L) (hT : TvOk T) {m R S s p : Nat} (hm : m ≤ 11) (hs : s < L.n) (hk1 : L.k s = 1) (hR : Rok L T R S) (hfl : 16 ≤ R → ∀ e, e < 4 → R.testBit e = true → e < S) (hS : S ≤ 20) (hp : p ≤ T.n) (hv : CvR τ m R S) (hc : CelI τ L T m R S s p) {Q : Int32 × St → Prop} {k38 : Int32 → Int32 → Int32 → Int32 → Int32 → St → Option (Int32 × St)}
    (kk : ∀ τ', CelI τ' L T m R S s (p + 1) → FrP (PC m) τ τ' → ok (k38 (nI m) (nI s) (nI t) 0 (nI (p + 1)) τ') Q) :
    ok ((if ((τ.1 37 ((18 * nI m) + (2 * nI p)).toNatClampNeg) ||| (τ.1 37 (((18 * nI m) + (2 * nI p)) + 1).toNatClampNeg)) = 0 then f_X12_coverOn_153 N k38 (nI m) (nI s) (nI t) 0 (nI p) τ else bo (f_X12_isAt N (nI s) (nI t) (nI p) τ) (fun r10_ => (if r10_ = 0 then f_X12_coverOn_153 N k38 (nI m) (nI s) (nI t) 0 (nI p) τ else grd (ib (nI s) 40) (grd (ib (nI s) 40) ((if (τ.1 35 (nI s).toNatClampNeg) ≤ 1 then f_X12_coverOn_146 N k38 (nI m) (nI s) (nI t) 0 (nI p) ((τ.1 37 ((18 * nI m) + (2 * nI p)).toNatClampNeg) ||| (τ.1 37 (((18 * nI m) + (2 * nI p)) + 1).toNatClampNeg)) (((18 * nI m) + 18) + (2 * (nI p + (τ.1 35 (nI s).toNatClampNeg)))) 0 τ else f_X12_coverOn_146 N k38 (nI m) (nI s) (nI t) 0 (nI p) ((τ.1 37 ((18 * nI m) + (2 * nI p)).toNatClampNeg) ||| (τ.1 37 (((18 * nI m) + (2 * nI p)) + 1).toNatClampNeg)) (((18 * nI m) + 18) + (2 * (nI p + (τ.1 35 (nI s).toNatClampNeg)))) 1 τ))))))) Q := by
  have h40 := hL.1
  have hc3 := LOk_c hL hs
  have hc1 := ((hL.2.1 s hs).2.2.2.1 hk1).1
  have he3 : L.ech ≤ 3 := hL.2.2.2.2.2
  have u2 := hT.2.1
  have t40 := ht.1
  obtain ⟨q1, q2, q3, q4⟩ := hn.1 s hs
  have i1 : 18 * nI m + 2 * nI p = nI (18 * m + 2 * p) := by rw [show (18 : Int32) = nI 18 from rfl, show (2 : Int32) = nI 2 from rfl, nmul, nmul, nadd]
  have v0 : τ.1 37 (18 * m + 2 * p) = nI (cvm R S p 0) := hv p (by omega) 0 (by omega)
  have v1 : τ.1 37 (18 * m + 2 * p + 1) = nI (cvm R S p 1) := hv p (by omega) 1 (by omega)
  -- the echo, behind what a COVER may have added
  have echo : ∀ τ1, FrP (PC m) τ τ1 → (∀ p', p' ≤ 8 → ∀ g', g' < 2 → τ1.1 37 (18 * m + 18 + 2 * p' + g') = nI (if cstB L T R S s p p' g' = true ∨ (g' = gC L s ∧ p' = p + L.c s ∧ (p ≤ S ∧ S - p < 4 ∧ R.testBit (S - p) = true) ∧ atB L T s p = true) then 2 ^ (S + L.c s - p') else 0)) → ok (f_X12_coverOn_153 N k38 (nI m) (nI s) (nI t) 0 (nI p) τ1) Q := by
    intro τ1 f1 hc1'
    unfold f_X12_coverOn_153
    have hn1 := hn.frP f1 PC_n
    have ht1 := ht.frP f1 PC_t
    have w1 : τ1.1 37 (18 * m + 2 * p + 1) = nI (cvm R S p 1) := hv.frC f1 p (by omega) 1 (by omega)
    obtain ⟨r1, r2, r3, r4⟩ := hn1.1 s hs
    have i2 : 18 * nI m + 18 + 2 * nI p = nI (18 * m + 18 + 2 * p) := by rw [show (18 : Int32) = nI 18 from rfl, show (2 : Int32) = nI 2 from rfl, nmul, nmul, nadd, nadd]
    rw [i1, nI_1, ib_n (by omega), decide_eq_true (show 18 * m + 2 * p + 1 < 234 by omega), grd_true, ncl (by omega), w1]
    have done : (∀ p' g', ¬ (g' = gC L s ∧ p' = p ∧ L.c s = 1 ∧ (p ≤ S ∧ S - p < 4 ∧ R.testBit (S - p) = true) ∧ 16 ≤ R ∧ S - p + 1 ≤ L.ech ∧ ecB L T s p = true)) → ok (k38 (nI m) (nI s) (nI t) 0 (nI p + 1) τ1) Q := by
      intro hno
      rw [nI_1]
      refine kk τ1 (fun p' hp' g' hg' => ?_) f1
      rw [hc1' p' hp' g' hg']
      unfold cel
      congr 1
      have := cst_succ (L := L) (T := T) (R := R) (S := S) (s := s) (p := p) (p' := p') (g' := g')
      by_cases hh : cstB L T R S s (p + 1) p' g' = true
      · rw [if_pos hh, if_pos]
        rcases this.mp hh with a | a | a
        · exact Or.inl a
        · exact Or.inr a
        · exact absurd a (hno p' g')
      · rw [if_neg hh, if_neg]
        rintro (a | a)
        · exact hh (this.mpr (Or.inl a))
        · exact hh (this.mpr (Or.inr (Or.inl a)))
    by_cases hE : (p ≤ S ∧ S - p < 4 ∧ R.testBit (S - p) = true) ∧ 16 ≤ R
    · have hcv : cvm R S p 1 = 2 ^ (S - p) := by unfold cvm; rw [if_pos ⟨hE.1, by rw [if_pos hE.2]⟩]
      have hpos : 0 < p := by have := hfl hE.2 (S - p) hE.1.2.1 hE.1.2.2; omega
      obtain ⟨x1, x2, x3⟩ := pw_c (S - p) hE.1.2.1 L.ech (by omega)
      rw [hcv, if_neg x3, ib_n (a := s) (by omega), decide_eq_true (show s < 40 by omega), grd_true, ncl (a := s) (by omega), r2]
      by_cases hcs : L.c s = 1
      · have i3 : 3 * nI s = nI (3 * s) := nmul 3 s
        have i4 : 8 * nI t + nI p - 1 = nI (8 * t + (p - 1)) := by
          rw [show (8 : Int32) = nI 8 from rfl, nmul, nadd, show (1 : Int32) = nI 1 from rfl, nsub (by omega)]; congr 1; omega
        have d36 : τ1.1 36 (3 * s) = nI (L.d s 0) := r3 0 (by omega)
        rw [if_pos (show nI (L.c s) = (1 : Int32) by rw [hcs]; rfl), i3, i4, ib_n (a := 3 * s) (by omega), decide_eq_true (show 3 * s < 120 by omega), ib_n (a := 8 * t + (p - 1)) (by omega), decide_eq_true (show 8 * t + (p - 1) < 320 by omega), grd_true, grd_true, ncl (a := 3 * s) (by omega), ncl (a := 8 * t + (p - 1)) (by omega), d36, ht1.2.2.1 (p - 1) (by omega)]
        have e1 := LOk_d hL hs 0 (by omega)
        have e2 := hT.2.2 (p - 1) (by omega)
        by_cases hd : L.d s 0 = T.d (p - 1)
        · rw [if_pos (by rw [hd]), i2, ib_n (a := 18 * m + 18 + 2 * p) (by omega), decide_eq_true (show 18 * m + 18 + 2 * p < 234 by omega), show ib 3 8 = true from rfl, ncl (a := 18 * m + 18 + 2 * p) (by omega), hn1.2, x1]
          simp only [grd_true]
          have hec : ecB L T s p = true := decide_eq_true ⟨hcs, hpos, hd⟩
          have cold := hc1' p (by omega) 0 (by omega)
          rw [Nat.add_zero] at cold
          rw [cold, nI_1, nor]
          by_cases hle : S - p + 1 ≤ L.ech
          · rw [if_pos hle]
            have hx : (if cstB L T R S s p p 0 = true ∨ (0 = gC L s ∧ p = p + L.c s ∧ (p ≤ S ∧ S - p < 4 ∧ R.testBit (S - p) = true) ∧ atB L T s p = true) then 2 ^ (S + L.c s - p) else 0) ||| 2 ^ (S - p + 1) = 2 ^ (S + L.c s - p) := by
              have : S - p + 1 = S + L.c s - p := by omega
              rw [this]
              split
              · rw [Nat.or_self]
              · rw [Nat.zero_or]
            rw [hx]
            have f2 : FrP (PC m) τ1 (si τ1 37 (18 * m + 18 + 2 * p) (nI (2 ^ (S + L.c s - p)))) := (FrP.refl _ _).si _ _ _ ⟨rfl, by omega, by omega⟩
            refine kk _ (fun p' hp' g' hg' => ?_) (f1.trans f2)
            rw [si_rd, if_pos rfl]
            have := cst_succ (L := L) (T := T) (R := R) (S := S) (s := s) (p := p) (p' := p') (g' := g')
            have hg0 : gC L s = 0 := by unfold gC; rw [if_neg (by omega)]
            by_cases hidx : 18 * m + 18 + 2 * p' + g' = 18 * m + 18 + 2 * p
            · have ep : p' = p := by omega
              have eg : g' = 0 := by omega
              subst ep; subst eg
              rw [if_pos hidx]
              unfold cel
              rw [if_pos (this.mpr (Or.inr (Or.inr ⟨hg0.symm, rfl, hcs, hE.1, hE.2, hle, hec⟩)))]
            · rw [if_neg hidx, hc1' p' hp' g' hg']
              unfold cel
              congr 1
              by_cases hh : cstB L T R S s (p + 1) p' g' = true
              · rw [if_pos hh, if_pos]
                rcases this.mp hh with a | a | a
                · exact Or.inl a
                · exact Or.inr a
                · rw [hg0] at a; omega
              · rw [if_neg hh, if_neg]
                rintro (a | a)
                · exact hh (this.mpr (Or.inl a))
                · exact hh (this.mpr (Or.inr (Or.inl a)))
          · rw [if_neg hle, Nat.or_zero, ← cold]
            have hsame : si τ1 37 (18 * m + 18 + 2 * p) (τ1.1 37 (18 * m + 18 + 2 * p)) = τ1 := by
              refine Prod.ext (funext (fun a => funext (fun b => ?_))) rfl
              rw [si_rd]
              by_cases ea : a = 37
              · rw [if_pos ea]
                by_cases eb : b = 18 * m + 18 + 2 * p
                · rw [if_pos eb, ea, eb]
                · rw [if_neg eb, ea]
              · rw [if_neg ea]
            rw [hsame, ← nI_1]
            exact done (fun p' g' a => hle a.2.2.2.2.2.1)
        · rw [if_neg (fun q => hd ((neq (by omega) (by omega)).mp q))]
          exact done (fun p' g' a => hd (of_decide_eq_true a.2.2.2.2.2.2).2.2)
      · rw [if_neg (show ¬ nI (L.c s) = (1 : Int32) from fun q => hcs ((neq (b := 1) (by omega) (by omega)).mp q))]
        exact done (fun p' g' a => hcs a.2.2.1)
    · have hcv : cvm R S p 1 = 0 := by
        unfold cvm
        rw [if_neg]
        rintro ⟨a, b⟩
        by_cases h16 : 16 ≤ R
        · exact hE ⟨a, h16⟩
        · rw [if_neg h16] at b; omega
      rw [hcv, if_pos (show nI 0 = (0 : Int32) from rfl)]
      exact done (fun p' g' a => hE ⟨a.2.2.2.1, a.2.2.2.2.1⟩)
  have hboth : nI (cvm R S p 0) ||| nI (cvm R S p 1) = nI (if p ≤ S ∧ S - p < 4 ∧ R.testBit (S - p) = true then 2 ^ (S - p) else 0) := by
    rw [nor]
    congr 1
    unfold cvm
    by_cases hb : p ≤ S ∧ S - p < 4 ∧ R.testBit (S - p) = true
    · rw [if_pos hb]
      by_cases h16 : 16 ≤ R
      · rw [if_neg (fun a => by rw [if_pos h16] at a; omega), if_pos ⟨hb, by rw [if_pos h16]⟩, Nat.zero_or]
      · rw [if_pos ⟨hb, by rw [if_neg h16]⟩, if_neg (fun a => by rw [if_neg h16] at a; omega), Nat.or_zero]
    · rw [if_neg hb, if_neg (fun a => hb a.1), if_neg (fun a => hb a.1), Nat.or_zero]
  have plain : ¬ ((p ≤ S ∧ S - p < 4 ∧ R.testBit (S - p) = true) ∧ atB L T s p = true) → ok (f_X12_coverOn_153 N k38 (nI m) (nI s) (nI t) 0 (nI p) τ) Q := by
    intro hno
    refine echo τ (FrP.refl _ _) (fun p' hp' g' hg' => ?_)
    rw [hc p' hp' g' hg']
    unfold cel
    congr 1
    by_cases hh : cstB L T R S s p p' g' = true
    · rw [if_pos hh, if_pos (Or.inl hh)]
    · rw [if_neg hh, if_neg]
      rintro (a | a)
      · exact hh a
      · exact hno ⟨a.2.2.1, a.2.2.2⟩
  rw [i1, nI_1, ncl (a := 18 * m + 2 * p) (by omega), ncl (a := 18 * m + 2 * p + 1) (by omega), v0, v1, hboth]
  by_cases hb : p ≤ S ∧ S - p < 4 ∧ R.testBit (S - p) = true
  · obtain ⟨x1, x2, x3⟩ := pw_c (S - p) hb.2.1 L.ech (by omega)
    rw [if_pos hb, if_neg x3, m_isAt hN hn ht hL hT hs (by omega), bo_some]
    cases hat : atB L T s p with
    | false =>
      rw [if_pos ((b2_0 false).mpr rfl)]
      exact plain (fun a => by rw [hat] at a; exact absurd a.2 (by decide))
    | true =>
      have hcn := (of_decide_eq_true hat).2.1
      rw [if_neg (show ¬ b2 true = 0 by decide), ib_n (a := s) (by omega), decide_eq_true (show s < 40 by omega), grd_true, grd_true, ncl (a := s) (by omega), q2]
      have i5 : 18 * nI m + 18 + 2 * (nI p + nI (L.c s)) = nI (18 * m + 18 + 2 * (p + L.c s)) := by
        rw [show (18 : Int32) = nI 18 from rfl, show (2 : Int32) = nI 2 from rfl, nmul, nadd, nadd, nmul, nadd]
      rw [i5]
      have put : ok (f_X12_coverOn_146 N k38 (nI m) (nI s) (nI t) 0 (nI p) (nI (2 ^ (S - p))) (nI (18 * m + 18 + 2 * (p + L.c s))) (nI (gC L s)) τ) Q := by
        unfold f_X12_coverOn_146
        have hg2 : gC L s < 2 := by unfold gC; split <;> omega
        rw [nadd, ib_n (by omega), decide_eq_true (show 18 * m + 18 + 2 * (p + L.c s) + gC L s < 234 by omega), grd_true, grd_true, ncl (by omega), hc (p + L.c s) (by omega) (gC L s) hg2]
        have hx : nI (cel L T R S s p (p + L.c s) (gC L s)) ||| nI (2 ^ (S - p)) = nI (2 ^ (S + L.c s - (p + L.c s))) := by
          have : S - p = S + L.c s - (p + L.c s) := by omega
          rw [this]; exact cel_or
        rw [hx]
        have f2 : FrP (PC m) τ (si τ 37 (18 * m + 18 + 2 * (p + L.c s) + gC L s) (nI (2 ^ (S + L.c s - (p + L.c s))))) := (FrP.refl _ _).si _ _ _ ⟨rfl, by omega, by omega⟩
        refine echo _ f2 (fun p' hp' g' hg' => ?_)
        rw [si_rd, if_pos rfl]
        by_cases hidx : 18 * m + 18 + 2 * p' + g' = 18 * m + 18 + 2 * (p + L.c s) + gC L s
        · have ep : p' = p + L.c s := by omega
          have eg : g' = gC L s := by omega
          subst ep; subst eg
          rw [if_pos rfl, if_pos (Or.inr ⟨rfl, rfl, hb, hat⟩)]
        · rw [if_neg hidx, hc p' hp' g' hg']
          unfold cel
          congr 1
          by_cases hh : cstB L T R S s p p' g' = true
          · rw [if_pos hh, if_pos (Or.inl hh)]
          · rw [if_neg hh, if_neg]
            rintro (a | a)
            · exact hh a
            · exact hidx (by rw [a.1, a.2.1])
      by_cases hcs : 1 < L.c s
      · have hg : gC L s = 1 := by unfold gC; rw [if_pos hcs]
        rw [hg] at put
        rw [if_neg (show ¬ nI (L.c s) ≤ (1 : Int32) from nI_ge (a := 1) hcs (by omega))]
        exact put
      · have hg : gC L s = 0 := by unfold gC; rw [if_neg hcs]
        rw [hg] at put
        rw [if_pos (show nI (L.c s) ≤ (1 : Int32) from nI_le (b := 1) (by omega) (by omega))]
        exact put
  · rw [if_neg hb, if_pos (show nI 0 = (0 : Int32) from rfl)]
    exact plain (fun a => hb a.1)
