/-! spellings, the reference: how many are wanting; whether a row can end -/
def LeftM (L : Lv) (T : Tv) (τ : St) : Prop := ∀ p, p ≤ T.n → ∃ v, τ.1 38 p = nI v ∧ v ≤ 1000000000 ∧ ∀ l, til L T T.n l p → v ≤ l.length
theorem m_ml36 {N : Nat} (hN : 802 < N) {L : Lv} (hL : LOk L) {T : Tv} (hT : TvOk T) {t p : Nat} (hp : p < T.n) {k7 : Int32 → Int32 → St → Option St} {τ0 : St} : ∀ (k fuel s v : Nat) (τ : St), L.n - s = k → k < fuel → s ≤ L.n → MS τ L t T → (∀ q, p < q → q ≤ T.n → ∃ v, τ.1 38 q = nI v ∧ v ≤ 1000000000 ∧ ∀ l, til L T T.n l q → v ≤ l.length) → τ.1 38 p = nI v → v ≤ 1000000000 → (∀ l, PQ L T p s l → v ≤ l.length) → Fr [38] τ0 τ →
    ∃ τ', f_X12_makeLeft_36 N k7 fuel (nI t) (nI p) (nI s) τ = k7 (nI t) (nI p + -1) τ' ∧ MS τ' L t T ∧ (∀ q, p ≤ q → q ≤ T.n → ∃ v, τ'.1 38 q = nI v ∧ v ≤ 1000000000 ∧ ∀ l, til L T T.n l q → v ≤ l.length) ∧ Fr [38] τ0 τ' := by
  have h40 := hL.1
  have h8 := hT.2.1
  intro k
  induction k with
  | zero =>
    intro fuel s v τ hk hf hs ms en e0 hv hm f
    obtain ⟨fuel, rfl⟩ : ∃ f, fuel = f + 1 := ⟨fuel - 1, by omega⟩
    have e : s = L.n := by omega
    subst e
    refine ⟨τ, ?_, ms, fun q h1 h2 => ?_, f⟩
    · rw [f_X12_makeLeft_36, show ib 0 2 = true from rfl, grd_true, ms.2.2.1, if_pos (nI_le (by clear en hm; omega) (by clear en hm; omega))]
    · by_cases eq : q = p
      · rw [eq]; exact ⟨v, e0, hv, fun l h => hm l ((PQ_all hp l).mpr h)⟩
      · exact en q (by clear en hm; omega) h2
  | succ k ih =>
    intro fuel s v τ hk hf hs ms en e0 hv hm f
    obtain ⟨fuel, rfl⟩ : ∃ f, fuel = f + 1 := ⟨fuel - 1, by omega⟩
    have hs' : s < L.n := by clear en hm; omega
    have o1 : L.n - (s + 1) = k ∧ k < fuel ∧ s + 1 ≤ L.n := by clear en hm; omega
    have o2 : s < 2147483648 ∧ p < 2147483648 ∧ T.n < 2147483648 ∧ L.n < 2147483648 ∧ p < 9 ∧ s < 40 := by clear en hm; omega
    obtain ⟨nm, tm, lm⟩ := ms
    have t40 := tm.1
    have e35 : τ.1 35 s = nI (L.c s) := (nm.1 s hs').2.1
    have skip : (∀ l, PQ L T p (s + 1) l → v ≤ l.length) → _ := fun h => ih fuel (s + 1) v τ o1.1 o1.2.1 o1.2.2 ⟨nm, tm, lm⟩ en e0 hv h f
    rw [f_X12_makeLeft_36, show ib 0 2 = true from rfl, grd_true, lm.1, if_neg (nI_ge hs' o2.2.2.2.1), ib_n (a := t) (by clear en hm; omega), decide_eq_true t40, grd_true, ncl (a := t) (by clear en hm; omega), tm.2.2.2.1, if_neg (nI_ge hp o2.2.2.1), m_isAt hN nm tm hL hT hs' (by clear en hm; omega), bo_some, nI_1]
    cases hb : atB L T s p with
    | false =>
      rw [if_pos (show b2 false = 0 from rfl)]
      exact skip (fun l h => hm l (PQ_no (fun q => by rw [hb] at q; exact absurd q.1 (by decide)) l h))
    | true =>
      have hc := atB_c hL hs' hb
      obtain ⟨w, w1, w2, w3⟩ := en (p + L.c s) (by clear en hm; omega) (by clear en hm; omega)
      have o3 : p + L.c s < 9 ∧ p + L.c s < 2147483648 ∧ 1 + w < 2147483648 ∧ v < 2147483648 := by clear en hm w3; omega
      rw [if_neg (show ¬ b2 true = 0 by decide), ib_n (a := s) o2.1, decide_eq_true o2.2.2.2.2.2, ncl (a := s) o2.1, e35, nadd, ib_n (a := p + L.c s) o3.2.1, decide_eq_true o3.1, ncl (a := p + L.c s) o3.2.1, ib_n (a := p) o2.2.1, decide_eq_true o2.2.2.2.2.1, ncl (a := p) o2.2.1, e0, w1, show (1 : Int32) + nI w = nI (1 + w) by rw [show (1 : Int32) = nI 1 from rfl, nadd]]
      simp only [grd_true]
      by_cases c : v ≤ 1 + w
      · rw [if_pos (nI_le c o3.2.2.1)]
        refine skip (fun l ⟨x, l', h1, h2, h3, h4, h5⟩ => ?_)
        by_cases e : x = s
        · subst e
          have := w3 l' h5
          rw [h1, List.length_cons]; clear en hm w3; omega
        · exact hm l ⟨x, l', h1, by clear en hm w3; omega, h3, h4, h5⟩
      · rw [if_neg (nI_ge (by clear en hm w3; omega) o3.2.2.2)]
        have F1 : Fr [38] τ (si τ 38 p (nI (1 + w))) := (Fr.refl _ _).si _ _ _ rfl
        have r : ∀ j, (si τ 38 p (nI (1 + w))).1 38 j = if j = p then nI (1 + w) else τ.1 38 j := fun j => by rw [si_rd, if_pos rfl]
        refine ih fuel (s + 1) (1 + w) _ o1.1 o1.2.1 o1.2.2 (MS.fr ⟨nm, tm, lm⟩ F1 rfl) (fun q h1 h2 => ?_) (by rw [r, if_pos rfl]) (by clear en hm w3; omega) (fun l ⟨x, l', h1, h2, h3, h4, h5⟩ => ?_) (f.trans F1)
        · rw [r, if_neg (by clear en hm w3; omega)]; exact en q h1 h2
        · by_cases e : x = s
          · subst e
            have := w3 l' h5
            rw [h1, List.length_cons]; clear en hm w3; omega
          · have := hm l ⟨x, l', h1, by clear en hm w3; omega, h3, h4, h5⟩
            clear en hm w3; omega
theorem m_makeLeft {N : Nat} (hN : 802 < N) {L : Lv} (hL : LOk L) {T : Tv} (hT : TvOk T) {t : Nat} {τ0 : St} (ms0 : MS τ0 L t T) : ok (f_X12_makeLeft N (nI t) τ0) (fun τ' => LeftM L T τ' ∧ MS τ' L t T ∧ Fr [38] τ0 τ') := by
  have h40 := hL.1
  have h8 := hT.2.1
  have t40 := ms0.2.1.1
  have key : ∀ (m fuel : Nat) (τ : St), m ≤ T.n + 1 → m < fuel → MS τ L t T → (∀ q, m ≤ q → q ≤ T.n → ∃ v, τ.1 38 q = nI v ∧ v ≤ 1000000000 ∧ ∀ l, til L T T.n l q → v ≤ l.length) → Fr [38] τ0 τ → ok (f_X12_makeLeft_7 N fuel (nI t) (nI m + -1) τ) (fun τ' => LeftM L T τ' ∧ MS τ' L t T ∧ Fr [38] τ0 τ') := by
    intro m
    induction m with
    | zero =>
      intro fuel τ hm hf ms en f
      obtain ⟨fuel, rfl⟩ : ∃ f, fuel = f + 1 := ⟨fuel - 1, by omega⟩
      rw [f_X12_makeLeft_7, if_pos (show nI 0 + -1 < (0 : Int32) by decide), ok_some]
      exact ⟨fun p hp => en p (by omega) hp, ms, f⟩
    | succ m ih =>
      intro fuel τ hm hf ms en f
      obtain ⟨fuel, rfl⟩ : ∃ f, fuel = f + 1 := ⟨fuel - 1, by omega⟩
      have o1 : m ≤ T.n + 1 ∧ m < fuel ∧ m < 9 ∧ m < 2147483648 ∧ m ≤ T.n := by clear en; omega
      rw [nI_back, f_X12_makeLeft_7, if_neg (show ¬ nI m < (0 : Int32) from nI_nlt (b := 0) (by clear en; omega) (by clear en; omega)), ib_n (a := t) (by clear en; omega), decide_eq_true t40, grd_true, ncl (a := t) (by clear en; omega), ms.2.1.2.2.2.1]
      unfold f_X12_makeLeft_33
      rw [ib_n (a := m) o1.2.2.2.1, decide_eq_true o1.2.2.1, ncl (a := m) o1.2.2.2.1]
      simp only [grd_true]
      by_cases e : m = T.n
      · rw [if_pos (by rw [e])]
        have F1 : Fr [38] τ (si τ 38 m 0) := (Fr.refl _ _).si _ _ _ rfl
        have ms1 := ms.fr F1 rfl
        have k36 : ∀ (k fuel' s : Nat), L.n - s = k → k < fuel' → s ≤ L.n → f_X12_makeLeft_36 N (f_X12_makeLeft_7 N fuel) fuel' (nI t) (nI m) (nI s) (si τ 38 m 0) = f_X12_makeLeft_7 N fuel (nI t) (nI m + -1) (si τ 38 m 0) := by
          intro k
          induction k with
          | zero =>
            intro fuel' s hk hf' hs
            obtain ⟨fuel', rfl⟩ : ∃ f, fuel' = f + 1 := ⟨fuel' - 1, by clear en; omega⟩
            rw [f_X12_makeLeft_36, show ib 0 2 = true from rfl, grd_true, ms1.2.2.1, if_pos (nI_le (by clear en; omega) (by clear en; omega))]
          | succ k ih2 =>
            intro fuel' s hk hf' hs
            obtain ⟨fuel', rfl⟩ : ∃ f, fuel' = f + 1 := ⟨fuel' - 1, by clear en; omega⟩
            rw [f_X12_makeLeft_36, show ib 0 2 = true from rfl, grd_true, ms1.2.2.1, if_neg (nI_ge (by clear en; omega) (by clear en; omega)), ib_n (a := t) (by clear en; omega), decide_eq_true t40, grd_true, ncl (a := t) (by clear en; omega), ms1.2.1.2.2.2.1, if_pos (show nI T.n ≤ nI m from nI_le (by clear en; omega) o1.2.2.2.1), nI_1]
            exact ih2 fuel' (s + 1) (by clear en; omega) (by clear en; omega) (by clear en; omega)
        have k0 : f_X12_makeLeft_36 N (f_X12_makeLeft_7 N fuel) N (nI t) (nI m) 0 (si τ 38 m 0) = f_X12_makeLeft_7 N fuel (nI t) (nI m + -1) (si τ 38 m 0) := k36 L.n N 0 (by clear en; omega) (by clear en; omega) (by clear en; omega)
        rw [k0]
        refine ih fuel _ o1.1 o1.2.1 ms1 (fun q h1 h2 => ?_) (f.trans F1)
        have eq : q = m := by clear en; omega
        subst eq
        exact ⟨0, by rw [si_rd, if_pos rfl, if_pos rfl]; rfl, by omega, fun l _ => Nat.zero_le _⟩
      · rw [if_neg (fun q => e ((neq o1.2.2.2.1 (by clear en; omega)).mp q))]
        have F1 : Fr [38] τ (si τ 38 m 1000000000) := (Fr.refl _ _).si _ _ _ rfl
        have r : ∀ j, (si τ 38 m 1000000000).1 38 j = if j = m then 1000000000 else τ.1 38 j := fun j => by rw [si_rd, if_pos rfl]
        obtain ⟨τ2, e2, ms2, en2, f2⟩ := m_ml36 (N := N) (k7 := f_X12_makeLeft_7 N fuel) hN hL hT (show m < T.n by clear en; omega) L.n N 0 1000000000 (si τ 38 m 1000000000) (by clear en; omega) (by clear en; omega) (by clear en; omega) (ms.fr F1 rfl) (fun q h1 h2 => by rw [r, if_neg (by clear en; omega)]; exact en q (by clear en; omega) h2) (by rw [r, if_pos rfl]; rfl) (Nat.le_refl _) (fun l ⟨x, l', _, h, _⟩ => absurd h (by clear en; omega)) (Fr.refl _ _)
        have e2' : f_X12_makeLeft_36 N (f_X12_makeLeft_7 N fuel) N (nI t) (nI m) 0 (si τ 38 m 1000000000) = f_X12_makeLeft_7 N fuel (nI t) (nI m + -1) τ2 := e2
        rw [e2']
        exact ih fuel τ2 o1.1 o1.2.1 ms2 en2 ((f.trans F1).trans f2)
  unfold f_X12_makeLeft
  rw [ib_n (a := t) (by omega), decide_eq_true t40, grd_true, ncl (a := t) (by omega), ms0.2.1.2.2.2.1]
  have := key (T.n + 1) N τ0 (Nat.le_refl _) (by omega) ms0 (fun q h1 h2 => absurd h1 (by omega)) (Fr.refl _ _)
  rw [nI_back] at this
  exact this
theorem cvm_or {R S p : Nat} : (cvm R S p 0 ||| cvm R S p 1 = 0) ↔ ¬ (p ≤ S ∧ S - p < 4 ∧ R.testBit (S - p) = true) := by
  rw [Nat.or_eq_zero_iff]
  unfold cvm
  constructor
  · rintro ⟨a, b⟩ ⟨c1, c2, c3⟩
    have hp : 2 ^ (S - p) ≠ 0 := Nat.ne_of_gt (Nat.pow_pos (by omega))
    by_cases h16 : 16 ≤ R
    · rw [if_pos ⟨⟨c1, by omega, c3⟩, by rw [if_pos h16]⟩] at b; exact hp b
    · rw [if_pos ⟨⟨c1, by omega, c3⟩, by rw [if_neg h16]⟩] at a; exact hp a
  · intro h
    exact ⟨if_neg (fun q => h q.1), if_neg (fun q => h q.1)⟩
theorem m_canEnd {N : Nat} (hN : 802 < N) {L : Lv} (hL : LOk L) {T : Tv} (hT : TvOk T) {t m most R S : Nat} (hm : m ≤ 12) (hmost : most ≤ 12) {τ : St} (ms : MS τ L t T) (lf : LeftM L T τ) (hv : CvR τ m R S) : ∃ b, f_X12_canEnd N (nI m) (nI most) (nI t) τ = some (b2 b) ∧ (b = false → ∀ p, p ≤ T.n → (p ≤ S ∧ S - p < 4 ∧ R.testBit (S - p) = true) → ∀ l, til L T T.n l p → most < m + l.length) := by
  have h8 := hT.2.1
  have t40 := ms.2.1.1
  unfold f_X12_canEnd
  have key : ∀ (k fuel p : Nat), T.n + 1 - p = k → k < fuel → p ≤ T.n + 1 → (∀ q, q < p → (q ≤ S ∧ S - q < 4 ∧ R.testBit (S - q) = true) → ∀ l, til L T T.n l q → most < m + l.length) → ∃ b, f_X12_canEnd_3 N fuel (nI m) (nI most) (nI t) (nI p) τ = some (b2 b) ∧ (b = false → ∀ p, p ≤ T.n → (p ≤ S ∧ S - p < 4 ∧ R.testBit (S - p) = true) → ∀ l, til L T T.n l p → most < m + l.length) := by
    intro k
    induction k with
    | zero =>
      intro fuel p hk hf hp h
      obtain ⟨fuel, rfl⟩ : ∃ f, fuel = f + 1 := ⟨fuel - 1, by omega⟩
      refine ⟨false, ?_, fun _ q hq => h q (by omega)⟩
      rw [f_X12_canEnd_3, ib_n (a := t) (by omega), decide_eq_true t40, grd_true, ncl (a := t) (by omega), ms.2.1.2.2.2.1, if_pos (nI_lt (by omega) (by omega))]
      rfl
    | succ k ih =>
      intro fuel p hk hf hp h
      obtain ⟨fuel, rfl⟩ : ∃ f, fuel = f + 1 := ⟨fuel - 1, by omega⟩
      obtain ⟨v, v1, v2, v3⟩ := lf p (by omega)
      have i1 : 18 * nI m + 2 * nI p = nI (18 * m + 2 * p) := by rw [show (18 : Int32) = nI 18 from rfl, show (2 : Int32) = nI 2 from rfl, nmul, nmul, nadd]
      have w0 : τ.1 37 (18 * m + 2 * p) = nI (cvm R S p 0) := hv p (by omega) 0 (by omega)
      have w1 : τ.1 37 (18 * m + 2 * p + 1) = nI (cvm R S p 1) := hv p (by omega) 1 (by omega)
      have l2 : cvm R S p 0 ||| cvm R S p 1 < 16 := Nat.or_lt_two_pow (n := 4) (cvm_lt R S p 0) (cvm_lt R S p 1)
      rw [f_X12_canEnd_3, ib_n (a := t) (by omega), decide_eq_true t40, grd_true, ncl (a := t) (by omega), ms.2.1.2.2.2.1, if_neg (nI_nlt (by omega) (by omega)), i1, nI_1, nI_1, ib_n (a := 18 * m + 2 * p) (by omega), decide_eq_true (show 18 * m + 2 * p < 234 by omega), ib_n (a := 18 * m + 2 * p + 1) (by omega), decide_eq_true (show 18 * m + 2 * p + 1 < 234 by omega), ncl (by omega), ncl (by omega), w0, w1, nor, ib_n (a := p) (by omega), decide_eq_true (show p < 9 by omega), ncl (a := p) (by omega), v1, nadd]
      simp only [grd_true]
      by_cases c : cvm R S p 0 ||| cvm R S p 1 = 0
      · rw [c, if_pos (show nI 0 = (0 : Int32) from rfl)]
        refine ih fuel (p + 1) (by omega) (by omega) (by omega) (fun q hq b l hl => ?_)
        by_cases e : q = p
        · subst e; exact absurd b (cvm_or.mp c)
        · exact h q (by omega) b l hl
      · rw [if_neg (nI_ne0 (by omega) (by omega))]
        by_cases c2 : most < m + v
        · rw [if_pos (nI_lt c2 (by omega))]
          refine ih fuel (p + 1) (by omega) (by omega) (by omega) (fun q hq b l hl => ?_)
          by_cases e : q = p
          · subst e
            have := v3 l hl
            omega
          · exact h q (by omega) b l hl
        · rw [if_neg (nI_nlt (by omega) (by omega))]
          exact ⟨true, rfl, fun q => (nomatch q)⟩
  exact key (T.n + 1) N 0 (by omega) (by omega) (by omega) (fun q hq => absurd hq (by omega))
