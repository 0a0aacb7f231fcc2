abbrev VM : List Nat := [1003, 1004, 1005, 1006, 1007, 1010]
def srt (k c : Nat) : Nat := if k = 0 then 10 else if k = 3 then (if c = 59 then 3 else if c = 58 then 4 else if c = 42 then 5 else if c = 38 then 6 else if c = 45 then 7 else if c = 40 then 8 else 9) else if k = 4 then 0 else k
def TokM (τ : St) (n : Nat) (B : Nat → Nat) (p : Nat) : Prop :=
  τ.1 1005 0 = nI (tq B n p) ∧ τ.1 1006 0 = nI (te B n p) ∧ τ.1 1003 0 = nI (srt (tk B n p) (B (tq B n p))) ∧
  (tk B n p = 1 → τ.2 1010 0 = nmf B (tq B n p) (te B n p - tq B n p)) ∧
  τ.1 1004 0 = (if tk B n p = 1 then kyv B (tq B n p) (te B n p - tq B n p) else -1) ∧
  (tk B n p = 2 → τ.1 1007 0 = nI (numf B (tq B n p) (te B n p - tq B n p)))
theorem nc_L : ∀ c, c < 256 → ((if nI c < 97 then (0 : Int32) else (if 122 < nI c then 0 else 1)) = if isL c = true then 1 else 0) := by decide +kernel
theorem nc_D : ∀ c, c < 256 → ((if nI c < 48 then (0 : Int32) else (if 57 < nI c then 0 else 1)) = if isD c = true then 1 else 0) := by decide +kernel
theorem nc_W : ∀ c, c < 256 → isL c = true → (nI c).toInt64 - 97 + 1 = lN (c - 96) := by decide +kernel
theorem see_B {B : Nat → Nat} {n i : Nat} (hb : i < n → B i < 256) : (seeN B n i = 32 ∨ seeN B n i = 10) ↔ (i < n ∧ isB (B i) = true) := by
  unfold seeN
  by_cases h : i < n
  · have hc := hb h
    rw [if_pos h, show (32 : Int32) = nI 32 from rfl, show (10 : Int32) = nI 10 from rfl, neq (by omega) (by omega), neq (by omega) (by omega)]
    unfold isB
    rw [decide_eq_true_iff]
    exact ⟨fun k => ⟨h, k⟩, fun k => k.2⟩
  · rw [if_neg h]
    constructor
    · rintro (k | k) <;> exact absurd k (by decide)
    · intro k; exact absurd k.1 h
theorem see_in {B : Nat → Nat} {n i : Nat} (h : i < n) : seeN B n i = nI (B i) := if_pos h
theorem see_out {B : Nat → Nat} {n i : Nat} (h : ¬ i < n) : seeN B n i = -1 := if_neg h
theorem m_isSmall {B : Nat → Nat} {n i : Nat} (hb : i < n → B i < 256) (σ : St) : f_X12_isSmall (seeN B n i) σ = if i < n ∧ isL (B i) = true then 1 else 0 := by
  unfold f_X12_isSmall
  by_cases h : i < n
  · rw [see_in h, nc_L _ (hb h)]
    congr 1
    exact propext ⟨fun k => ⟨h, k⟩, fun k => k.2⟩
  · rw [see_out h, if_neg (show ¬ (i < n ∧ isL (B i) = true) from fun k => h k.1)]; rfl
theorem m_isDigit {B : Nat → Nat} {n i : Nat} (hb : i < n → B i < 256) (σ : St) : f_X12_isDigit (seeN B n i) σ = if i < n ∧ isD (B i) = true then 1 else 0 := by
  unfold f_X12_isDigit
  by_cases h : i < n
  · rw [see_in h, nc_D _ (hb h)]
    congr 1
    exact propext ⟨fun k => ⟨h, k⟩, fun k => k.2⟩
  · rw [see_out h, if_neg (show ¬ (i < n ∧ isD (B i) = true) from fun k => h k.1)]; rfl
theorem m_word {N n : Nat} {B : Nat → Nat} {q : Nat} {Q : St → Prop} : ∀ (k fuel i : Nat) (τ : St), n - i = k → k < fuel → q ≤ i → i ≤ n → (i - q ≤ 12 → τ.2 1010 0 = nmf B q (i - q)) → TapeM τ n B →
    (∀ τ', (rn isL B n i - q ≤ 12 → τ'.2 1010 0 = nmf B q (rn isL B n i - q)) → TapeM τ' n B → Fr [1010] τ τ' → ok (f_X12_scan_145 N (nI q) (nI (rn isL B n i)) (if rn isL B n i - q ≤ 12 then 1 else 0) τ') Q) → ok (f_X12_scan_81 N fuel (nI q) (nI i) τ) Q := by
  intro k
  induction k with
  | zero =>
    intro fuel i τ hk hf hq hp hm hT kk
    obtain ⟨fuel, rfl⟩ : ∃ f, fuel = f + 1 := ⟨fuel - 1, by omega⟩
    have hn := hT.1
    rw [f_X12_scan_81, m_see hT (by omega), bo_some, m_isSmall (fun h => (hT.2.2 i h).1), if_neg (fun h : i < n ∧ _ => by omega), if_pos rfl, nsub hq]
    have hr : rn isL B n i = i := rn_end (Or.inl (by omega))
    have := kk τ (by rw [hr]; exact hm) hT (Fr.refl _ _)
    rw [hr] at this
    by_cases h12 : i - q ≤ 12
    · rw [if_pos h12] at this
      rw [if_pos (show nI (i - q) ≤ (12 : Int32) from (nle (b := 12) (by omega) (by omega)).mpr h12)]; exact this
    · rw [if_neg h12] at this
      rw [if_neg (show ¬ nI (i - q) ≤ (12 : Int32) from nI_ge (a := 12) (by omega) (by omega))]; exact this
  | succ k ih =>
    intro fuel i τ hk hf hq hp hm hT kk
    obtain ⟨fuel, rfl⟩ : ∃ f, fuel = f + 1 := ⟨fuel - 1, by omega⟩
    have hn := hT.1
    have hpn : i < n := by omega
    have hb := (hT.2.2 i hpn).1
    rw [f_X12_scan_81, m_see hT (by omega), bo_some, m_isSmall (fun h => (hT.2.2 i h).1), nsub hq]
    cases hL : isL (B i) with
    | false =>
      rw [if_neg (show ¬ (i < n ∧ false = true) from fun h => by cases h.2), if_pos rfl]
      have hr : rn isL B n i = i := rn_end (Or.inr hL)
      have := kk τ (by rw [hr]; exact hm) hT (Fr.refl _ _)
      rw [hr] at this
      by_cases h12 : i - q ≤ 12
      · rw [if_pos h12] at this
        rw [if_pos (show nI (i - q) ≤ (12 : Int32) from (nle (b := 12) (by omega) (by omega)).mpr h12)]; exact this
      · rw [if_neg h12] at this
        rw [if_neg (show ¬ nI (i - q) ≤ (12 : Int32) from nI_ge (a := 12) (by omega) (by omega))]; exact this
    | true =>
      rw [if_pos (show i < n ∧ true = true from ⟨hpn, rfl⟩), if_neg (show ¬ (1 : Int32) = 0 by decide)]
      have hqi : q + (i - q) = i := by omega
      have e1 : i + 1 - q = i - q + 1 := by omega
      rw [rn_go hpn hL] at kk
      by_cases h12 : 12 ≤ i - q
      · rw [if_pos (show (12 : Int32) ≤ nI (i - q) from (nle (a := 12) (by omega) (by omega)).mpr h12), nI_1]
        exact ih fuel (i + 1) τ (by omega) (by omega) (by omega) (by omega) (fun h => by omega) hT kk
      · rw [if_neg (show ¬ (12 : Int32) ≤ nI (i - q) from nI_ge (b := 12) (by omega) (by omega)), bo_some, nI_1]
        have f1 : ∀ x, Fr [1010] τ (sl τ 1010 0 x) := fun x => (Fr.refl _ _).sl _ _ _ rfl
        refine ih fuel (i + 1) _ (by omega) (by omega) (by omega) (by omega) (fun _ => ?_) (hT.fr (f1 _) rfl) (fun τ' h1 h2 h3 => kk τ' h1 h2 ((f1 _).trans h3))
        rw [sl_rd, if_pos rfl, if_pos rfl, hm (by omega), see_in hpn, e1]
        show _ = nmf B q (i - q) * 32 + lN (B (q + (i - q)) - 96)
        rw [hqi, ← nc_W _ hb hL, Int64.mul_comm, Int64.sub_eq_add_neg, Int64.sub_eq_add_neg, Int64.add_assoc, Int64.add_assoc, Int64.add_assoc]
theorem m_num {N n : Nat} {B : Nat → Nat} {q : Nat} {Q : St → Prop} : ∀ (k fuel i : Nat) (τ : St), n - i = k → k < fuel → q ≤ i → i ≤ n → (i - q ≤ 4 → τ.1 1007 0 = nI (numf B q (i - q))) → TapeM τ n B →
    (∀ τ', (rn isD B n i - q ≤ 4 → τ'.1 1007 0 = nI (numf B q (rn isD B n i - q))) → TapeM τ' n B → Fr [1007] τ τ' → ok (f_X12_scan_250 N (nI (rn isD B n i)) (if rn isD B n i - q ≤ 4 then 2 else 0) τ') Q) → ok (f_X12_scan_186 N fuel (nI q) (nI i) τ) Q := by
  intro k
  induction k with
  | zero =>
    intro fuel i τ hk hf hq hp hm hT kk
    obtain ⟨fuel, rfl⟩ : ∃ f, fuel = f + 1 := ⟨fuel - 1, by omega⟩
    have hn := hT.1
    rw [f_X12_scan_186, m_see hT (by omega), bo_some, m_isDigit (fun h => (hT.2.2 i h).1), if_neg (fun h : i < n ∧ _ => by omega), if_pos rfl, nsub hq]
    have hr : rn isD B n i = i := rn_end (Or.inl (by omega))
    have := kk τ (by rw [hr]; exact hm) hT (Fr.refl _ _)
    rw [hr] at this
    by_cases h12 : i - q ≤ 4
    · rw [if_pos h12] at this
      rw [if_pos (show nI (i - q) ≤ (4 : Int32) from (nle (b := 4) (by omega) (by omega)).mpr h12)]; exact this
    · rw [if_neg h12] at this
      rw [if_neg (show ¬ nI (i - q) ≤ (4 : Int32) from nI_ge (a := 4) (by omega) (by omega))]; exact this
  | succ k ih =>
    intro fuel i τ hk hf hq hp hm hT kk
    obtain ⟨fuel, rfl⟩ : ∃ f, fuel = f + 1 := ⟨fuel - 1, by omega⟩
    have hn := hT.1
    have hpn : i < n := by omega
    have hb := (hT.2.2 i hpn).1
    rw [f_X12_scan_186, m_see hT (by omega), bo_some, m_isDigit (fun h => (hT.2.2 i h).1), nsub hq]
    cases hL : isD (B i) with
    | false =>
      rw [if_neg (show ¬ (i < n ∧ false = true) from fun h => by cases h.2), if_pos rfl]
      have hr : rn isD B n i = i := rn_end (Or.inr hL)
      have := kk τ (by rw [hr]; exact hm) hT (Fr.refl _ _)
      rw [hr] at this
      by_cases h12 : i - q ≤ 4
      · rw [if_pos h12] at this
        rw [if_pos (show nI (i - q) ≤ (4 : Int32) from (nle (b := 4) (by omega) (by omega)).mpr h12)]; exact this
      · rw [if_neg h12] at this
        rw [if_neg (show ¬ nI (i - q) ≤ (4 : Int32) from nI_ge (a := 4) (by omega) (by omega))]; exact this
    | true =>
      rw [if_pos (show i < n ∧ true = true from ⟨hpn, rfl⟩), if_neg (show ¬ (1 : Int32) = 0 by decide)]
      have hci : 48 ≤ B i ∧ B i ≤ 57 := of_decide_eq_true hL
      have hqi : q + (i - q) = i := by omega
      have e1 : i + 1 - q = i - q + 1 := by omega
      rw [rn_go hpn hL] at kk
      have f1 : ∀ x, Fr [1007] τ (si τ 1007 0 x) := fun x => (Fr.refl _ _).si _ _ _ rfl
      unfold f_X12_scan_228
      by_cases h12 : 4 ≤ i - q
      · rw [if_pos (show (4 : Int32) ≤ nI (i - q) from (nle (a := 4) (by omega) (by omega)).mpr h12), nI_1]
        exact ih fuel (i + 1) _ (by omega) (by omega) (by omega) (by omega) (fun h => by omega) (hT.fr (f1 _) rfl) (fun τ' h1 h2 h3 => kk τ' h1 h2 ((f1 _).trans h3))
      · rw [if_neg (show ¬ (4 : Int32) ≤ nI (i - q) from nI_ge (b := 4) (by omega) (by omega)), bo_some, nI_1]
        refine ih fuel (i + 1) _ (by omega) (by omega) (by omega) (by omega) (fun _ => ?_) (hT.fr (f1 _) rfl) (fun τ' h1 h2 h3 => kk τ' h1 h2 ((f1 _).trans h3))
        have e10 : 10 * nI (numf B q (i - q)) = nI (10 * numf B q (i - q)) := nmul 10 _
        have e48 : nI (10 * numf B q (i - q) + B i) - 48 = nI (10 * numf B q (i - q) + B i - 48) := nsub (b := 48) (by omega)
        rw [si_rd, if_pos rfl, if_pos rfl, hm (by omega), see_in hpn, e1, e10, nadd, e48]
        show _ = nI (numf B q (i - q) * 10 + (B (q + (i - q)) - 48))
        rw [hqi]
        congr 1
        omega
theorem nc_M : ∀ c, c < 256 → ((if nI c = 59 then 3 else (if nI c = 58 then 4 else (if nI c = 42 then 5 else (if nI c = 38 then 6 else (if nI c = 45 then 7 else (if nI c = 40 then 8 else (if nI c = 41 then (9 : Int32) else 0))))))) = nI (srt (if isM c = true then 3 else 4) c)) ∧ nI c ≠ -1 := by decide +kernel
theorem m_end {N n : Nat} {B : Nat → Nat} {p : Nat} {τ0 τ : St} {x : Int32} (hn : n ≤ 800) (hp : p ≤ n) (f : Fr VM τ0 τ) (a5 : τ.1 1005 0 = nI (tq B n p)) (a4 : τ.1 1004 0 = -1) (hx : x = nI (srt (tk B n p) (B (tq B n p)))) (h1 : tk B n p ≠ 1) (h2 : tk B n p = 2 → τ.1 1007 0 = nI (numf B (tq B n p) (te B n p - tq B n p))) : ok (f_X12_scan_335 N (nI (te B n p)) (si τ 1003 0 x)) (fun τ' => TokM τ' n B p ∧ Fr VM τ0 τ') := by
  unfold f_X12_scan_335
  rw [ok_some]
  have g : Fr [1003, 1006] τ (si (si τ 1003 0 x) 1006 0 (nI (te B n p))) := ((Fr.refl _ _).si _ _ _ rfl).si _ _ _ rfl
  refine ⟨?_, f.trans (g.wide rfl)⟩
  unfold TokM
  rw [if_neg h1]
  refine ⟨by rw [g.i 1005 rfl]; exact a5, by rw [si_rd]; rfl, by rw [si_rd, if_neg (by decide), si_rd, if_pos rfl, if_pos rfl]; exact hx, fun h => absurd h h1, by rw [g.i 1004 rfl]; exact a4, fun h => by rw [g.i 1007 rfl]; exact h2 h⟩
theorem m_scan_5 {N n : Nat} {B : Nat → Nat} {τ : St} (hN : 802 < N) (hT : TapeM τ n B) : ∀ (k fuel p : Nat), n - p = k → k < fuel → p ≤ n → ok (f_X12_scan_5 N fuel (nI p) τ) (fun τ' => TokM τ' n B p ∧ Fr VM τ τ') := by
  have hn := hT.1
  have stop : ∀ (fuel p : Nat), 0 < fuel → p ≤ n → ¬ (p < n ∧ isB (B p) = true) → ok (f_X12_scan_5 N fuel (nI p) τ) (fun τ' => TokM τ' n B p ∧ Fr VM τ τ') := by
    intro fuel p hf hp hB
    obtain ⟨fuel, rfl⟩ : ∃ f, fuel = f + 1 := ⟨fuel - 1, by omega⟩
    have hq : tq B n p = p := by
      unfold tq
      refine rn_end ?_
      by_cases h : p < n
      · right
        cases e : isB (B p) with
        | false => rfl
        | true => exact absurd ⟨h, e⟩ hB
      · left; omega
    have hb : p < n → B p < 256 := fun h => (hT.2.2 p h).1
    have hs := (not_congr (see_B hb)).mpr hB
    have f0 : Fr [1005] τ (si τ 1005 0 (nI p)) := (Fr.refl _ _).si _ _ _ rfl
    rw [f_X12_scan_5, m_see hT (by omega), bo_some, if_neg (fun h => hs (Or.inl h)), bo_some, if_neg (fun h => hs (Or.inr h)), m_see (hT.fr f0 rfl) (by omega), bo_some, m_isSmall hb, m_isDigit hb]
    have f1 : Fr [1004, 1005] τ (si (si τ 1005 0 (nI p)) 1004 0 (-1)) := ((Fr.refl _ _).si _ _ _ rfl).si _ _ _ rfl
    have a5 : (si (si τ 1005 0 (nI p)) 1004 0 (-1)).1 1005 0 = nI p := by rw [si_rd, if_neg (by decide), si_rd]; rfl
    have a4 : (si (si τ 1005 0 (nI p)) 1004 0 (-1)).1 1004 0 = -1 := by rw [si_rd]; rfl
    have hT1 := hT.fr f1 rfl
    generalize si (si τ 1005 0 (nI p)) 1004 0 (-1) = τ1 at *
    have fV : Fr VM τ τ1 := f1.wide rfl
    by_cases hpn : p < n
    · rw [see_in hpn, if_neg (nc_M _ (hb hpn)).2]
      have hnq : ¬ n ≤ p := by omega
      cases hL : isL (B p) with
      | true =>
        rw [if_pos (show p < n ∧ true = true from ⟨hpn, rfl⟩), if_neg (show ¬ (1 : Int32) = 0 by decide)]
        have ee : te B n p = rn isL B n p := by unfold te; rw [hq, if_neg hnq, if_pos hL]
        have ek : tk B n p = if te B n p - p ≤ 12 then 1 else 4 := by unfold tk; rw [hq, if_neg hnq, if_pos hL]
        have f2 : Fr [1010] τ1 (sl τ1 1010 0 0) := (Fr.refl _ _).sl _ _ _ rfl
        refine m_word (q := p) (n - p) N p _ rfl (by omega) (Nat.le_refl _) (by omega) (fun _ => by rw [Nat.sub_self]; rfl) (hT1.fr f2 rfl) ?_
        intro τ2 w1 hT2 f3
        rw [← ee] at w1 ⊢
        have hgt : p < te B n p := by rw [ee, rn_go hpn hL]; exact rn_ge _ _ _ _
        have hle := te_le (B := B) hp
        have fV2 : Fr VM τ τ2 := (fV.trans (f2.wide rfl)).trans (f3.wide rfl)
        have b5 : τ2.1 1005 0 = nI p := by rw [f3.i 1005 rfl, f2.i 1005 rfl]; exact a5
        have b4 : τ2.1 1004 0 = -1 := by rw [f3.i 1004 rfl, f2.i 1004 rfl]; exact a4
        unfold f_X12_scan_145
        by_cases h12 : te B n p - p ≤ 12
        · rw [if_pos h12] at ek ⊢
          have f4 : Fr [1003] τ2 (si τ2 1003 0 1) := (Fr.refl _ _).si _ _ _ rfl
          rw [if_pos rfl, nsub (by omega), m_keyAt (hT2.fr f4 rfl) (by omega) (by omega) (by omega), bo_some]
          unfold f_X12_scan_335
          rw [ok_some]
          refine ⟨?_, ((fV2.si _ _ _ rfl).si _ _ _ rfl).si _ _ _ rfl⟩
          have f5 : Fr [1003, 1004, 1006] τ2 (si (si (si τ2 1003 0 1) 1004 0 (kyv B p (te B n p - p))) 1006 0 (nI (te B n p))) := (((Fr.refl _ _).si _ _ _ rfl).si _ _ _ rfl).si _ _ _ rfl
          unfold TokM
          rw [ek, hq, if_pos rfl]
          refine ⟨by rw [f5.i 1005 rfl]; exact b5, by rw [si_rd]; rfl, by rw [si_rd, if_neg (by decide), si_rd, if_neg (by decide), si_rd]; rfl, fun _ => by rw [f5.l 1010 rfl]; exact w1 h12, by rw [si_rd, if_neg (by decide), si_rd]; rfl, fun h => absurd h (by decide)⟩
        · rw [if_neg h12] at ek ⊢
          rw [if_neg (by decide)]
          exact m_end hn hp fV2 (by rw [hq]; exact b5) b4 (by rw [ek]; rfl) (by rw [ek]; decide) (by rw [ek]; intro h; exact absurd h (by decide))
      | false =>
        rw [if_neg (show ¬ (p < n ∧ false = true) from fun h => by cases h.2), if_pos rfl]
        cases hD : isD (B p) with
        | true =>
          rw [if_pos (show p < n ∧ true = true from ⟨hpn, rfl⟩), if_neg (show ¬ (1 : Int32) = 0 by decide), nI_1]
          have ee : te B n p = rn isD B n (p + 1) := by unfold te; rw [hq, if_neg hnq, hL, if_neg (by decide), if_pos hD, rn_go hpn hD]
          have ek : tk B n p = if te B n p - p ≤ 4 then 2 else 4 := by unfold tk; rw [hq, if_neg hnq, hL, if_neg (by decide), if_pos hD]
          have hci : 48 ≤ B p ∧ B p ≤ 57 := of_decide_eq_true hD
          have e48 : nI (B p) - 48 = nI (B p - 48) := nsub (b := 48) (by omega)
          rw [e48]
          have f2 : Fr [1007] τ1 (si τ1 1007 0 (nI (B p - 48))) := (Fr.refl _ _).si _ _ _ rfl
          refine m_num (q := p) (n - (p + 1)) N (p + 1) _ rfl (by omega) (by omega) (by omega) (fun _ => ?_) (hT1.fr f2 rfl) ?_
          · rw [si_rd, if_pos rfl, if_pos rfl, show p + 1 - p = 1 by omega]
            show _ = nI (0 * 10 + (B (p + 0) - 48))
            rw [Nat.zero_mul, Nat.zero_add, Nat.add_zero]
          · intro τ2 w1 hT2 f3
            rw [← ee] at w1 ⊢
            have fV2 : Fr VM τ τ2 := (fV.trans (f2.wide rfl)).trans (f3.wide rfl)
            have b5 : τ2.1 1005 0 = nI p := by rw [f3.i 1005 rfl, f2.i 1005 rfl]; exact a5
            have b4 : τ2.1 1004 0 = -1 := by rw [f3.i 1004 rfl, f2.i 1004 rfl]; exact a4
            unfold f_X12_scan_250
            by_cases h12 : te B n p - p ≤ 4
            · rw [if_pos h12] at ek ⊢
              exact m_end hn hp fV2 (by rw [hq]; exact b5) b4 (by rw [ek]; rfl) (by rw [ek]; decide) (by rw [hq]; intro _; exact w1 h12)
            · rw [if_neg h12] at ek ⊢
              exact m_end hn hp fV2 (by rw [hq]; exact b5) b4 (by rw [ek]; rfl) (by rw [ek]; decide) (by rw [ek]; intro h; exact absurd h (by decide))
        | false =>
          rw [if_neg (show ¬ (p < n ∧ false = true) from fun h => by cases h.2), if_pos rfl, nI_1]
          have ee : te B n p = p + 1 := by unfold te; rw [hq, if_neg hnq, hL, if_neg (by decide), hD, if_neg (by decide)]
          have ek : tk B n p = if isM (B p) = true then 3 else 4 := by unfold tk; rw [hq, if_neg hnq, hL, if_neg (by decide), hD, if_neg (by decide)]
          unfold f_X12_scan_332
          have hk := (nc_M _ (hb hpn)).1
          rw [← ek] at hk
          have fin : ∀ x, x = nI (srt (tk B n p) (B p)) → ok (f_X12_scan_335 N (nI (p + 1)) (si τ1 1003 0 x)) (fun τ' => TokM τ' n B p ∧ Fr VM τ τ') := by
            intro x hx
            rw [← ee]
            have k12 : tk B n p ≠ 1 ∧ tk B n p ≠ 2 := by rw [ek]; split <;> decide
            exact m_end hn hp fV (by rw [hq]; exact a5) a4 (by rw [hq]; exact hx) k12.1 (fun h => absurd h k12.2)
          by_cases c59 : nI (B p) = 59
          · rw [if_pos c59] at hk ⊢; exact fin _ hk
          rw [if_neg c59] at hk ⊢
          by_cases c58 : nI (B p) = 58
          · rw [if_pos c58] at hk ⊢; exact fin _ hk
          rw [if_neg c58] at hk ⊢
          by_cases c42 : nI (B p) = 42
          · rw [if_pos c42] at hk ⊢; exact fin _ hk
          rw [if_neg c42] at hk ⊢
          by_cases c38 : nI (B p) = 38
          · rw [if_pos c38] at hk ⊢; exact fin _ hk
          rw [if_neg c38] at hk ⊢
          by_cases c45 : nI (B p) = 45
          · rw [if_pos c45] at hk ⊢; exact fin _ hk
          rw [if_neg c45] at hk ⊢
          by_cases c40 : nI (B p) = 40
          · rw [if_pos c40] at hk ⊢; exact fin _ hk
          rw [if_neg c40] at hk ⊢
          by_cases c41 : nI (B p) = 41
          · rw [if_pos c41] at hk ⊢; exact fin _ hk
          rw [if_neg c41] at hk ⊢
          exact fin _ hk
    · rw [see_out hpn, if_pos rfl]
      have ee : te B n p = p := by unfold te; rw [hq, if_pos (by omega)]
      have ek : tk B n p = 0 := by unfold tk; rw [hq, if_pos (by omega)]
      have := m_end (N := N) (x := 10) hn hp fV (by rw [hq]; exact a5) a4 (by rw [ek]; rfl) (by rw [ek]; decide) (by rw [ek]; intro h; exact absurd h (by decide))
      rw [ee] at this
      exact this
  intro k
  induction k with
  | zero =>
    intro fuel p hk hf hp
    exact stop fuel p (by omega) hp (fun h => by omega)
  | succ k ih =>
    intro fuel p hk hf hp
    by_cases hB : p < n ∧ isB (B p) = true
    · obtain ⟨fuel, rfl⟩ : ∃ f, fuel = f + 1 := ⟨fuel - 1, by omega⟩
      have hb : p < n → B p < 256 := fun h => (hT.2.2 p h).1
      have next := ih fuel (p + 1) (by omega) (by omega) (by omega)
      have eq1 : tq B n p = tq B n (p + 1) := rn_go hB.1 hB.2
      have ee : te B n p = te B n (p + 1) := by unfold te; rw [eq1]
      have ek : tk B n p = tk B n (p + 1) := by unfold tk; rw [ee, eq1]
      have eT : ∀ τ', TokM τ' n B p ↔ TokM τ' n B (p + 1) := fun τ' => by unfold TokM; rw [eq1, ee, ek]
      have next2 : ok (f_X12_scan_5 N fuel (nI (p + 1)) τ) (fun τ' => TokM τ' n B p ∧ Fr VM τ τ') := next.mono (fun τ' h => ⟨(eT τ').mpr h.1, h.2⟩)
      rw [f_X12_scan_5, m_see hT (by omega), bo_some]
      rcases (see_B hb).mpr hB with h | h
      · rw [if_pos h, nI_1]; exact next2
      · by_cases h3 : seeN B n p = 32
        · rw [if_pos h3, nI_1]; exact next2
        · rw [if_neg h3, bo_some, if_pos h, nI_1]; exact next2
    · exact stop fuel p (by omega) hp hB
theorem m_scan {N n : Nat} {B : Nat → Nat} {p : Nat} {τ : St} (hN : 802 < N) (hp : p ≤ n) (hT : TapeM τ n B) (ha : τ.1 1006 0 = nI p) : ok (f_X12_scan N τ) (fun τ' => TokM τ' n B p ∧ Fr VM τ τ') := by
  unfold f_X12_scan
  have hn := hT.1
  rw [ha]
  exact m_scan_5 hN hT (n - p) N p rfl (by omega) hp
