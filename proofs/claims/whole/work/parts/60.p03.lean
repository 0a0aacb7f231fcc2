abbrev VN : List Nat := [4802, 4803, 4804, 4805, 4806, 4807, 4808, 4809, 4810]
def TokX (σ : St) (n : Nat) (B : Nat → Nat) (p : Nat) : Prop :=
  σ.1 4802 0 = nI (te B n p) ∧ σ.1 4803 0 = nI (tk B n p) ∧ σ.1 4804 0 = nI (tq B n p) ∧
  (tk B n p = 1 → σ.1 4805 0 = nI (te B n p - tq B n p) ∧ σ.2 4806 0 = nmf B (tq B n p) (te B n p - tq B n p) ∧ σ.1 4808 0 = (if isS B (tq B n p) (te B n p - tq B n p) = true then 1 else 0) ∧ (isS B (tq B n p) (te B n p - tq B n p) = true → te B n p - tq B n p ≤ 8 → σ.1 4807 0 = nI (sp (fun i => B (tq B n p + i) - 97) (te B n p - tq B n p)))) ∧
  (tk B n p = 2 → σ.1 4809 0 = nI (numf B (tq B n p) (te B n p - tq B n p))) ∧
  (tk B n p = 3 → σ.1 4810 0 = nI (B (tq B n p)))
theorem TapeX.fr {σ σ' : St} {V : List Nat} {n : Nat} {B : Nat → Nat} (h : TapeX σ n B) (f : Fr V σ σ') (hv : ([4801, 20] : List Nat).all (fun a => !V.contains a) = true) : TapeX σ' n B := by
  have e := f.at hv
  unfold TapeX at h ⊢
  rw [(e 4801 (by decide)).1, (e 20 (by decide)).1]
  exact h
theorem x_next_0 {N n : Nat} {B : Nat → Nat} {Q : St → Prop} : ∀ (k fuel p : Nat) (σ : St), n - p = k → k < fuel → p ≤ n → σ.1 4802 0 = nI p → TapeX σ n B →
    (∀ σ', σ'.1 4802 0 = nI (tq B n p) → TapeX σ' n B → Fr [4802] σ σ' → ok (f_X8_next_52 N σ') Q) → ok (f_X8_next_0 N fuel σ) Q := by
  intro k
  induction k with
  | zero =>
    intro fuel p σ hk hf hp ha hT kk
    obtain ⟨fuel, rfl⟩ : ∃ f, fuel = f + 1 := ⟨fuel - 1, by omega⟩
    have hn := hT.1
    rw [f_X8_next_0, hT.2.1, ha, if_pos ((nle (by omega) (by omega)).mpr (by omega))]
    refine kk σ ?_ hT (Fr.refl _ _)
    unfold tq
    rw [rn_end (Or.inl (by omega))]; exact ha
  | succ k ih =>
    intro fuel p σ hk hf hp ha hT kk
    obtain ⟨fuel, rfl⟩ : ∃ f, fuel = f + 1 := ⟨fuel - 1, by omega⟩
    have hn := hT.1
    have hpn : p < n := by omega
    obtain ⟨hb, hs⟩ := hT.2.2 p hpn
    have hnot : ¬ nI n ≤ nI p := fun h => by have := (nle (by omega) (by omega)).mp h; omega
    have hin : ib (nI p) 800 = true := by rw [ib_n (by omega)]; exact decide_eq_true (by omega)
    have go : isB (B p) = true → ok (f_X8_next_39 N (f_X8_next_0 N fuel) σ) Q := by
      intro hB
      unfold f_X8_next_39
      rw [ha, nI_1]
      refine ih fuel (p + 1) _ (by omega) (by omega) (by omega) ?_ ?_ ?_
      · rw [si_rd]; rfl
      · exact hT.fr ((Fr.refl [4802] σ).si 4802 0 _ rfl) rfl
      · intro σ' h1 h2 h3
        refine kk σ' ?_ h2 (((Fr.refl [4802] σ).si 4802 0 _ rfl).trans h3)
        unfold tq
        rw [rn_go hpn hB]; exact h1
    have stop : isB (B p) = false → ok (f_X8_next_52 N σ) Q := fun hB => kk σ (by unfold tq; rw [rn_end (Or.inr hB)]; exact ha) hT (Fr.refl _ _)
    rw [f_X8_next_0, hT.2.1, ha, if_neg hnot, ncl (by omega), hs, hin, grd_true, grd_true]
    have e32 : sb (B p) = (32 : Int32) ↔ B p = 32 := sb_eq _ hb 32 (by omega)
    have e10 : sb (B p) = (10 : Int32) ↔ B p = 10 := sb_eq _ hb 10 (by omega)
    by_cases h32 : B p = 32
    · rw [if_pos (e32.mpr h32)]
      exact go (decide_eq_true (Or.inl h32))
    · rw [if_neg (fun h => h32 (e32.mp h))]
      by_cases h10 : B p = 10
      · rw [if_pos (e10.mpr h10)]
        exact go (decide_eq_true (Or.inr h10))
      · rw [if_neg (fun h => h10 (e10.mp h))]
        exact stop (decide_eq_false (by omega))
/-- the letters of a WORD, from its i-th on -/
def WInv (σ : St) (n : Nat) (B : Nat → Nat) (q i : Nat) : Prop := σ.1 4802 0 = nI i ∧ σ.1 4804 0 = nI q ∧ σ.1 4805 0 = nI (i - q) ∧ (i - q ≤ 12 → σ.2 4806 0 = nmf B q (i - q)) ∧ σ.1 4808 0 = (if isS B q (i - q) = true then 1 else 0) ∧ (isS B q (i - q) = true → i - q ≤ 8 → σ.1 4807 0 = nI (sp (fun j => B (q + j) - 97) (i - q)))
theorem WInv.fr {σ σ' : St} {V : List Nat} {n : Nat} {B : Nat → Nat} {q i : Nat} (h : WInv σ n B q i) (f : Fr V σ σ') (hv : ([4802, 4804, 4805, 4806, 4807, 4808] : List Nat).all (fun a => !V.contains a) = true) : WInv σ' n B q i := by
  have e := f.at hv
  unfold WInv at h ⊢
  rw [(e 4802 (by decide)).1, (e 4804 (by decide)).1, (e 4805 (by decide)).1, (e 4806 (by decide)).2, (e 4807 (by decide)).1, (e 4808 (by decide)).1]
  exact h
theorem sp_or {a b n : Nat} (ha : a < 16 ^ n) : a ||| (b <<< (4 * n)) = a + b * 16 ^ n := by
  have e : (16 : Nat) ^ n = 2 ^ (4 * n) := by rw [Nat.pow_mul]
  rw [e] at ha ⊢
  rw [Nat.or_comm, Nat.shiftLeft_add_eq_or_of_lt ha b |>.symm, Nat.shiftLeft_eq, Nat.add_comm]
theorem x_word {N n : Nat} {B : Nat → Nat} {q : Nat} {Q : St → Prop} : ∀ (k fuel i : Nat) (σ : St), n - i = k → k < fuel → q ≤ i → i ≤ n → WInv σ n B q i → TapeX σ n B →
    (∀ σ', WInv σ' n B q (rn isL B n i) → TapeX σ' n B → Fr [4802, 4805, 4806, 4807, 4808] σ σ' → ok (f_X8_takeWord_148 N σ') Q) → ok (f_X8_takeWord_20 N fuel σ) Q := by
  intro k
  induction k with
  | zero =>
    intro fuel i σ hk hf hq hp ha hT kk
    obtain ⟨fuel, rfl⟩ : ∃ f, fuel = f + 1 := ⟨fuel - 1, by omega⟩
    have hn := hT.1
    rw [f_X8_takeWord_20, hT.2.1, ha.1, if_pos ((nle (by omega) (by omega)).mpr (by omega))]
    refine kk σ ?_ hT (Fr.refl _ _)
    rw [rn_end (Or.inl (by omega))]; exact ha
  | succ k ih =>
    intro fuel i σ hk hf hq hp ha hT kk
    obtain ⟨fuel, rfl⟩ : ∃ f, fuel = f + 1 := ⟨fuel - 1, by omega⟩
    have hn := hT.1
    have hpn : i < n := by omega
    obtain ⟨hb, hs⟩ := hT.2.2 i hpn
    have hnot : ¬ nI n ≤ nI i := fun h => by have := (nle (by omega) (by omega)).mp h; omega
    have hin : ib (nI i) 800 = true := by rw [ib_n (by omega)]; exact decide_eq_true (by omega)
    rw [f_X8_takeWord_20, hT.2.1, ha.1, if_neg hnot, ncl (by omega), hs, hin, grd_true, grd_true]
    unfold f_X8_isLetter
    rw [sb_L _ hb]
    cases hL : isL (B i) with
    | false =>
      rw [show (if false = true then (1 : Int32) else 0) = 0 from rfl, if_pos rfl]
      exact kk σ (by rw [rn_end (Or.inr hL)]; exact ha) hT (Fr.refl _ _)
    | true =>
      rw [show (if true = true then (1 : Int32) else 0) = 1 from rfl, if_neg (by decide)]
      obtain ⟨s1, s2, s3⟩ := sb_of _ hb hL
      have hci : 97 ≤ B i ∧ B i ≤ 122 := of_decide_eq_true hL
      obtain ⟨a1, a2, a3, a4, a5, a6⟩ := ha
      have hqi : q + (i - q) = i := by omega
      have step : ∀ σ1 : St, TapeX σ1 n B → Fr [4806] σ σ1 → (i - q + 1 ≤ 12 → σ1.2 4806 0 = nmf B q (i - q + 1)) → ok (f_X8_takeWord_85 N (f_X8_takeWord_20 N fuel) (sb (B i) - 97) σ1) Q := by
        intro σ1 hT1 f1 hnm
        have go : ∀ σ2 : St, TapeX σ2 n B → Fr [4806, 4807, 4808] σ σ2 → (i - q + 1 ≤ 12 → σ2.2 4806 0 = nmf B q (i - q + 1)) → σ2.1 4808 0 = (if isS B q (i - q + 1) = true then 1 else 0) → (isS B q (i - q + 1) = true → i - q + 1 ≤ 8 → σ2.1 4807 0 = nI (sp (fun j => B (q + j) - 97) (i - q + 1))) → ok (f_X8_takeWord_125 N (f_X8_takeWord_20 N fuel) σ2) Q := by
          intro σ2 hT2 f2 g1 g2 g3
          unfold f_X8_takeWord_125
          have w5 : σ2.1 4805 0 = nI (i - q) := by rw [f2.i 4805 rfl]; exact a3
          have w2 : σ2.1 4802 0 = nI i := by rw [f2.i 4802 rfl]; exact a1
          have w4 : σ2.1 4804 0 = nI q := by rw [f2.i 4804 rfl]; exact a2
          have e1 : i + 1 - q = i - q + 1 := by omega
          have fr2 : Fr [4802, 4805] σ2 (si (si σ2 4805 0 (σ2.1 4805 0 + 1)) 4802 0 (σ2.1 4802 0 + 1)) := ((Fr.refl _ _).si _ _ _ rfl).si _ _ _ rfl
          refine ih fuel (i + 1) _ (by omega) (by omega) (by omega) (by omega) ?_ (hT2.fr fr2 rfl) ?_
          · unfold WInv
            rw [e1]
            refine ⟨?_, ?_, ?_, ?_, ?_, ?_⟩
            · rw [si_rd, w2, nI_1]; rfl
            · rw [fr2.i 4804 rfl]; exact w4
            · rw [si_rd, if_neg (by decide), si_rd, if_pos rfl, if_pos rfl, w5, nI_1]
            · rw [fr2.l 4806 rfl]; exact g1
            · rw [fr2.i 4808 rfl]; exact g2
            · rw [fr2.i 4807 rfl]; exact g3
          · intro σ' h1 h2 h3
            refine kk σ' ?_ h2 (((f2.wide rfl).trans (fr2.wide rfl)).trans h3)
            rw [rn_go hpn hL]; exact h1
        unfold f_X8_takeWord_85
        have w5 : σ1.1 4805 0 = nI (i - q) := by rw [f1.i 4805 rfl]; exact a3
        have w8 : σ1.1 4808 0 = (if isS B q (i - q) = true then 1 else 0) := by rw [f1.i 4808 rfl]; exact a5
        have w7 : isS B q (i - q) = true → i - q ≤ 8 → σ1.1 4807 0 = nI (sp (fun j => B (q + j) - 97) (i - q)) := by rw [f1.i 4807 rfl]; exact a6
        rw [s2, w5]
        by_cases h15 : B i - 97 ≤ 15
        · rw [if_pos (show nI (B i - 97) ≤ (15 : Int32) from (nle (b := 15) (by omega) (by omega)).mpr h15)]
          have hS : isS B q (i - q + 1) = isS B q (i - q) := by
            show (isS B q (i - q) && decide (B (q + (i - q)) ≤ 112)) = _
            rw [hqi, decide_eq_true (by omega), Bool.and_true]
          by_cases h8 : 8 ≤ i - q
          · rw [if_pos (show (8 : Int32) ≤ nI (i - q) from (nle (a := 8) (by omega) (by omega)).mpr h8)]
            exact go σ1 hT1 (f1.wide rfl) hnm (by rw [hS]; exact w8) (fun _ h => by omega)
          · rw [if_neg (show ¬ (8 : Int32) ≤ nI (i - q) from nI_ge (b := 8) (by omega) (by omega))]
            refine go _ (hT1.fr ((Fr.refl [4807] _).si _ _ _ rfl) rfl) ((f1.wide rfl).si _ _ _ rfl) (by rw [si_2]; exact hnm) (by rw [si_rd, if_neg (by decide), hS]; exact w8) ?_
            intro g1 g2
            rw [hS] at g1
            have hpk : sp (fun j => B (q + j) - 97) (i - q) < 16 ^ (i - q) := sp_lt (fun j hj => by
              have := isS_at.mp g1 j hj
              show B (q + j) - 97 < 16
              omega)
            rw [si_rd, if_pos rfl, if_pos rfl, w7 g1 (by omega)]
            have e4 : (4 : Int32) * nI (i - q) = nI (4 * (i - q)) := nmul 4 (i - q)
            rw [e4, nshl _ (by omega), nor, sp_or hpk]
            show _ = nI (sp _ (i - q) + (B (q + (i - q)) - 97) * 16 ^ (i - q))
            rw [hqi]
        · rw [if_neg (show ¬ nI (B i - 97) ≤ (15 : Int32) from nI_ge (a := 15) (by omega) (by omega))]
          have hS : isS B q (i - q + 1) = false := by
            show (isS B q (i - q) && decide (B (q + (i - q)) ≤ 112)) = _
            rw [hqi, decide_eq_false (by omega), Bool.and_false]
          refine go _ (hT1.fr ((Fr.refl [4808] _).si _ _ _ rfl) rfl) ((f1.wide rfl).si _ _ _ rfl) (by rw [si_2]; exact hnm) (by rw [si_rd, if_pos rfl, if_pos rfl, hS]; rfl) ?_
          intro g1; rw [hS] at g1; cases g1
      rw [a3]
      by_cases h12 : 12 ≤ i - q
      · rw [if_pos (show (12 : Int32) ≤ nI (i - q) from (nle (a := 12) (by omega) (by omega)).mpr h12)]
        exact step σ hT (Fr.refl _ _) (fun h => by omega)
      · rw [if_neg (show ¬ (12 : Int32) ≤ nI (i - q) from nI_ge (b := 12) (by omega) (by omega))]
        refine step _ (hT.fr ((Fr.refl [4806] _).sl _ _ _ rfl) rfl) ((Fr.refl _ _).sl _ _ _ rfl) (fun _ => ?_)
        rw [sl_rd, if_pos rfl, if_pos rfl, a4 (by omega), Int64.add_assoc, s3]
        show _ = nmf B q (i - q) * 32 + lN (B (q + (i - q)) - 96)
        rw [hqi]
theorem x_num {N n : Nat} {B : Nat → Nat} {q : Nat} {Q : St → Prop} : ∀ (k fuel i : Nat) (σ : St), n - i = k → k < fuel → q ≤ i → i ≤ n → σ.1 4802 0 = nI i → (i - q ≤ 4 → σ.1 4809 0 = nI (numf B q (i - q))) → TapeX σ n B →
    (∀ σ', σ'.1 4802 0 = nI (rn isD B n i) → (rn isD B n i - q ≤ 4 → σ'.1 4809 0 = nI (numf B q (rn isD B n i - q))) → TapeX σ' n B → Fr [4802, 4809] σ σ' → ok (f_X8_takeNumber_78 N (nI (rn isD B n i - q)) σ') Q) → ok (f_X8_takeNumber_7 N fuel (nI (i - q)) σ) Q := by
  intro k
  induction k with
  | zero =>
    intro fuel i σ hk hf hq hp ha hm hT kk
    obtain ⟨fuel, rfl⟩ : ∃ f, fuel = f + 1 := ⟨fuel - 1, by omega⟩
    have hn := hT.1
    rw [f_X8_takeNumber_7, hT.2.1, ha, if_pos ((nle (by omega) (by omega)).mpr (by omega))]
    have hr : rn isD B n i = i := rn_end (Or.inl (by omega))
    rw [hr] at kk
    exact kk σ ha hm hT (Fr.refl _ _)
  | succ k ih =>
    intro fuel i σ hk hf hq hp ha hm hT kk
    obtain ⟨fuel, rfl⟩ : ∃ f, fuel = f + 1 := ⟨fuel - 1, by omega⟩
    have hn := hT.1
    have hpn : i < n := by omega
    obtain ⟨hb, hs⟩ := hT.2.2 i hpn
    have hnot : ¬ nI n ≤ nI i := fun h => by have := (nle (by omega) (by omega)).mp h; omega
    have hin : ib (nI i) 800 = true := by rw [ib_n (by omega)]; exact decide_eq_true (by omega)
    rw [f_X8_takeNumber_7, hT.2.1, ha, if_neg hnot, ncl (by omega), hs, hin, grd_true, grd_true]
    unfold f_X8_isDigit
    rw [sb_D _ hb]
    cases hL : isD (B i) with
    | false =>
      rw [show (if false = true then (1 : Int32) else 0) = 0 from rfl, if_pos rfl]
      have hr : rn isD B n i = i := rn_end (Or.inr hL)
      rw [hr] at kk
      exact kk σ ha hm hT (Fr.refl _ _)
    | true =>
      rw [show (if true = true then (1 : Int32) else 0) = 1 from rfl, if_neg (by decide)]
      obtain ⟨s1, s2⟩ := sb_dig _ hb hL
      have hqi : q + (i - q) = i := by omega
      have e1 : i + 1 - q = i - q + 1 := by omega
      rw [rn_go hpn hL] at kk
      have go : ∀ σ1 : St, TapeX σ1 n B → Fr [4809] σ σ1 → (i - q + 1 ≤ 4 → σ1.1 4809 0 = nI (numf B q (i - q + 1))) → ok (f_X8_takeNumber_62 N (f_X8_takeNumber_7 N fuel) (nI (i - q)) σ1) Q := by
        intro σ1 hT1 f1 hnm
        unfold f_X8_takeNumber_62
        have w2 : σ1.1 4802 0 = nI i := by rw [f1.i 4802 rfl]; exact ha
        rw [nI_1, ← e1]
        have fr2 : Fr [4802] σ1 (si σ1 4802 0 (σ1.1 4802 0 + 1)) := (Fr.refl _ _).si _ _ _ rfl
        refine ih fuel (i + 1) _ (by omega) (by omega) (by omega) (by omega) ?_ ?_ (hT1.fr fr2 rfl) ?_
        · rw [si_rd, w2, nI_1]; rfl
        · rw [fr2.i 4809 rfl, e1]; exact hnm
        · intro σ' h1 h2 h3 h4
          exact kk σ' h1 h2 h3 (((f1.wide rfl).trans (fr2.wide rfl)).trans h4)
      by_cases h12 : 4 ≤ i - q
      · rw [if_pos (show (4 : Int32) ≤ nI (i - q) from (nle (a := 4) (by omega) (by omega)).mpr h12)]
        exact go σ hT (Fr.refl _ _) (fun h => by omega)
      · rw [if_neg (show ¬ (4 : Int32) ≤ nI (i - q) from nI_ge (b := 4) (by omega) (by omega))]
        refine go _ (hT.fr ((Fr.refl [4809] _).si _ _ _ rfl) rfl) ((Fr.refl _ _).si _ _ _ rfl) (fun _ => ?_)
        have hci : 48 ≤ B i ∧ B i ≤ 57 := of_decide_eq_true hL
        rw [si_rd, if_pos rfl, if_pos rfl, hm (by omega), s1]
        have e10 : nI (numf B q (i - q)) * 10 = nI (numf B q (i - q) * 10) := nmul _ 10
        have e48 : nI (numf B q (i - q) * 10 + B i) - 48 = nI (numf B q (i - q) * 10 + B i - 48) := nsub (b := 48) (by omega)
        rw [e10, nadd, e48]
        show _ = nI (numf B q (i - q) * 10 + (B (q + (i - q)) - 48))
        rw [hqi]
        congr 1
        omega
theorem sb_M : ∀ c, c < 256 → ((if sb c = 59 then (1 : Int32) else (if sb c = 58 then 1 else (if sb c = 42 then 1 else (if sb c = 38 then 1 else (if sb c = 45 then 1 else (if sb c = 40 then 1 else (if sb c = 41 then 1 else 0))))))) = if isM c = true then 1 else 0) ∧ (isM c = true → sb c = nI c) := by decide +kernel
theorem x_next_52 {N n : Nat} {B : Nat → Nat} {p : Nat} {σ0 σ : St} (hN : 801 < N) (hp : p ≤ n) (hT : TapeX σ n B) (ha : σ.1 4802 0 = nI (tq B n p)) (hf : Fr VN σ0 σ) : ok (f_X8_next_52 N σ) (fun σ' => TokX σ' n B p ∧ Fr VN σ0 σ') := by
  have hn := hT.1
  have hq := tq_le (B := B) hp
  have hen := te_le (B := B) hp
  have heq := te_ge B n p
  generalize hqd : tq B n p = q at *
  unfold f_X8_next_52
  rw [ha, hT.2.1]
  by_cases hend : n ≤ q
  · rw [if_neg (fun h => by have := (nlt (by omega) (by omega)).mp h; omega), ok_some]
    have k0 : tk B n p = 0 := by unfold tk; rw [hqd, if_pos hend]
    have e0 : te B n p = q := by unfold te; rw [hqd, if_pos hend]
    refine ⟨?_, (hf.si _ _ _ rfl).si _ _ _ rfl⟩
    unfold TokX
    rw [k0, e0, hqd]
    refine ⟨?_, ?_, ?_, fun h => absurd h (by decide), fun h => absurd h (by decide), fun h => absurd h (by decide)⟩
    · rw [si_rd, if_neg (by decide), si_rd, if_neg (by decide)]; exact ha
    · rw [si_rd, if_pos rfl, if_pos rfl]; rfl
    · rw [si_rd, if_neg (by decide), si_rd, if_pos rfl, if_pos rfl]
  · have hqn : q < n := by omega
    obtain ⟨hb, hs⟩ := hT.2.2 q hqn
    have hin : ib (nI q) 800 = true := by rw [ib_n (by omega)]; exact decide_eq_true (by omega)
    rw [if_pos ((nlt (by omega) (by omega)).mpr hqn), hin, grd_true, grd_true, ncl (by omega), hs]
    have f1 : Fr [4804] σ (si σ 4804 0 (nI q)) := (Fr.refl _ _).si _ _ _ rfl
    have hT1 := hT.fr f1 rfl
    have p1 : (si σ 4804 0 (nI q)).1 4804 0 = nI q := by rw [si_rd]; rfl
    have p2 : (si σ 4804 0 (nI q)).1 4802 0 = nI q := by rw [f1.i 4802 rfl]; exact ha
    have p20 : (si σ 4804 0 (nI q)).1 20 q = sb (B q) := by rw [f1.i 20 rfl]; exact hs
    have hf1 : Fr VN σ0 (si σ 4804 0 (nI q)) := hf.si _ _ _ rfl
    generalize si σ 4804 0 (nI q) = σ1 at *
    unfold f_X8_isLetter f_X8_isDigit
    rw [sb_L _ hb, sb_D _ hb]
    cases hL : isL (B q) with
    | true =>
      rw [show (if true = true then (1 : Int32) else 0) = 1 from rfl, if_neg (by decide)]
      have ee : te B n p = rn isL B n q := by unfold te; rw [hqd, if_neg hend, if_pos hL]
      have ek : tk B n p = if te B n p - q ≤ 12 then 1 else 4 := by unfold tk; rw [hqd, if_neg hend, if_pos hL]
      refine ok_bo_of (P := fun σ' => TokX σ' n B p ∧ Fr VN σ0 σ') ?_ (fun a h => ok_some.mpr h)
      unfold f_X8_takeWord
      have f2 : Fr [4805, 4806, 4807, 4808] σ1 (si (si (sl (si σ1 4805 0 0) 4806 0 0) 4807 0 0) 4808 0 1) := ((((Fr.refl _ _).si _ _ _ rfl).sl _ _ _ rfl).si _ _ _ rfl).si _ _ _ rfl
      refine x_word (q := q) (n - q) N q _ rfl (by omega) (Nat.le_refl _) (by omega) ?_ (hT1.fr f2 rfl) ?_
      · unfold WInv
        rw [Nat.sub_self]
        refine ⟨?_, ?_, ?_, ?_, ?_, ?_⟩
        · rw [f2.i 4802 rfl]; exact p2
        · rw [f2.i 4804 rfl]; exact p1
        · rfl
        · intro _; rfl
        · rfl
        · intro _ _; rfl
      · intro σ2 hW hT2 f3
        rw [← ee] at hW
        unfold f_X8_takeWord_148 f_X8_takeWord_163
        obtain ⟨w1, w2, w3, w4, w5, w6⟩ := hW
        rw [w3]
        have hfin : Fr VN σ0 σ2 := (hf1.trans (f2.wide rfl)).trans (f3.wide rfl)
        by_cases h12 : te B n p - q ≤ 12
        · rw [if_pos (show nI (te B n p - q) ≤ (12 : Int32) from (nle (b := 12) (by omega) (by omega)).mpr h12), ok_some]
          rw [if_pos h12] at ek
          refine ⟨?_, hfin.si _ _ _ rfl⟩
          have f4 : Fr [4803] σ2 (si σ2 4803 0 1) := (Fr.refl _ _).si _ _ _ rfl
          unfold TokX
          rw [ek, hqd]
          refine ⟨by rw [f4.i 4802 rfl]; exact w1, by rw [si_rd]; rfl, by rw [f4.i 4804 rfl]; exact w2, fun _ => ⟨by rw [f4.i 4805 rfl]; exact w3, by rw [f4.l 4806 rfl]; exact w4 h12, by rw [f4.i 4808 rfl]; exact w5, by rw [f4.i 4807 rfl]; exact w6⟩, fun h => absurd h (by decide), fun h => absurd h (by decide)⟩
        · rw [if_neg (show ¬ nI (te B n p - q) ≤ (12 : Int32) from nI_ge (a := 12) (by omega) (by omega)), ok_some]
          rw [if_neg h12] at ek
          refine ⟨?_, hfin.si _ _ _ rfl⟩
          have f4 : Fr [4803] σ2 (si σ2 4803 0 4) := (Fr.refl _ _).si _ _ _ rfl
          unfold TokX
          rw [ek, hqd]
          refine ⟨by rw [f4.i 4802 rfl]; exact w1, by rw [si_rd]; rfl, by rw [f4.i 4804 rfl]; exact w2, fun h => absurd h (by decide), fun h => absurd h (by decide), fun h => absurd h (by decide)⟩
    | false =>
      rw [show (if false = true then (1 : Int32) else 0) = 0 from rfl, if_pos rfl]
      cases hD : isD (B q) with
      | true =>
        rw [show (if true = true then (1 : Int32) else 0) = 1 from rfl, if_neg (by decide)]
        have ee : te B n p = rn isD B n q := by unfold te; rw [hqd, if_neg hend, hL, if_neg (by simp), if_pos hD]
        have ek : tk B n p = if te B n p - q ≤ 4 then 2 else 4 := by unfold tk; rw [hqd, if_neg hend, hL, if_neg (by simp), if_pos hD]
        refine ok_bo_of (P := fun σ' => TokX σ' n B p ∧ Fr VN σ0 σ') ?_ (fun a h => ok_some.mpr h)
        unfold f_X8_takeNumber
        have f2 : Fr [4809] σ1 (si σ1 4809 0 0) := (Fr.refl _ _).si _ _ _ rfl
        have z0 : (0 : Int32) = nI (q - q) := by rw [Nat.sub_self]; rfl
        have : ok (f_X8_takeNumber_7 N N (nI (q - q)) (si σ1 4809 0 0)) (fun σ' => TokX σ' n B p ∧ Fr VN σ0 σ') := by
          refine x_num (q := q) (n - q) N q _ rfl (by omega) (Nat.le_refl _) (by omega) ?_ ?_ (hT1.fr f2 rfl) ?_
          · rw [f2.i 4802 rfl]; exact p2
          · intro _; rw [Nat.sub_self]; rfl
          · intro σ2 w1 w4 hT2 f3
            rw [← ee] at w1 w4 ⊢
            unfold f_X8_takeNumber_78 f_X8_takeNumber_89
            have w2 : σ2.1 4804 0 = nI q := by rw [f3.i 4804 rfl, f2.i 4804 rfl]; exact p1
            have hfin : Fr VN σ0 σ2 := (hf1.trans (f2.wide rfl)).trans (f3.wide rfl)
            by_cases h12 : te B n p - q ≤ 4
            · rw [if_pos (show nI (te B n p - q) ≤ (4 : Int32) from (nle (b := 4) (by omega) (by omega)).mpr h12), ok_some]
              rw [if_pos h12] at ek
              refine ⟨?_, hfin.si _ _ _ rfl⟩
              have f4 : Fr [4803] σ2 (si σ2 4803 0 2) := (Fr.refl _ _).si _ _ _ rfl
              unfold TokX
              rw [ek, hqd]
              refine ⟨by rw [f4.i 4802 rfl]; exact w1, by rw [si_rd]; rfl, by rw [f4.i 4804 rfl]; exact w2, fun h => absurd h (by decide), fun _ => by rw [f4.i 4809 rfl]; exact w4 h12, fun h => absurd h (by decide)⟩
            · rw [if_neg (show ¬ nI (te B n p - q) ≤ (4 : Int32) from nI_ge (a := 4) (by omega) (by omega)), ok_some]
              rw [if_neg h12] at ek
              refine ⟨?_, hfin.si _ _ _ rfl⟩
              have f4 : Fr [4803] σ2 (si σ2 4803 0 4) := (Fr.refl _ _).si _ _ _ rfl
              unfold TokX
              rw [ek, hqd]
              refine ⟨by rw [f4.i 4802 rfl]; exact w1, by rw [si_rd]; rfl, by rw [f4.i 4804 rfl]; exact w2, fun h => absurd h (by decide), fun h => absurd h (by decide), fun h => absurd h (by decide)⟩
        rw [← z0] at this
        exact this
      | false =>
        rw [show (if false = true then (1 : Int32) else 0) = 0 from rfl, if_pos rfl]
        have ee : te B n p = q + 1 := by unfold te; rw [hqd, if_neg hend, hL, if_neg (by simp), hD, if_neg (by simp)]
        have ek : tk B n p = if isM (B q) = true then 3 else 4 := by unfold tk; rw [hqd, if_neg hend, hL, if_neg (by simp), hD, if_neg (by simp)]
        refine ok_bo_of (P := fun σ' => TokX σ' n B p ∧ Fr VN σ0 σ') ?_ (fun a h => ok_some.mpr h)
        unfold f_X8_takeMark f_X8_isMark f_X8_takeMark_39
        rw [p2, hin, grd_true, ncl (by omega), p20, (sb_M _ hb).1, nI_1]
        have f2 : Fr [4802, 4810] σ1 (si (si σ1 4810 0 (sb (B q))) 4802 0 (nI (q + 1))) := ((Fr.refl _ _).si _ _ _ rfl).si _ _ _ rfl
        have r2 : (si (si σ1 4810 0 (sb (B q))) 4802 0 (nI (q + 1))).1 4802 0 = nI (q + 1) := by rw [si_rd]; rfl
        have r10 : (si (si σ1 4810 0 (sb (B q))) 4802 0 (nI (q + 1))).1 4810 0 = sb (B q) := by rw [si_rd, if_neg (by decide), si_rd]; rfl
        generalize si (si σ1 4810 0 (sb (B q))) 4802 0 (nI (q + 1)) = σ2 at *
        have w2 : σ2.1 4804 0 = nI q := by rw [f2.i 4804 rfl]; exact p1
        cases hM : isM (B q) with
        | true =>
          rw [show (if true = true then (1 : Int32) else 0) = 1 from rfl, if_neg (by decide), ok_some]
          rw [hM, if_pos rfl] at ek
          refine ⟨?_, (hf1.trans (f2.wide rfl)).si _ _ _ rfl⟩
          have f4 : Fr [4803] σ2 (si σ2 4803 0 3) := (Fr.refl _ _).si _ _ _ rfl
          unfold TokX
          rw [ek, hqd, ee]
          refine ⟨by rw [f4.i 4802 rfl]; exact r2, by rw [si_rd]; rfl, by rw [f4.i 4804 rfl]; exact w2, fun h => absurd h (by decide), fun h => absurd h (by decide), fun _ => by rw [f4.i 4810 rfl, r10]; exact (sb_M _ hb).2 hM⟩
        | false =>
          rw [show (if false = true then (1 : Int32) else 0) = 0 from rfl, if_pos rfl, ok_some]
          rw [hM, if_neg (by simp)] at ek
          refine ⟨?_, (hf1.trans (f2.wide rfl)).si _ _ _ rfl⟩
          have f4 : Fr [4803] σ2 (si σ2 4803 0 4) := (Fr.refl _ _).si _ _ _ rfl
          unfold TokX
          rw [ek, hqd, ee]
          refine ⟨by rw [f4.i 4802 rfl]; exact r2, by rw [si_rd]; rfl, by rw [f4.i 4804 rfl]; exact w2, fun h => absurd h (by decide), fun h => absurd h (by decide), fun h => absurd h (by decide)⟩
theorem x_next {N n : Nat} {B : Nat → Nat} {p : Nat} {σ : St} (hN : 801 < N) (hp : p ≤ n) (hT : TapeX σ n B) (ha : σ.1 4802 0 = nI p) : ok (f_X8_next N σ) (fun σ' => TokX σ' n B p ∧ Fr VN σ σ') := by
  unfold f_X8_next
  have hn := hT.1
  refine x_next_0 (n - p) N p σ rfl (by omega) hp ha hT ?_
  intro σ' h1 h2 h3
  exact x_next_52 hN hp h2 h1 (h3.wide rfl)
