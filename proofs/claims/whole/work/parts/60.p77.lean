/-! spellings, the reference: all covers -/
def PE (m a j : Nat) : Prop := (a = 37 ∧ 18 * (m + 1) ≤ j) ∨ PB m a j
theorem PE_V {m a j : Nat} (h : PE m a j) : VE.contains a = true := by
  rcases h with ⟨h, _⟩ | h
  · rw [h]; rfl
  · exact PB_V h
theorem PE_up {m a j : Nat} (h : PE (m + 1) a j) : PE m a j := by
  rcases h with ⟨h1, h2⟩ | ⟨h1, h2⟩ | h
  · exact Or.inl ⟨h1, by omega⟩
  · exact Or.inr (Or.inl ⟨h1, by omega⟩)
  · exact Or.inr (Or.inr h)
theorem CvR.frE {τ τ' : St} {m R S : Nat} (h : CvR τ m R S) (f : FrP (PE m) τ τ') : CvR τ' m R S := fun p hp g hg => by
  rw [(f 37 (18 * m + 2 * p + g) (fun q => by
    rcases q with ⟨_, q⟩ | ⟨q, _⟩ | q | q | q
    · omega
    · cases q
    · cases q
    · cases q
    · cases q)).1]
  exact h p hp g hg
theorem LeftM.fr {L : Lv} {T : Tv} {τ τ' : St} (h : LeftM L T τ) (f : Fr VE τ τ') : LeftM L T τ' := fun p hp => by
  rw [f.i 38 rfl]; exact h p hp
theorem RowS.frE {τ τ' : St} {l : List Nat} (h : RowS τ l) (f : FrP (PE l.length) τ τ') : RowS τ' l := fun j hj => by
  rw [(f 39 j (fun q => by
    rcases q with ⟨q, _⟩ | ⟨_, q⟩ | q | q | q
    · cases q
    · omega
    · cases q
    · cases q
    · cases q)).1]
  exact h j hj
theorem stp_k {L : Lv} {T : Tv} (hL : LOk L) {R S s : Nat} (hs : s < L.n) (h : L.k s ≠ 1) : stp L T R S s = 0 := by
  apply Classical.byContradiction
  intro q
  obtain ⟨e, he, hb⟩ := stp_ex q
  have := (stB_c hL hs hb).2.1
  have := (hL.2.1 s hs).2.2.2.2.1 h
  omega
theorem GI.more {K : St → List (List Nat) → Prop} {kp : Bool} {most M c : Nat} {τ : St} {P P' : List (List Nat)} (h : GI K kp most M τ P) (h1 : τ.1 1061 0 = nI c) (hc : c ≤ 200000) (hM : M ≤ 200000) (hm : most < c) (hl : P.length ≤ P'.length) : GI K kp most M τ P' := by
  obtain ⟨c', c1, c2, c3, c4, c5, c6⟩ := h
  have e : c = c' := (neq (by omega) (by omega)).mp (h1.symm.trans c1)
  subst e
  exact ⟨c, c1, c2, by omega, fun h => absurd h (by omega), c5, c6⟩
/-- the SPELLINGS by covers that go on behind a row -/
def spp (L : Lv) (T : Tv) (pre : List Nat) (X : List (List Nat)) : List (List Nat) := (X.map (fun l => pre ++ l)).flatMap (kds L T)
theorem spp_app (L : Lv) (T : Tv) (pre : List Nat) (X Y : List (List Nat)) : spp L T pre (X ++ Y) = spp L T pre X ++ spp L T pre Y := by
  unfold spp; rw [List.map_append, List.flatMap_append]
theorem spp_nil (L : Lv) (T : Tv) (pre : List Nat) : spp L T pre [] = [] := rfl
theorem spp_cons (L : Lv) (T : Tv) (pre : List Nat) (s : Nat) (X : List (List Nat)) : spp L T pre (X.map (fun l => s :: l)) = spp L T (pre ++ [s]) X := by
  unfold spp
  rw [List.map_map]
  congr 2
  funext l
  show pre ++ s :: l = (pre ++ [s]) ++ l
  rw [List.append_assoc]; rfl
theorem cvp_pre (L : Lv) (T : Tv) (R S : Nat) : ∀ (k s : Nat), ∃ Y, cvp L T R S (s + k) = cvp L T R S s ++ Y := by
  intro k
  induction k with
  | zero => intro s; exact ⟨[], by rw [List.append_nil]; rfl⟩
  | succ k ih =>
    intro s
    obtain ⟨Y, e⟩ := ih s
    exact ⟨Y ++ cvn L T R S (s + k), by rw [← List.append_assoc, ← e]; exact cvp_succ L T R S (s + k)⟩
theorem m_coversFrom {N : Nat} (hN : 802 < N) {L : Lv} (hL : LOk L) {T : Tv} (hT : TvOk T) {t most mx : Nat} {kp : Bool} {K : St → List (List Nat) → Prop} (hK : kp = true → KOk N L T t K) (hmost : most ≤ 100000) (hmx : 11 ≤ mx ∧ mx ≤ 12) : ∀ (D m R S M : Nat) (pre : List Nat) (τ : St) (P : List (List Nat)), 9 ≤ D + m → Rch L T m R S → (m = 0 → S = 0) → pre.length = m → (∀ s, s ∈ pre → s < L.n) → M ≤ 150000 → (1 ≤ m → M ≤ 100000) → MS τ L t T → LeftM L T τ → CvR τ m R S → RowS τ pre → GI K kp most M τ P →
    ok (f_X12_coversFrom N D (nI m) (nI mx) (nI t) τ) (fun τ' => GI K kp most 150000 τ' (P ++ spp L T pre (cv L T R S)) ∧ MS τ' L t T ∧ FrP (PE m) τ τ') := by
  have h40 := hL.1
  intro D
  induction D with
  | zero => intro m R S M pre τ P h9 hr; have := (Rch_S hL hT hr).2.1; omega
  | succ D ih =>
    intro m R S M pre τ0 P h9 hr hm0 hpl hpe hM hM1 ms0 lf0 cr0 rs0 gi0
    have hS := Rch_S hL hT hr
    have t40 := ms0.2.1.1
    have loop : ∀ (k fuel s : Nat) (τ : St), L.n - s = k → k < fuel → s ≤ L.n → MS τ L t T → FrP (PE m) τ0 τ → GI K kp most 150000 τ (P ++ spp L T pre (cvp L T R S s)) → ok (f_X12_coversFrom_22 N (f_X12_coversFrom N D) fuel (nI m) (nI mx) (nI t) (nI s) τ) (fun τ' => GI K kp most 150000 τ' (P ++ spp L T pre (cv L T R S)) ∧ MS τ' L t T ∧ FrP (PE m) τ0 τ') := by
      intro k
      induction k with
      | zero =>
        intro fuel s τ hk hf hs ms f gi
        obtain ⟨fuel, rfl⟩ : ∃ f, fuel = f + 1 := ⟨fuel - 1, by omega⟩
        have e : s = L.n := by omega
        subst e
        rw [f_X12_coversFrom_22, show ib 0 2 = true from rfl, grd_true, ms.2.2.1, if_pos (nI_le (by omega) (by omega)), ok_some]
        rw [← cv_eq hL hT hr] at gi
        exact ⟨gi, ms, f⟩
      | succ k ihk =>
        intro fuel s τ hk hf hs ms f gi
        obtain ⟨fuel, rfl⟩ : ∃ f, fuel = f + 1 := ⟨fuel - 1, by omega⟩
        have hs' : s < L.n := by omega
        have gi' := gi
        obtain ⟨c, c1, c2, c3, c4, c5, c6⟩ := gi'
        rw [f_X12_coversFrom_22, show ib 0 2 = true from rfl, grd_true, ms.2.2.1, if_neg (nI_ge (by omega) (by omega)), if_neg (show ¬ nI mx ≤ nI m from nI_ge (by omega) (by omega)), c1, c5]
        by_cases cm : most < c
        · rw [if_pos (nI_lt cm (by omega)), ok_some]
          refine ⟨gi.more c1 (by omega) (by omega) cm ?_, ms, f⟩
          obtain ⟨Y, eY⟩ := cvp_pre L T R S (L.n - s) s
          rw [cv_eq hL hT hr, show L.n = s + (L.n - s) by omega, eY, spp_app, List.length_append, List.length_append, List.length_append]
          omega
        · have gm : GI K kp most most τ (P ++ spp L T pre (cvp L T R S s)) := ⟨c, c1, by omega, c3, c4, c5, c6⟩
          rw [if_neg (nI_nlt (by omega) (by omega)), ib_n (a := s) (by omega), decide_eq_true (show s < 40 by omega), grd_true, ncl (a := s) (by omega), (ms.1.1 s hs').1, nI_1]
          have skip : ∀ τ1, cvn L T R S s = [] → MS τ1 L t T → FrP (PE m) τ0 τ1 → GI K kp most 150000 τ1 (P ++ spp L T pre (cvp L T R S s)) → ok (f_X12_coversFrom_22 N (f_X12_coversFrom N D) fuel (nI m) (nI mx) (nI t) (nI (s + 1)) τ1) (fun τ' => GI K kp most 150000 τ' (P ++ spp L T pre (cv L T R S)) ∧ MS τ' L t T ∧ FrP (PE m) τ0 τ') := fun τ1 e g1 g2 g3 => ihk fuel (s + 1) τ1 (by omega) (by omega) (by omega) g1 g2 (by rw [cvp_succ, e, List.append_nil]; exact g3)
          by_cases k1 : L.k s = 1
          · rw [if_pos (by rw [k1]; rfl)]
            refine ok_bd_of (m_coverOn hN ms.1 ms.2.1 hL hT (m := m) (R := R) (S := S) (s := s) (by omega) hs' hr.1 (fun h16 e he hb => by have := (hr.2.2 e he hb).2 h16; omega) (by omega) (cr0.frE f)) (fun r τ1 ⟨y1, y2, y3⟩ => ?_)
            have y1' : r = b2 (decide (stp L T R S s ≠ 0)) := y1
            have f1 : FrP (PE m) τ τ1 := y3.wide (fun a j h => Or.inl ⟨h.1, by have := h.2.1; omega⟩)
            have ms1 : MS τ1 L t T := ms.fr (f1.toFr (V := VE) (fun a j h => PE_V h)) rfl
            have gi1 : ∀ M, GI K kp most M τ (P ++ spp L T pre (cvp L T R S s)) → GI K kp most M τ1 (P ++ spp L T pre (cvp L T R S s)) := fun M g => g.fr hK (y3.wide (fun a j h => Or.inl h.1))
            rw [y1']
            by_cases e0 : stp L T R S s = 0
            · rw [decide_eq_false (show ¬ stp L T R S s ≠ 0 from fun h => h e0), if_pos (show b2 false = 0 from rfl)]
              exact skip τ1 (by unfold cvn; rw [if_pos e0]) ms1 (f.trans f1) (gi1 _ gi)
            · have r1 := Rch_stp hL hs' hr e0
              have b1 := Rch_S hL hT r1.1
              have lf1 : LeftM L T τ1 := lf0.fr ((f.trans f1).toFr (V := VE) (fun a j h => PE_V h))
              obtain ⟨b, w1, w2⟩ := m_canEnd (N := N) (m := m + 1) (most := mx) hN hL hT (by omega) (by omega) ms1 lf1 y2
              rw [decide_eq_true (show stp L T R S s ≠ 0 from e0), if_neg (show ¬ b2 true = 0 by decide), nI_1, w1, bo_some]
              cases hb : b with
              | false =>
                rw [if_pos (show b2 false = 0 from rfl)]
                refine skip τ1 ?_ ms1 (f.trans f1) (gi1 _ gi)
                unfold cvn
                rw [if_neg e0]
                have em : cv L T (stp L T R S s) (S + L.c s) = [] := by
                  apply Classical.byContradiction
                  intro ne
                  obtain ⟨l, hl⟩ := List.exists_mem_of_ne_nil _ ne
                  obtain ⟨q1, q2, e, he, hbit, l2, q3, q4⟩ := cv_len hL hT l (m + 1) _ _ r1.1 hl
                  have ok1 := r1.1.1.2 e he hbit
                  have := w2 hb (S + L.c s - e) ok1.2.2 ⟨by omega, by omega, by rw [show S + L.c s - (S + L.c s - e) = e by omega]; exact hbit⟩ l2 q3
                  omega
                rw [em, List.map_nil]
              | true =>
                rw [if_neg (show ¬ b2 true = 0 by decide), ib_n (a := m) (by omega), decide_eq_true (show m < 12 by omega), grd_true, ncl (a := m) (by omega)]
                have f2 : FrP (PE m) τ1 (si τ1 39 m (nI s)) := (FrP.refl _ _).si _ _ _ (Or.inr (Or.inl ⟨rfl, Nat.le_refl _⟩))
                have e9 : (pre ++ [s]).length = m + 1 := by rw [List.length_append, List.length_singleton, hpl]
                have rs1 : RowS τ1 pre := by
                  have ff := f.trans f1
                  rw [← hpl] at ff
                  exact rs0.frE ff
                refine ok_bo_of (ih (m + 1) _ _ most (pre ++ [s]) (si τ1 39 m (nI s)) (P ++ spp L T pre (cvp L T R S s)) (by omega) r1.1 (fun h => absurd h (by omega)) e9 (GL_app hpe (fun x hx => by rw [List.mem_singleton.mp hx]; exact hs')) (by omega) (fun _ => hmost) (ms1.fr (f2.toFr (V := VE) (fun a j h => PE_V h)) rfl) (lf1.fr (f2.toFr (V := VE) (fun a j h => PE_V h))) (fun p hp g hg => ?_) (fun j hj => ?_) ((gi1 _ gm).fr hK ((FrP.refl _ _).si _ _ _ (Or.inr (Or.inl rfl))))) (fun τ3 ⟨z1, z2, z3⟩ => ?_)
                · rw [si_rd, if_neg (by decide)]; exact y2 p hp g hg
                · rw [e9] at hj
                  rw [gl_snoc _ _ _ (by omega), si_rd, if_pos rfl]
                  by_cases e : j = m
                  · rw [if_pos e, if_pos (by omega)]
                  · rw [if_neg e, if_neg (by omega)]; exact rs1 j (by omega)
                · refine ihk fuel (s + 1) τ3 (by omega) (by omega) (by omega) z2 (((f.trans f1).trans f2).trans (z3.wide (fun a j h => PE_up h))) ?_
                  rw [cvp_succ, spp_app, ← List.append_assoc]
                  have : spp L T pre (cvn L T R S s) = spp L T (pre ++ [s]) (cv L T (stp L T R S s) (S + L.c s)) := by
                    unfold cvn; rw [if_neg e0, spp_cons]
                  rw [this]; exact z1
          · rw [if_neg (fun q => k1 (by
              have b3 := (hL.2.1 s hs').2.2.1
              exact (neq (b := 1) (by omega) (by omega)).mp q))]
            exact skip τ (by unfold cvn; rw [if_pos (stp_k hL hs' k1)]) ms f gi
    rw [f_X12_coversFrom]
    unfold f_X12_coversFrom_b
    by_cases m0 : m = 0
    · subst m0
      rw [if_pos (show nI 0 ≤ (0 : Int32) by decide)]
      have hc : isCov L T R S = false := by
        cases hc : isCov L T R S with
        | false => rfl
        | true =>
          exfalso
          unfold isCov at hc
          have h1 := (decide_eq_true_iff.mp hc).1
          have h2 := hm0 rfl
          have h3 := hT.1
          omega
      exact loop L.n N 0 τ0 (by omega) (by omega) (by omega) ms0 (FrP.refl _ _) (by rw [cvp_0, cvh, hc]; exact (by rw [if_neg (by decide), spp_nil, List.append_nil]; exact gi0.up hM))
    · rw [if_neg (show ¬ nI m ≤ (0 : Int32) from nI_ge (a := 0) (by omega) (by omega)), m_isCovered ms0.2.1 hL hT (by omega) hr.1 cr0, bo_some]
      cases hc : isCov L T R S with
      | false =>
        rw [if_pos (show b2 false = 0 from rfl)]
        exact loop L.n N 0 τ0 (by omega) (by omega) (by omega) ms0 (FrP.refl _ _) (by rw [cvp_0, cvh, hc, if_neg (by decide), spp_nil, List.append_nil]; exact gi0.up hM)
      | true =>
        rw [if_neg (show ¬ b2 true = 0 by decide)]
        have bd := m_body hN hL hK hmost (show M ≤ 150000 from hM) (l := pre) ⟨by omega, hpe⟩ (by omega) (by omega) ms0 rs0 gi0
        rw [hpl] at bd
        refine ok_bo_of bd (fun τ1 ⟨z1, z2, z3⟩ => ?_)
        refine loop L.n N 0 τ1 (by omega) (by omega) (by omega) z2 (z3.wide (fun a j h => Or.inr h)) ?_
        rw [cvp_0, cvh, hc, if_pos rfl]
        have : spp L T pre [[]] = kds L T pre := by
          unfold spp
          rw [List.map_cons, List.map_nil, List.flatMap_cons, List.flatMap_nil, List.append_nil, List.append_nil]
        rw [this]
        exact z1.up (by have := hM1 (by omega); omega)
