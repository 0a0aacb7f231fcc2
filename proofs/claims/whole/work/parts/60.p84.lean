/-! fill, the class: all SPELLINGS tried -/
theorem PTX_up {t n a j : Nat} (h : PTX t (n + 1) a j) : PTX t n a j := by
  rcases h with (⟨h, h'⟩ | ⟨h, h'⟩) | h
  · exact Or.inl (Or.inl ⟨h, by omega⟩)
  · exact Or.inl (Or.inr ⟨h, by omega⟩)
  · exact Or.inr h
theorem x_ti40 {N : Nat} (hN : 802 < N) {L : Lv} (hL : LOk L) {T : Tv} (hT : TvOk T) {t : Nat} (ht : t < 40) {s : Nat} (hs : s < L.n) {P : List (List Nat)} {σ0 : St} (tr0 : TrX L σ0 [s]) {k2 : Int32 → St → Option St} {Q : St → Prop} (kk : ∀ σ', SlX σ' t L (P ++ (tln L T s L.n).flatMap (kds L T)) → SPX σ' 1 L T → FrP (PTX t 1) σ0 σ' → ok (k2 (nI (s + 1)) σ') Q) : ∀ (k fuel o : Nat) (σ : St), L.n - o = k → k < fuel → o ≤ L.n → SPX σ 1 L T → SlX σ t L (P ++ (tln L T s o).flatMap (kds L T)) → FrP (PTX t 1) σ0 σ → ok (f_X2_tryIdeas_40 N k2 fuel (nI s) (nI o) σ) Q := by
  have h40 := hL.1
  intro k
  induction k with
  | zero =>
    intro fuel o σ hk hf ho sx sl f
    obtain ⟨fuel, rfl⟩ : ∃ f, fuel = f + 1 := ⟨fuel - 1, by omega⟩
    have e : o = L.n := by omega
    subst e
    have e0 : σ.1 1200 0 = nI L.n := sx.2.2.1.1
    rw [f_X2_tryIdeas_40, e0, if_pos (nI_le (by omega) (by omega)), nI_1]
    exact kk σ sl sx f
  | succ k ih =>
    intro fuel o σ hk hf ho sx sl f
    obtain ⟨fuel, rfl⟩ : ∃ f, fuel = f + 1 := ⟨fuel - 1, by omega⟩
    have ho' : o < L.n := by omega
    have e0 : σ.1 1200 0 = nI L.n := sx.2.2.1.1
    rw [f_X2_tryIdeas_40, e0, if_neg (nI_ge (by omega) (by omega)), x_isTail sx hL hT ho', bo_some, nI_1]
    cases hb : tlB L T o with
    | false =>
      rw [if_pos (show b2 false = 0 from rfl)]
      refine ih fuel (o + 1) σ (by omega) (by omega) (by omega) sx ?_ f
      rw [tln_no hb]; exact sl
    | true =>
      rw [if_neg (show ¬ b2 true = 0 by decide)]
      have hs1 : ∀ x, x ∈ [s] → x < L.n := fun x hx => by rw [List.mem_singleton.mp hx]; exact hs
      have pt := x_putTrial hN hL sx.2.2.1 (l := [s]) (by show 1 ≤ 8; omega) hs1 (TrX.frX (l := [s]) tr0 f) ho'
      have pt' : ok (f_X2_putTrial N 1 (nI o) σ) _ := pt
      refine ok_bo_of pt' (fun σ1 ⟨y1, y2⟩ => ?_)
      have y1' : TrX L σ1 [s, o] := y1
      have f1 : FrP (PTX t 1) σ σ1 := y2.wide (fun a j h => Or.inl h)
      have tb := x_tryBody (N := N) hN hL (T := T) ht (l := [s, o]) (by show 2 ≤ 8; omega) (fun x hx => by
        rcases List.mem_cons.mp hx with e | e
        · rw [e]; exact hs
        · rw [List.mem_singleton.mp e]; exact ho') (SPX_fr sx (f1.toFr (V := VX) (fun a j h => PTX_V h)) rfl) y1' (sl.fr (fun a j h => y2 a j (PT_sl h)))
      have tb' : ok (f_X2_tryBody N 2 σ1) _ := tb
      refine ok_bo_of tb' (fun σ2 ⟨z1, z2, z3⟩ => ?_)
      refine ih fuel (o + 1) σ2 (by omega) (by omega) (by omega) z2 ?_ ((f.trans f1).trans (z3.wide (fun a j h => PTX_up h)))
      rw [tln_yes hb, List.flatMap_append, List.flatMap_cons, List.flatMap_nil, List.append_nil, ← List.append_assoc]
      exact z1
theorem x_tryIdeas {N : Nat} (hN : 802 < N) {L : Lv} (hL : LOk L) {T : Tv} (hT : TvOk T) {t : Nat} (ht : t < 40) {σ0 : St} (sx0 : SPX σ0 1 L T) (tr0 : TrX L σ0 []) (sl0 : SlX σ0 t L []) : ok (f_X2_tryIdeas N σ0) (fun σ' => SlX σ' t L ((idb L T).flatMap (kds L T)) ∧ SPX σ' 1 L T ∧ FrP (PTX t 0) σ0 σ') := by
  have h40 := hL.1
  unfold f_X2_tryIdeas
  have key : ∀ (k fuel s : Nat) (σ : St), L.n - s = k → k < fuel → s ≤ L.n → SPX σ 1 L T → SlX σ t L ((idn L T s).flatMap (kds L T)) → FrP (PTX t 0) σ0 σ → ok (f_X2_tryIdeas_2 N fuel (nI s) σ) (fun σ' => SlX σ' t L ((idb L T).flatMap (kds L T)) ∧ SPX σ' 1 L T ∧ FrP (PTX t 0) σ0 σ') := by
    intro k
    induction k with
    | zero =>
      intro fuel s σ hk hf hs sx sl f
      obtain ⟨fuel, rfl⟩ : ∃ f, fuel = f + 1 := ⟨fuel - 1, by omega⟩
      have e : s = L.n := by omega
      subst e
      have e0 : σ.1 1200 0 = nI L.n := sx.2.2.1.1
      rw [f_X2_tryIdeas_2, e0, if_pos (nI_le (by omega) (by omega)), ok_some]
      exact ⟨sl, sx, f⟩
    | succ k ih =>
      intro fuel s σ hk hf hs sx sl f
      obtain ⟨fuel, rfl⟩ : ∃ f, fuel = f + 1 := ⟨fuel - 1, by omega⟩
      have hs' : s < L.n := by omega
      have e0 : σ.1 1200 0 = nI L.n := sx.2.2.1.1
      rw [f_X2_tryIdeas_2, e0, if_neg (nI_ge (by omega) (by omega)), x_isIdea sx hL hs', bo_some, nI_1]
      cases hb : idB L T s with
      | false =>
        rw [if_pos (show b2 false = 0 from rfl)]
        refine ih fuel (s + 1) σ (by omega) (by omega) (by omega) sx ?_ f
        rw [idn_no hb]; exact sl
      | true =>
        rw [if_neg (show ¬ b2 true = 0 by decide)]
        have hs1 : ∀ x, x ∈ [s] → x < L.n := fun x hx => by rw [List.mem_singleton.mp hx]; exact hs'
        have pt := x_putTrial hN hL sx.2.2.1 (l := []) (by show 0 ≤ 8; omega) (fun x hx => (nomatch hx)) (TrX.frX (l := []) tr0 f) hs'
        have pt' : ok (f_X2_putTrial N 0 (nI s) σ) _ := pt
        refine ok_bo_of pt' (fun σ1 ⟨y1, y2⟩ => ?_)
        have y1' : TrX L σ1 [s] := y1
        have f1 : FrP (PTX t 0) σ σ1 := y2.wide (fun a j h => Or.inl h)
        have tb := x_tryBody (N := N) hN hL (T := T) ht (l := [s]) (by show 1 ≤ 8; omega) hs1 (SPX_fr sx (f1.toFr (V := VX) (fun a j h => PTX_V h)) rfl) y1' (sl.fr (fun a j h => y2 a j (PT_sl h)))
        have tb' : ok (f_X2_tryBody N 1 σ1) _ := tb
        refine ok_bo_of tb' (fun σ2 ⟨z1, z2, z3⟩ => ?_)
        have f2 := (f.trans f1).trans (z3.wide (fun a j h => PTX_up h))
        refine x_ti40 hN hL hT ht hs' (P := (idn L T s).flatMap (kds L T) ++ kds L T [s]) (σ0 := σ2) (TrX.frX (l := [s]) y1' z3) (fun σ' g1 g2 g3 => ?_) L.n N 0 σ2 (by omega) (by omega) (by omega) z2 (by
          have e0 : tln L T s 0 = [] := rfl
          rw [e0, List.flatMap_nil, List.append_nil]; exact z1) (FrP.refl _ _)
        refine ih fuel (s + 1) σ' (by omega) (by omega) (by omega) g2 ?_ (f2.trans (g3.wide (fun a j h => PTX_up h)))
        rw [idn_yes hb, List.flatMap_append, List.flatMap_cons, ← List.append_assoc]
        exact g1
  exact key L.n N 0 σ0 (by omega) (by omega) (by omega) sx0 sl0 (FrP.refl _ _)
def PTC (t n a j : Nat) : Prop := PTX t n a j ∨ a = 39
theorem PTC_V {t n a j : Nat} (h : PTC t n a j) : (39 :: VX).contains a = true := by
  rcases h with ((⟨h, _⟩ | ⟨h | h | h, _⟩) | ⟨h | h, _⟩) | h <;> (rw [h]; rfl)
theorem TrX.frC {L : Lv} {σ σ' : St} {t : Nat} {l : List Nat} (h : TrX L σ l) (f : FrP (PTC t l.length) σ σ') : TrX L σ' l := by
  have key : ∀ a j, a = 55 ∨ a = 53 ∨ a = 54 ∨ a = 56 → ¬ PTX t l.length a j → σ'.1 a j = σ.1 a j ∧ σ'.2 a j = σ.2 a j := fun a j h1 h2 => f a j (fun q => q.elim h2 (fun q => by rcases h1 with h | h | h | h <;> (rw [h] at q; cases q)))
  have n55 : ∀ j, j < l.length → ¬ PTX t l.length 55 j := fun j hj q => by
    rcases q with (⟨_, q⟩ | ⟨q | q | q, _⟩) | ⟨q | q, _⟩
    · omega
    · cases q
    · cases q
    · cases q
    · cases q
    · cases q
  have n3 : ∀ a j, a ≠ 55 → a ≠ 51 → a ≠ 52 → j ≤ l.length → ¬ PTX t l.length a j := fun a j ha h1 h2 hj q => by
    rcases q with (⟨q, _⟩ | ⟨_, q⟩) | ⟨q | q, _⟩
    · exact ha q
    · omega
    · exact h1 q
    · exact h2 q
  refine ⟨fun j hj => by rw [(key 55 j (by decide) (n55 j hj)).1]; exact h.1 j hj, fun j hj => ?_⟩
  obtain ⟨h1, h2, h3⟩ := h.2 j hj
  refine ⟨by rw [(key 53 j (by decide) (n3 53 j (by decide) (by decide) (by decide) hj)).1]; exact h1, by rw [(key 54 j (by decide) (n3 54 j (by decide) (by decide) (by decide) hj)).2]; exact h2, ?_⟩
  unfold FwX at h3 ⊢
  rw [(key 56 j (by decide) (n3 56 j (by decide) (by decide) (by decide) hj)).1]; exact h3
theorem MemoX.fr {L : Lv} {T : Tv} {σ σ' : St} {V : List Nat} (h : MemoX L T σ) (f : Fr V σ σ') (hv : V.contains 39 = false) : MemoX L T σ' := fun S hS R hR => by
  rw [f.i 39 hv]; exact h S hS R hR
theorem x_tryCovers {N : Nat} (hN : 802 < N) {L : Lv} (hL : LOk L) {T : Tv} (hT : TvOk T) {t : Nat} (ht : t < 40) : ∀ (D m R S : Nat) (pre : List Nat) (σ : St) (P : List (List Nat)), 9 ≤ D + m → Rch L T m R S → (m = 0 → S = 0) → pre.length = m → (∀ s, s ∈ pre → s < L.n) → SPX σ 1 L T → MemoX L T σ → TrX L σ pre → SlX σ t L P →
    ok (f_X2_tryCovers N D (nI R) (nI S) (nI m) σ) (fun σ' => SlX σ' t L (P ++ spp L T pre (cv L T R S)) ∧ SPX σ' 1 L T ∧ MemoX L T σ' ∧ FrP (PTC t m) σ σ') := by
  have h40 := hL.1
  intro D
  induction D with
  | zero => intro m R S pre σ P h9 hr; have := (Rch_S hL hT hr).2.1; omega
  | succ D ih =>
    intro m R S pre σ0 P h9 hr hm0 hpl hpe sx0 mx0 tr0 sl0
    have hS := Rch_S hL hT hr
    have loop : ∀ (k fuel s : Nat) (σ : St), L.n - s = k → k < fuel → s ≤ L.n → SPX σ 1 L T → MemoX L T σ → FrP (PTC t m) σ0 σ → SlX σ t L (P ++ spp L T pre (cvp L T R S s)) → ok (f_X2_tryCovers_20 N (f_X2_tryCovers N D) fuel (nI R) (nI S) (nI m) (nI s) σ) (fun σ' => SlX σ' t L (P ++ spp L T pre (cv L T R S)) ∧ SPX σ' 1 L T ∧ MemoX L T σ' ∧ FrP (PTC t m) σ0 σ') := by
      intro k
      induction k with
      | zero =>
        intro fuel s σ hk hf hs sx mx f sl
        obtain ⟨fuel, rfl⟩ : ∃ f, fuel = f + 1 := ⟨fuel - 1, by omega⟩
        have e : s = L.n := by omega
        subst e
        have e0 : σ.1 1200 0 = nI L.n := sx.2.2.1.1
        rw [f_X2_tryCovers_20, e0, if_pos (nI_le (by omega) (by omega)), ok_some]
        rw [← cv_eq hL hT hr] at sl
        exact ⟨sl, sx, mx, f⟩
      | succ k ihk =>
        intro fuel s σ hk hf hs sx mx f sl
        obtain ⟨fuel, rfl⟩ : ∃ f, fuel = f + 1 := ⟨fuel - 1, by omega⟩
        have hs' : s < L.n := by omega
        have e0 : σ.1 1200 0 = nI L.n := sx.2.2.1.1
        have e7 : σ.1 7 s = nI (L.c s) := (sx.2.2.1.2.1 s hs').2.2.2.2.1
        rw [f_X2_tryCovers_20, e0, if_neg (nI_ge (by omega) (by omega)), if_neg (show ¬ (12 : Int32) ≤ nI m from nI_ge (b := 12) (by omega) (by omega)), x_step hN sx hL hT hr.1 (by omega) hs', bo_some, ib_n (a := s) (by omega), decide_eq_true (show s < 40 by omega), grd_true, ncl (a := s) (by omega), e7, nI_1]
        by_cases e1 : stp L T R S s = 0
        · rw [e1, if_pos (show nI 0 = (0 : Int32) from rfl)]
          refine ihk fuel (s + 1) σ (by omega) (by omega) (by omega) sx mx f ?_
          rw [cvp_succ, cvn, if_pos e1, List.append_nil]; exact sl
        · have r1 := Rch_stp hL hs' hr e1
          have b1 := Rch_S hL hT r1.1
          rw [if_neg (nI_ne0 (by omega) (by omega)), nadd, nI_1]
          refine ok_bd_of (x_cb hN hL hT 20 (m + 1) _ _ (m + 1) σ r1.1 (by omega) (by omega) sx mx) (fun v σ1 ⟨y1, y2, y3⟩ => ?_)
          have y1' : v = nI (min 100001 (cv L T (stp L T R S s) (S + L.c s)).length) := y1
          have f1 : FrP (PTC t m) σ σ1 := y3.toP (fun a j h => Or.inr (by
            have : a ∈ ([39] : List Nat) := List.contains_iff_mem.mp h
            exact List.mem_singleton.mp this))
          have sl1 : SlX σ1 t L (P ++ spp L T pre (cvp L T R S s)) := sl.fr (fun a j h => y3 a (by rcases h with h | h | h <;> (rw [h]; rfl)) |>.imp (fun h => by rw [h]) (fun h => by rw [h]))
          rw [y1']
          by_cases e2 : (cv L T (stp L T R S s) (S + L.c s)).length = 0
          · rw [e2, if_pos (show nI (min 100001 0) ≤ (0 : Int32) by decide)]
            refine ihk fuel (s + 1) σ1 (by omega) (by omega) (by omega) (SPX_fr sx y3 rfl) y2 (f.trans f1) ?_
            rw [cvp_succ, cvn, if_neg e1, List.length_eq_zero_iff.mp e2, List.map_nil, List.append_nil]; exact sl1
          · rw [if_neg (show ¬ nI (min 100001 (cv L T (stp L T R S s) (S + L.c s)).length) ≤ (0 : Int32) from nI_ge (a := 0) (by omega) (by omega))]
            have sx1 := SPX_fr sx y3 rfl
            have ff := f.trans f1
            rw [← hpl] at ff
            have pt := x_putTrial hN hL sx1.2.2.1 (l := pre) (by omega) hpe (tr0.frC ff) hs'
            rw [hpl] at pt
            refine ok_bo_of pt (fun σ2 ⟨z1, z2⟩ => ?_)
            have f2 : FrP (PTC t m) σ1 σ2 := z2.wide (fun a j h => Or.inl (Or.inl h))
            have F2 : Fr VX σ1 σ2 := z2.toFr (V := VX) (fun a j h => PTX_V (t := t) (Or.inl h))
            have e9 : (pre ++ [s]).length = m + 1 := by rw [List.length_append, List.length_singleton, hpl]
            refine ok_bo_of (ih (m + 1) _ _ (pre ++ [s]) σ2 (P ++ spp L T pre (cvp L T R S s)) (by omega) r1.1 (fun h => absurd h (by omega)) e9 (GL_app hpe (fun x hx => by rw [List.mem_singleton.mp hx]; exact hs')) (SPX_fr sx1 F2 rfl) (y2.fr F2 rfl) z1 (sl1.fr (fun a j h => z2 a j (PT_sl h)))) (fun σ3 ⟨w1, w2, w3, w4⟩ => ?_)
            refine ihk fuel (s + 1) σ3 (by omega) (by omega) (by omega) w2 w3 (((f.trans f1).trans f2).trans (w4.wide (fun a j h => h.imp PTX_up id))) ?_
            rw [cvp_succ, spp_app, ← List.append_assoc]
            have : spp L T pre (cvn L T R S s) = spp L T (pre ++ [s]) (cv L T (stp L T R S s) (S + L.c s)) := by
              unfold cvn; rw [if_neg e1, spp_cons]
            rw [this]; exact w1
    rw [f_X2_tryCovers]
    unfold f_X2_tryCovers_b
    rw [x_isCover sx0 hL hT hS.2.2.2.1 (by omega)]
    cases hc : isCov L T R S with
    | false =>
      rw [if_pos (show b2 false = 0 from rfl)]
      exact loop L.n N 0 σ0 (by omega) (by omega) (by omega) sx0 mx0 (FrP.refl _ _) (by rw [cvp_0, cvh, hc, if_neg (by decide), spp_nil, List.append_nil]; exact sl0)
    | true =>
      rw [if_neg (show ¬ b2 true = 0 by decide)]
      have tb := x_tryBody hN hL (T := T) ht (l := pre) (by omega) hpe sx0 tr0 sl0
      rw [hpl] at tb
      refine ok_bo_of tb (fun σ1 ⟨z1, z2, z3⟩ => ?_)
      refine loop L.n N 0 σ1 (by omega) (by omega) (by omega) z2 (mx0.fr (z3.toFr (V := VX) (fun a j h => PTX_V h)) rfl) (z3.wide (fun a j h => Or.inl h)) ?_
      rw [cvp_0, cvh, hc, if_pos rfl]
      have : spp L T pre [[]] = kds L T pre := by
        unfold spp
        rw [List.map_cons, List.map_nil, List.flatMap_cons, List.flatMap_nil, List.append_nil, List.append_nil]
      rw [this]; exact z1
