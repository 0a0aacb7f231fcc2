/-! fill, the reference: the best for each number of BLOCKS -/
theorem FitP_keep {τ : St} {q b : Nat} {L : Lv} {P : List (List Nat)} {l : List Nat} (h : FitP τ q L (fun x => x ∈ P ∧ Bk L x b)) (hl : Bk L l b → ∃ l0, (l0 ∈ P ∧ Bk L l0 b) ∧ kle L l0 l) : FitP τ q L (fun x => x ∈ P ++ [l] ∧ Bk L x b) := by
  rcases h with ⟨h1, h2⟩ | ⟨l0, h1, h2, h3, h4, h5, h6, h7⟩
  · refine Or.inl ⟨h1, fun x hx => ?_⟩
    rcases List.mem_append.mp hx.1 with q | q
    · exact h2 x ⟨q, hx.2⟩
    · have e := List.mem_singleton.mp q
      rw [e] at hx
      obtain ⟨l0, k, _⟩ := hl hx.2
      exact h2 l0 k
  · refine Or.inr ⟨l0, ⟨List.mem_append.mpr (Or.inl h1.1), h1.2⟩, h2, h3, h4, h5, h6, fun x hx => ?_⟩
    rcases List.mem_append.mp hx.1 with q | q
    · exact h7 x ⟨q, hx.2⟩
    · have e := List.mem_singleton.mp q
      rw [e] at hx ⊢
      obtain ⟨l1, k1, k2⟩ := hl hx.2
      exact kle_trans (h7 l1 k1) k2
theorem KF_ok {N : Nat} (hN : 802 < N) {L : Lv} (hL : LOk L) {T : Tv} {t i : Nat} (hi : i < 12) (τ0 : St) : KOk N L T t (KF L i τ0) := by
  refine ⟨fun τ τ' P f kf => ?_, fun τ P l ms g h1 h9 h60 rs kf => ?_⟩
  · obtain ⟨k1, k2, k3⟩ := kf
    have e : ∀ a j, a = 58 ∨ a = 59 ∨ a = 60 ∨ a = 1091 → τ'.1 a j = τ.1 a j := fun a j h => (f a j (fun q => by
      rcases q with q | q | q | q <;> rcases h with h | h | h | h <;> (rw [q] at h; cases h))).1
    refine ⟨by rw [e 1091 0 (by decide)]; exact k1, fun b hb => (k2 b hb).eq (e 58 _ (by decide)) (e 59 _ (by decide)) (fun j _ => e 60 _ (by decide)), fun q hq => ?_⟩
    rw [e 58 _ (by decide), e 59 _ (by decide)]
    exact ⟨(k3 q hq).1, (k3 q hq).2.1, fun j hj => by rw [e 60 _ (by decide)]; exact (k3 q hq).2.2 j hj⟩
  · have h40 := hL.1
    have g64 : ∀ s, s ∈ l → s < 64 := fun s hs => by have := g.2 s hs; omega
    unfold f_X12_spellingComes
    rw [h60]
    refine ok_bd_of (m_groups (r := 39) (rn := 12) (N := N) hN rfl (by omega) hL (g := gl l) (n := l.length) (by omega) ms.2.2 (fun j hj => ⟨g.2 _ (gl_mem hj), rs j hj⟩)) (fun r τ1 ⟨y1, f1⟩ => ?_)
    have kf1 : KF L i τ0 τ1 P := by
      obtain ⟨k1, k2, k3⟩ := kf
      refine ⟨by rw [f1.i 1091 rfl]; exact k1, fun b hb => (k2 b hb).eq (by rw [f1.i 58 rfl]) (by rw [f1.i 59 rfl]) (fun j _ => by rw [f1.i 60 rfl]), fun q hq => ?_⟩
      rw [f1.i 58 rfl, f1.i 59 rfl]
      exact ⟨(k3 q hq).1, (k3 q hq).2.1, fun j hj => by rw [f1.i 60 rfl]; exact (k3 q hq).2.2 j hj⟩
    obtain ⟨k1, k2, k3⟩ := kf1
    rcases y1 with ⟨a1, a2⟩ | ⟨v, a1, a2, a3⟩
    · have a1' : r = nI 1000000000 := a1
      rw [a1', if_neg (show ¬ nI 1000000000 < (1000000000 : Int32) by decide), ok_some]
      exact ⟨⟨k1, fun b hb => FitP_keep (k2 b hb) (fun h => absurd h.1 (a2 b)), k3⟩, f1.wide rfl⟩
    · have a1' : r = nI v := a1
      have vn := hasG_le a2
      have bk : Bk L l v := ⟨a2, a3⟩
      have h601 : τ1.1 1060 0 = nI l.length := by rw [f1.i 1060 rfl]; exact h60
      have rs1 : RowS τ1 l := fun j hj => by rw [f1.i 39 rfl]; exact rs j hj
      have lm1 := LM_fr ms.2.2 f1 rfl
      have eq : 13 * nI i + nI v = nI (13 * i + v) := by rw [show (13 : Int32) = nI 13 from rfl, nmul, nadd]
      have hq : 13 * i + v < 156 := by omega
      have pl := pnt_le hL g.2
      have pp := pnt_pos hL g h1
      have e37 := m_sc37 (N := N) hL g lm1 h601 rs1 (nI (13 * i + v)) l.length N 0 (by omega) (by omega) (by omega)
      have e37' : f_X12_spellingComes_37 N N (nI (13 * i + v)) 0 0 τ1 = _ := e37
      obtain ⟨M, hM⟩ : ∃ M, N - l.length = M + 1 := ⟨N - l.length - 1, by omega⟩
      rw [a1', k1, eq, if_pos (show nI v < (1000000000 : Int32) from nI_lt (b := 1000000000) (by omega) (by omega)), e37', hM, f_X12_spellingComes_37, h601, if_pos (nI_le (Nat.le_refl _) (by omega)), ib_n (a := 13 * i + v) (by omega), decide_eq_true hq, ncl (a := 13 * i + v) (by omega)]
      simp only [grd_true]
      have others : ∀ τ2 : St, τ2.1 1091 0 = τ1.1 1091 0 → (∀ q, q ≠ 13 * i + v → τ2.1 58 q = τ1.1 58 q ∧ τ2.1 59 q = τ1.1 59 q ∧ ∀ j, j < 12 → τ2.1 60 (12 * q + j) = τ1.1 60 (12 * q + j)) → FitP τ2 (13 * i + v) L (fun x => x ∈ P ++ [l] ∧ Bk L x v) → KF L i τ0 τ2 (P ++ [l]) := by
        intro τ2 o1 o2 o3
        refine ⟨by rw [o1]; exact k1, fun b hb => ?_, fun q hq => ?_⟩
        · by_cases e : b = v
          · rw [e]; exact o3
          · have := o2 (13 * i + b) (by omega)
            exact FitP_keep ((k2 b hb).eq this.1 this.2.1 this.2.2) (fun h => absurd (Bk_uni h bk) e)
        · have := o2 q (by omega)
          rw [this.1, this.2.1]
          exact ⟨(k3 q hq).1, (k3 q hq).2.1, fun j hj => by rw [this.2.2 j hj]; exact (k3 q hq).2.2 j hj⟩
      have stay : (∃ l0, (l0 ∈ P ∧ Bk L l0 v) ∧ kle L l0 l) → ok (f_X12_spellingComes_226 N (nI (13 * i + v)) (nI (pnt L l)) 0 τ1) (fun τ' => KF L i τ0 τ' (P ++ [l]) ∧ Fr VK τ τ') := by
        intro h
        unfold f_X12_spellingComes_226
        rw [if_pos rfl, ok_some]
        exact ⟨others τ1 rfl (fun q _ => ⟨rfl, rfl, fun j _ => rfl⟩) (FitP_keep (k2 v (by omega)) (fun _ => h)), f1.wide rfl⟩
      have wr : (∀ x, x ∈ P ∧ Bk L x v → kle L l x) → ok (f_X12_spellingComes_226 N (nI (13 * i + v)) (nI (pnt L l)) 1 τ1) (fun τ' => KF L i τ0 τ' (P ++ [l]) ∧ Fr VK τ τ') := by
        intro h
        unfold f_X12_spellingComes_226
        rw [if_neg one_ne, ib_n (a := 13 * i + v) (by omega), decide_eq_true hq, ncl (a := 13 * i + v) (by omega), h601]
        simp only [grd_true]
        have F2 : FrP (fun a x => (a = 58 ∨ a = 59) ∧ x = 13 * i + v) τ1 (si (si τ1 58 (13 * i + v) (nI (pnt L l))) 59 (13 * i + v) (nI l.length)) := ((FrP.refl _ _).si _ _ _ ⟨Or.inl rfl, rfl⟩).si _ _ _ ⟨Or.inr rfl, rfl⟩
        have w1 : (si (si τ1 58 (13 * i + v) (nI (pnt L l))) 59 (13 * i + v) (nI l.length)).1 58 (13 * i + v) = nI (pnt L l) := by simp only [si_rd, reduceIte, Nat.reduceEqDiff]
        have w2 : (si (si τ1 58 (13 * i + v) (nI (pnt L l))) 59 (13 * i + v) (nI l.length)).1 59 (13 * i + v) = nI l.length := by simp only [si_rd, reduceIte, Nat.reduceEqDiff]
        generalize si (si τ1 58 (13 * i + v) (nI (pnt L l))) 59 (13 * i + v) (nI l.length) = τ2 at *
        have h602 : τ2.1 1060 0 = nI l.length := by rw [(F2 1060 0 (fun q => by rcases q.1 with q | q <;> cases q)).1]; exact h601
        have rs2 : RowS τ2 l := fun j hj => by rw [(F2 39 j (fun q => by rcases q.1 with q | q <;> cases q)).1]; exact rs1 j hj
        have l3 := m_sc253 (N := N) (l := l) (by omega) hq h602 rs2 l.length N 0 τ2 (by omega) (by omega) (by omega) (fun i hi => absurd hi (by omega)) (FrP.refl _ _)
        have l3' : ok (f_X12_spellingComes_253 N N (nI (13 * i + v)) 0 τ2) _ := l3
        refine l3'.mono (fun τ3 ⟨z1, z2⟩ => ⟨others τ3 ?_ (fun q hq => ⟨?_, ?_, fun j hj => ?_⟩) (Or.inr ⟨l, ⟨List.mem_append.mpr (Or.inr (List.mem_singleton.mpr rfl)), bk⟩, g, h1, ?_, ?_, z1, fun x hx => ?_⟩), ?_⟩)
        · rw [(z2 1091 0 (fun q => (nomatch q.1))).1, (F2 1091 0 (fun q => by rcases q.1 with q | q <;> cases q)).1]
        · rw [(z2 58 q (fun q => (nomatch q.1))).1, (F2 58 q (fun h => hq h.2)).1]
        · rw [(z2 59 q (fun q => (nomatch q.1))).1, (F2 59 q (fun h => hq h.2)).1]
        · rw [(z2 60 (12 * q + j) (fun h => by have := h.2; omega)).1, (F2 60 _ (fun q => by rcases q.1 with q | q <;> cases q)).1]
        · rw [(z2 58 _ (fun q => (nomatch q.1))).1]; exact w1
        · rw [(z2 59 _ (fun q => (nomatch q.1))).1]; exact w2
        · rcases List.mem_append.mp hx.1 with q | q
          · exact h x ⟨q, hx.2⟩
          · rw [List.mem_singleton.mp q]; exact kle_refl _ _
        · exact (f1.wide rfl).trans (((F2.toFr (V := [58, 59]) (fun a j h => by rcases h.1 with h | h <;> (rw [h]; rfl))).wide rfl).trans ((z2.toFr (V := [60]) (fun a j h => by rw [h.1]; rfl)).wide rfl))
      rcases k2 v (by omega) with ⟨b1, b2'⟩ | ⟨l0, b1, b2', b3, b4, b5, b6, b7⟩
      · rw [b1, if_pos rfl]
        unfold f_X12_spellingComes_117
        rw [if_neg one_ne]
        exact wr (fun x hx => absurd hx (b2' x))
      · have pl0 := pnt_le hL b2'.2
        have pp0 := pnt_pos hL b2' b3
        have c1 := cst_eq L l
        have c2 := cst_eq L l0
        have l10 := b2'.1
        have win : cst L l < cst L l0 ∨ (cst L l = cst L l0 ∧ cde l ≤ cde l0) → ∀ x, x ∈ P ∧ Bk L x v → kle L l x := fun h x hx => kle_trans h (b7 x hx)
        have lose : kle L l0 l → ∃ l0, (l0 ∈ P ∧ Bk L l0 v) ∧ kle L l0 l := fun h => ⟨l0, b1, h⟩
        rw [b4, b5, if_neg (nI_ne0 (by omega) (by omega))]
        unfold f_X12_spellingComes_117
        rw [if_neg one_ne, if_pos rfl, ib_n (a := 13 * i + v) (by omega), decide_eq_true hq, ncl (a := 13 * i + v) (by omega), b4, b5, h601]
        simp only [grd_true]
        by_cases q1 : pnt L l < pnt L l0
        · rw [if_pos (nI_lt q1 (by omega))]
          exact wr (win (Or.inl (by omega)))
        · rw [if_neg (nI_nlt (by omega) (by omega))]
          by_cases q2 : pnt L l = pnt L l0
          · have q2' : nI (pnt L l) = nI (pnt L l0) := by rw [q2]
            rw [if_pos q2']
            by_cases q3 : l0.length ≤ l.length
            · rw [if_pos (nI_le q3 (by omega)), if_pos q2']
              by_cases q4 : l.length = l0.length
              · have e151 := m_sc151 (N := N) (L := L) (l := l) (l0 := l0) g.1 q4.symm g64 (fun s hs => by have := b2'.2 s hs; omega) hq h601 rs1 b6 (nI (pnt L l)) l.length N 0 (by omega) (by omega) (by omega) (fun i hi => absurd hi (by omega))
                have e151' : f_X12_spellingComes_151 N N (nI (13 * i + v)) (nI (pnt L l)) 0 τ1 = _ := e151
                rw [if_pos (show nI l.length = nI l0.length by rw [q4]), e151']
                by_cases q5 : cde l < cde l0
                · rw [if_pos q5]
                  exact wr (win (Or.inr ⟨by omega, by omega⟩))
                · rw [if_neg q5]
                  exact stay (lose (Or.inr ⟨by omega, by omega⟩))
              · rw [if_neg (fun h => q4 ((neq (by omega) (by omega)).mp h))]
                exact stay (lose (Or.inl (by omega)))
            · rw [if_neg (nI_ge (by omega) (by omega))]
              exact wr (win (Or.inl (by omega)))
          · rw [if_neg (fun h => q2 ((neq (by omega) (by omega)).mp h)), if_neg (fun h => q2 ((neq (by omega) (by omega)).mp h))]
            exact stay (lose (Or.inl (by omega)))
