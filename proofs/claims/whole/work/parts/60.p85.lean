/-! fill, the class: TERMS settled -/
def PTS (t a j : Nat) : Prop := ([10213, 55, 53, 54, 56, 39, 8601, 8602, 8603, 8604, 8605, 8606] : List Nat).contains a = true ∨ PSl t a j
abbrev VTS : List Nat := [10213, 55, 53, 54, 56, 39, 8601, 8602, 8603, 8604, 8605, 8606, 51, 52]
theorem PTS_V {t a j : Nat} (h : PTS t a j) : VTS.contains a = true := by
  rcases h with h | ⟨h | h, _⟩
  · have key : ∀ a, a ∈ ([10213, 55, 53, 54, 56, 39, 8601, 8602, 8603, 8604, 8605, 8606] : List Nat) → VTS.contains a = true := by decide
    exact key a (List.contains_iff_mem.mp h)
  · rw [h]; rfl
  · rw [h]; rfl
theorem PTC_TS {t n a j : Nat} (h : PTC t n a j) : PTS t a j := by
  rcases h with ((⟨h, _⟩ | ⟨h | h | h, _⟩) | h) | h
  · exact Or.inl (by rw [h]; rfl)
  · exact Or.inl (by rw [h]; rfl)
  · exact Or.inl (by rw [h]; rfl)
  · exact Or.inl (by rw [h]; rfl)
  · exact Or.inr h
  · exact Or.inl (by rw [h]; rfl)
theorem x_emptySlots {N : Nat} (hN : 802 < N) {σ0 : St} {t : Nat} (h40 : t < 40) : ok (f_X2_emptySlots N (nI t) σ0) (fun σ' => σ'.1 10213 0 = nI (t * 13) ∧ (∀ b, b < 13 → σ'.1 51 (t * 13 + b) = 2147483647) ∧ FrP (PTS t) σ0 σ') := by
  have key : ∀ (k fuel i : Nat) (σ : St), 13 - i = k → k < fuel → i ≤ 13 → σ.1 10213 0 = nI (t * 13) → (∀ b, b < i → σ.1 51 (t * 13 + b) = 2147483647) → FrP (PTS t) σ0 σ → ok (f_X2_emptySlots_10 N fuel (nI i) σ) (fun σ' => σ'.1 10213 0 = nI (t * 13) ∧ (∀ b, b < 13 → σ'.1 51 (t * 13 + b) = 2147483647) ∧ FrP (PTS t) σ0 σ') := by
    intro k
    induction k with
    | zero =>
      intro fuel i σ hk hf hi h13 hz f
      obtain ⟨fuel, rfl⟩ : ∃ f, fuel = f + 1 := ⟨fuel - 1, by omega⟩
      have e : i = 13 := by omega
      subst e
      rw [f_X2_emptySlots_10, if_pos (show (13 : Int32) ≤ nI 13 by decide), ok_some]
      exact ⟨h13, hz, f⟩
    | succ k ih =>
      intro fuel i σ hk hf hi h13 hz f
      obtain ⟨fuel, rfl⟩ : ∃ f, fuel = f + 1 := ⟨fuel - 1, by omega⟩
      rw [f_X2_emptySlots_10, if_neg (show ¬ (13 : Int32) ≤ nI i from nI_ge (b := 13) (by omega) (by omega)), h13, nadd, ib_n (by omega), decide_eq_true (show t * 13 + i < 520 by omega), grd_true, ncl (by omega), nI_1]
      refine ih fuel (i + 1) _ (by omega) (by omega) (by omega) (by rw [si_rd, if_neg (by decide)]; exact h13) (fun b hb => ?_) (f.si _ _ _ (Or.inr ⟨Or.inl rfl, by omega, by omega⟩))
      rw [si_rd, if_pos rfl]
      by_cases e : b = i
      · rw [if_pos (by omega)]
      · rw [if_neg (by omega)]; exact hz b (by omega)
  unfold f_X2_emptySlots
  have e13 : nI t * 13 = nI (t * 13) := by rw [show (13 : Int32) = nI 13 from rfl, nmul]
  rw [e13]
  exact key 13 N 0 _ (by omega) (by omega) (by omega) (by rw [si_rd, if_pos rfl, if_pos rfl]) (fun b hb => absurd hb (by omega)) ((FrP.refl _ _).si _ _ _ (Or.inl rfl))
theorem x_trySpellings {N : Nat} (hN : 802 < N) {σ : St} {L : Lv} (hL : LOk L) {nt t : Nat} {T : Nat → Tv} (hT : TOk nt T) (hx : LX 1 σ L) (tx : TX σ nt T) (ht : t < nt) (h13 : σ.1 10213 0 = nI (t * 13)) (hz : ∀ b, b < 13 → σ.1 51 (t * 13 + b) = 2147483647) : ok (f_X2_trySpellings N (nI t) σ) (fun σ' => SlotX σ' t L (T t) ∧ FrP (PTS t) σ σ') := by
  have h40 := hT.1
  have tv : TvOk (T t) := hT.2 t ht
  unfold f_X2_trySpellings
  rw [show ib 0 13 = true from rfl]
  simp only [grd_true]
  have f1 : FrP (PTS t) σ (si (sl (si σ 53 0 0) 54 0 0) 56 0 0) := (((FrP.refl _ _).si _ _ _ (Or.inl rfl)).sl _ _ _ (Or.inl rfl)).si _ _ _ (Or.inl rfl)
  have F1 : Fr [53, 54, 56] σ (si (sl (si σ 53 0 0) 54 0 0) 56 0 0) := (((Fr.refl _ _).si _ _ _ rfl).sl _ _ _ rfl).si _ _ _ rfl
  have w1 : (si (sl (si σ 53 0 0) 54 0 0) 56 0 0).1 53 0 = 0 := by simp only [sl_1, si_rd, reduceIte, Nat.reduceEqDiff]
  have w2 : (si (sl (si σ 53 0 0) 54 0 0) 56 0 0).2 54 0 = 0 := by rw [si_2, sl_rd, if_pos rfl, if_pos rfl]
  have w3 : (si (sl (si σ 53 0 0) 54 0 0) 56 0 0).1 56 0 = 0 := by simp only [sl_1, si_rd, reduceIte, Nat.reduceEqDiff]
  generalize si (sl (si σ 53 0 0) 54 0 0) 56 0 0 = σ1 at *
  have ff := f1.toFr (V := VTS) (fun a j h => PTS_V h)
  refine ok_bo_of (x_look (Or.inl rfl) (LX_fr (Or.inl rfl) hx ff rfl) (tx.fr ff rfl) h40 ht) (fun σ2 ⟨sx, f2⟩ => ?_)
  unfold f_X7_forgetCovers
  obtain ⟨σ3, e3, z3, f3⟩ := x_fill (r0 := 39) (rn0 := 384) (N := N) (x := -1) (σ := σ2) (by omega) (by omega)
  rw [e3, bo_some, bo_some]
  have sx3 := SPX_fr sx f3 rfl
  have tr3 : TrX L σ3 [] := by
    refine ⟨fun j hj => absurd hj (by show ¬ j < 0; omega), fun j hj => ?_⟩
    have : j = 0 := by have : j ≤ 0 := hj; omega
    subst this
    refine ⟨by rw [f3.i 53 rfl, f2.i 53 rfl, w1]; rfl, by rw [f3.l 54 rfl, f2.l 54 rfl, w2]; rfl, Or.inr ⟨0, by rw [f3.i 56 rfl, f2.i 56 rfl, w3]; rfl, rfl, fun b _ => Nat.zero_le _⟩⟩
  have sl3 : SlX σ3 t L [] := by
    refine ⟨by rw [f3.i 10213 rfl, f2.i 10213 rfl, F1.i 10213 rfl]; exact h13, fun b hb => Or.inl ⟨by rw [f3.i 51 rfl, f2.i 51 rfl, F1.i 51 rfl]; exact hz b hb, fun l h => absurd h.1 List.not_mem_nil⟩⟩
  have F3 : FrP (PTS t) σ1 σ3 := (f2.toP (fun a j h => Or.inl (by
    have key : ∀ a, a ∈ VS → ([10213, 55, 53, 54, 56, 39, 8601, 8602, 8603, 8604, 8605, 8606] : List Nat).contains a = true := by decide
    exact key a (List.contains_iff_mem.mp h)))).trans (f3.toP (fun a j h => Or.inl (by
    have : a ∈ ([39] : List Nat) := List.contains_iff_mem.mp h
    rw [List.mem_singleton.mp this]; rfl)))
  refine ok_bo_of (x_tryIdeas hN hL tv (show t < 40 by omega) sx3 tr3 sl3) (fun σ4 ⟨y1, y2, y3⟩ => ?_)
  have mx4 : MemoX L (T t) σ4 := fun S hS R hR => Or.inl (by
    rw [(y3 39 _ (fun q => by rcases q with (⟨q, _⟩ | ⟨q | q | q, _⟩) | ⟨q | q, _⟩ <;> cases q)).1]
    exact z3 _ (by omega))
  have tc := x_tryCovers (N := N) hN hL tv (show t < 40 by omega) 20 0 1 0 [] σ4 _ (by omega) Rch_1 (fun _ => rfl) rfl (fun s hs => (nomatch hs)) y2 mx4 (tr3.frX y3) y1
  have tc' : ok (f_X2_tryCovers N 20 1 0 0 σ4) _ := tc
  refine ok_bo_of tc' (fun σ5 ⟨v1, v2, v3, v4⟩ => ?_)
  rw [ok_some]
  have es : (idb L (T t)).flatMap (kds L (T t)) ++ spp L (T t) [] (cv L (T t) 1 0) = sps L (T t) := by
    unfold sps bod spp
    rw [List.flatMap_append]
    congr 1
    rw [show (fun l : List Nat => [] ++ l) = id from funext fun l => List.nil_append l, List.map_id]
  rw [es] at v1
  exact ⟨v1.2, ((f1.trans F3).trans (y3.wide (fun a j h => PTC_TS (n := 0) (Or.inl h)))).trans (v4.wide (fun a j h => PTC_TS h))⟩
abbrev VSet : List Nat := [47, 8601, 8602, 8603, 8604, 8605, 8606, 39, 48, 10213, 55, 53, 54, 56, 51, 52]
theorem SlotX.frP {σ σ' : St} {t t' : Nat} {L : Lv} {T : Tv} (h : SlotX σ t' L T) (ne : t' ≠ t) (f : FrP (PTS t) σ σ') : SlotX σ' t' L T := h.eq (fun b hb => by
  have q : ∀ a, a = 51 ∨ a = 52 → ¬ PTS t a (t' * 13 + b) := fun a ha q => by
    rcases q with q | ⟨_, q⟩
    · rcases ha with h | h <;> (rw [h] at q; cases q)
    · omega
  exact ⟨(f 51 _ (q 51 (Or.inl rfl))).1, (f 52 _ (q 52 (Or.inr rfl))).2⟩)
theorem x_settle1 {N : Nat} (hN : 802 < N) {σ : St} {L : Lv} (hL : LOk L) {nt t : Nat} {T : Nat → Tv} (hT : TOk nt T) (hx : LX 1 σ L) (tx : TX σ nt T) (rc : RCache σ L nt T) (ht : t < nt) : ∃ b σ1, f_X2_isNew (nI t) 4 σ = some (b2 b, σ1) ∧ Fr [47] σ σ1 ∧ ((b = false ∧ RCache σ1 L nt T ∧ SlotX σ1 t L (T t) ∧ FrP (fun a j => a = 47 ∨ PTS t a j) σ σ1) ∨ (b = true ∧ ok (f_X2_emptySlots N (nI t) σ1) (fun σ2 => Fr VTS σ1 σ2 ∧ ((sps L (T t)).length = 0 → RCache σ2 L nt T ∧ SlotX σ2 t L (T t) ∧ FrP (fun a j => a = 47 ∨ PTS t a j) σ σ2) ∧ ok (f_X2_trySpellings N (nI t) σ2) (fun σ' => RCache σ' L nt T ∧ SlotX σ' t L (T t) ∧ FrP (fun a j => a = 47 ∨ PTS t a j) σ σ')))) := by
  have h40 := hT.1
  obtain ⟨K, k1, k2, k3, k4, k5, k6⟩ := rc t (by omega)
  have nw := x_isNew (b := 2) (show t < 40 by omega) k1 (by omega) k2
  have f0 : Fr [47] σ (si σ 47 t (nI (K ||| 2 ^ 2))) := (Fr.refl _ _).si _ _ _ rfl
  refine ⟨!K.testBit 2, _, nw, f0, ?_⟩
  have fp0 : FrP (fun a j => a = 47 ∨ PTS t a j) σ (si σ 47 t (nI (K ||| 2 ^ 2))) := (FrP.refl _ _).si _ _ _ (Or.inl rfl)
  cases hb : K.testBit 2 with
  | true =>
    have e0 : K ||| 2 ^ 2 = K := by
      apply Nat.eq_of_testBit_eq
      intro i
      rw [Nat.testBit_or, Nat.testBit_two_pow]
      by_cases e : 2 = i
      · subst e; rw [hb]; rfl
      · rw [decide_eq_false e, Bool.or_false]
    have same : ∀ j, (si σ 47 t (nI (K ||| 2 ^ 2))).1 47 j = σ.1 47 j := fun j => by
      rw [si_rd, if_pos rfl, e0]
      by_cases e : j = t
      · rw [if_pos e, e, k2]
      · rw [if_neg e]
    refine Or.inl ⟨rfl, fun t' h' => ?_, (k6 hb).eq (fun b _ => ⟨by rw [f0.i 51 rfl], by rw [f0.l 52 rfl]⟩), fp0⟩
    obtain ⟨K', a1, a2, a3, a4, a5, a6⟩ := rc t' h'
    exact ⟨K', a1, by rw [same]; exact a2, a3, fun b => (a4 b).eq (by rw [f0.i 48 rfl]), fun b => (a5 b).eq (by rw [f0.i 49 rfl]) (by rw [f0.l 50 rfl]), fun b => (a6 b).eq (fun b _ => ⟨by rw [f0.i 51 rfl], by rw [f0.l 52 rfl]⟩)⟩
  | false =>
    have gen : ∀ σ', SlotX σ' t L (T t) → FrP (PTS t) (si σ 47 t (nI (K ||| 2 ^ 2))) σ' → RCache σ' L nt T ∧ SlotX σ' t L (T t) ∧ FrP (fun a j => a = 47 ∨ PTS t a j) σ σ' := by
      intro σ' y1 y2
      refine ⟨fun t' h' => ?_, y1, fp0.trans (y2.wide (fun a j h => Or.inr h))⟩
      have Y : Fr VTS (si σ 47 t (nI (K ||| 2 ^ 2))) σ' := y2.toFr (fun a j h => PTS_V h)
      by_cases e : t' = t
      · subst e
        have b8 := bit8 K k1 2 (by omega)
        refine ⟨K ||| 2 ^ 2, b8.1, ?_, fun h => absurd h (by omega), fun b => ?_, fun b => ?_, fun _ => y1⟩
        · rw [Y.i 47 rfl, si_rd, if_pos rfl, if_pos rfl]
        · exact (k4 (b8.2 0 (by omega) b (by omega))).eq (by rw [Y.i 48 rfl, f0.i 48 rfl])
        · exact (k5 (b8.2 1 (by omega) b (by omega))).eq (by rw [Y.i 49 rfl, f0.i 49 rfl]) (by rw [Y.l 50 rfl, f0.l 50 rfl])
      · obtain ⟨K', a1, a2, a3, a4, a5, a6⟩ := rc t' h'
        refine ⟨K', a1, ?_, a3, fun b => ?_, fun b => ?_, fun b => ?_⟩
        · rw [Y.i 47 rfl, si_rd, if_pos rfl, if_neg e]; exact a2
        · exact (a4 b).eq (by rw [Y.i 48 rfl, f0.i 48 rfl])
        · exact (a5 b).eq (by rw [Y.i 49 rfl, f0.i 49 rfl]) (by rw [Y.l 50 rfl, f0.l 50 rfl])
        · exact ((a6 b).eq (σ' := si σ 47 t (nI (K ||| 2 ^ 2))) (fun b _ => ⟨by rw [f0.i 51 rfl], by rw [f0.l 52 rfl]⟩)).frP e y2
    refine Or.inr ⟨rfl, (x_emptySlots hN (show t < 40 by omega)).mono (fun σ2 ⟨z1, z2, z3⟩ => ?_)⟩
    have F2 : Fr VTS (si σ 47 t (nI (K ||| 2 ^ 2))) σ2 := z3.toFr (fun a j h => PTS_V h)
    refine ⟨F2, fun e => gen σ2 (fun b hb => Or.inl ⟨z2 b hb, fun l h => ?_⟩) z3, ?_⟩
    · have h1 := h.1
      rw [List.length_eq_zero_iff.mp e] at h1
      exact absurd h1 List.not_mem_nil
    · exact (x_trySpellings hN hL hT (LX_fr (Or.inl rfl) (LX_fr (Or.inl rfl) hx f0 rfl) F2 rfl) ((tx.fr f0 rfl).fr F2 rfl) ht z1 z2).mono (fun σ' ⟨y1, y2⟩ => gen σ' y1 (z3.trans y2))
def SetPost (L : Lv) (nt n : Nat) (T : Nat → Tv) (u : Nat → Nat) (σ0 : St) (a : Int32 × St) : Prop := RCache a.2 L nt T ∧ ((a.1 = 1 ∧ (∀ i, i < n → (sps L (T (u i))).length ≤ 500) ∧ ∀ i, i < n → SlotX a.2 (u i) L (T (u i))) ∨ (a.1 = 0 ∧ ∃ i, i < n ∧ 500 < (sps L (T (u i))).length)) ∧ Fr VSet σ0 a.2
theorem x_settle {N : Nat} (hN : 802 < N) {L : Lv} (hL : LOk L) {nt n : Nat} {T : Nat → Tv} (hT : TOk nt T) (hn : n ≤ 12) {u : Nat → Nat} {σ0 : St} (hx0 : LX 1 σ0 L) (tx0 : TX σ0 nt T) (rc0 : RCache σ0 L nt T) (hu : ∀ i, i < n → u i < nt ∧ σ0.1 68 i = nI (u i)) : ok (f_X2_settle 68 12 N (nI n) σ0) (SetPost L nt n T u σ0) := by
  have h40 := hT.1
  unfold f_X2_settle
  have key : ∀ (k fuel i : Nat) (σ : St), n - i = k → k < fuel → i ≤ n → RCache σ L nt T → (∀ i', i' < i → (sps L (T (u i'))).length ≤ 500) → (∀ i', i' < i → SlotX σ (u i') L (T (u i'))) → Fr VSet σ0 σ → ok (f_X2_settle_2 68 12 N fuel (nI n) (nI i) σ) (SetPost L nt n T u σ0) := by
    intro k
    induction k with
    | zero =>
      intro fuel i σ hk hf hi rc hc hs f
      obtain ⟨fuel, rfl⟩ : ∃ f, fuel = f + 1 := ⟨fuel - 1, by omega⟩
      rw [f_X2_settle_2, if_pos (nI_le (by omega) (by omega)), ok_some]
      exact ⟨rc, Or.inl ⟨rfl, fun i' h => hc i' (by omega), fun i' h => hs i' (by omega)⟩, f⟩
    | succ k ih =>
      intro fuel i σ hk hf hi rc hc hs f
      obtain ⟨fuel, rfl⟩ : ∃ f, fuel = f + 1 := ⟨fuel - 1, by omega⟩
      obtain ⟨u1, u2⟩ := hu i (by omega)
      have e68 : ∀ σ', Fr VSet σ0 σ' → σ'.1 68 i = nI (u i) := fun σ' g => by rw [g.i 68 rfl]; exact u2
      rw [f_X2_settle_2, if_neg (nI_ge (by omega) (by omega)), ib_n (a := i) (by omega), decide_eq_true (show i < 12 by omega), grd_true, ncl (a := i) (by omega), e68 σ f]
      refine ok_bd_of (x_spellingsOf hN hL hT (LX_fr (Or.inl rfl) hx0 f rfl) (tx0.fr f rfl) rc u1) (fun v σ1 ⟨y1, y2, y3⟩ => ?_)
      have y1' : v = nI (min 100001 (sps L (T (u i))).length) := y1
      have f1 : Fr VSet σ0 σ1 := f.trans (y3.wide rfl)
      rw [y1']
      by_cases c : (sps L (T (u i))).length ≤ 500
      · obtain ⟨b, σ2, e2, g2, o2⟩ := x_settle1 (N := N) hN hL hT (LX_fr (Or.inl rfl) hx0 f1 rfl) (tx0.fr f1 rfl) y2 u1
        have f2 : Fr VSet σ0 σ2 := f1.trans (g2.wide rfl)
        rw [if_pos (show nI (min 100001 (sps L (T (u i))).length) ≤ (500 : Int32) from nI_le (b := 500) (by omega) (by omega)), grd_true, e68 σ1 f1, e2, bd_some, grd_true, e68 σ2 f2, nI_1]
        have fin : ∀ σ3, RCache σ3 L nt T ∧ SlotX σ3 (u i) L (T (u i)) ∧ FrP (fun a j => a = 47 ∨ PTS (u i) a j) σ1 σ3 → ok (f_X2_settle_2 68 12 N fuel (nI n) (nI (i + 1)) σ3) (SetPost L nt n T u σ0) := by
          intro σ3 ⟨z1, z2, z3⟩
          refine ih fuel (i + 1) σ3 (by omega) (by omega) (by omega) z1 (fun i' h => ?_) (fun i' h => ?_) (f1.trans (z3.toFr (fun a j h => by
            rcases h with h | h
            · rw [h]; rfl
            · have key : ∀ a, a ∈ VTS → VSet.contains a = true := by decide
              exact key a (List.contains_iff_mem.mp (PTS_V h)))))
          · by_cases e : i' = i
            · rw [e]; exact c
            · exact hc i' (by omega)
          · by_cases e : u i' = u i
            · rw [e]; exact z2
            · have h0 : i' < i := by
                by_cases e2 : i' = i
                · rw [e2] at e; exact absurd rfl e
                · omega
              have s1 : SlotX σ1 (u i') L (T (u i')) := (hs i' h0).eq (fun b _ => ⟨by rw [y3.i 51 rfl], by rw [y3.l 52 rfl]⟩)
              exact s1.eq (fun b hb => by
                have q : ∀ a, a = 51 ∨ a = 52 → ¬ (a = 47 ∨ PTS (u i) a (u i' * 13 + b)) := fun a ha q => by
                  rcases q with q | q | ⟨_, q⟩
                  · rcases ha with h | h <;> (rw [h] at q; cases q)
                  · rcases ha with h | h <;> (rw [h] at q; cases q)
                  · omega
                exact ⟨(z3 51 _ (q 51 (Or.inl rfl))).1, (z3 52 _ (q 52 (Or.inr rfl))).2⟩)
        rcases o2 with ⟨eb, o3⟩ | ⟨eb, o3⟩
        · subst eb
          rw [if_pos (show b2 false = 0 from rfl)]
          exact fin σ2 o3
        · subst eb
          rw [if_neg (show ¬ b2 true = 0 by decide)]
          refine ok_bo_of o3 (fun σ9 ⟨v1, v2, v3⟩ => ?_)
          have f9 : Fr VSet σ0 σ9 := f2.trans (v1.wide rfl)
          by_cases c0 : (sps L (T (u i))).length = 0
          · rw [if_pos (show nI (min 100001 (sps L (T (u i))).length) ≤ (0 : Int32) from nI_le (b := 0) (by omega) (by omega))]
            exact fin σ9 (v2 c0)
          · rw [if_neg (show ¬ nI (min 100001 (sps L (T (u i))).length) ≤ (0 : Int32) from nI_ge (a := 0) (by omega) (by omega)), grd_true, e68 σ9 f9]
            exact ok_bo_of v3 fin
      · rw [if_neg (show ¬ nI (min 100001 (sps L (T (u i))).length) ≤ (500 : Int32) from nI_ge (a := 500) (by omega) (by omega)), ok_some]
        exact ⟨y2, Or.inr ⟨rfl, i, by omega, by omega⟩, f1⟩
  exact key n N 0 σ0 (by omega) (by omega) (by omega) rc0 (fun i' h => absurd h (by omega)) (fun i' h => absurd h (by omega)) (Fr.refl _ _)
