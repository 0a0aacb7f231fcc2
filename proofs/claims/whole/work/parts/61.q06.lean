/-! blocks: all of them laid -/
def LdX (L : Lv) (σ : St) : Nat → Nat → List Bl4 → Prop
  | _, _, [] => True
  | b, k, bl :: r => σ.1 24 b = nI ((lyB L 4 bl).1 * 65536 + (lyB L 4 bl).2.1) ∧ σ.1 25 b = nI (lyB L 4 bl).2.2.length ∧ BxA σ b k (lyB L 4 bl).2.2 ∧ LdX L σ (b + 1) (k + (lyB L 4 bl).2.2.length) r
def LdM (L : Lv) (τ : St) : Nat → Nat → List Bl4 → Prop
  | _, _, [] => True
  | b, k, bl :: r => τ.1 20 b = nI (lyB L 4 bl).1 ∧ τ.1 21 b = nI (lyB L 4 bl).2.1 ∧ τ.1 22 b = nI (lyB L 4 bl).2.2.length ∧ BxM τ b k (lyB L 4 bl).2.2 ∧ LdM L τ (b + 1) (k + (lyB L 4 bl).2.2.length) r
theorem lnT_cons (L : Lv) (bl : Bl4) (r : List Bl4) : lnT L (bl :: r) = (lyB L 4 bl).2.2.length + lnT L r := by
  unfold lnT; rw [List.map_cons, bxs_cons, List.length_append]
def PLo (b k a j : Nat) : Prop := a = 5614 ∨ a = 5605 ∨ a = 5613 ∨ a = 5602 ∨ ((a = 26 ∨ a = 27 ∨ a = 28 ∨ a = 29 ∨ a = 30) ∧ k ≤ j) ∨ (a = 31 ∨ a = 32) ∨ ((a = 24 ∨ a = 25) ∧ b ≤ j)
abbrev VLo : List Nat := [5614, 5605, 5613, 5602, 26, 27, 28, 29, 30, 31, 32, 24, 25]
theorem PLo_V {b k a j : Nat} (h : PLo b k a j) : VLo.contains a = true := by
  rcases h with h | h | h | h | ⟨h | h | h | h | h, _⟩ | (h | h) | ⟨h | h, _⟩ <;> (rw [h]; rfl)
theorem PLy_PLo {b k P a j : Nat} (h : PLy k P a j) : PLo b k a j := by
  rcases h with h | h | h | h | ⟨h, _⟩
  · exact Or.inl h
  · exact Or.inr (Or.inl h)
  · exact Or.inr (Or.inr (Or.inl h))
  · exact Or.inr (Or.inr (Or.inr (Or.inr (Or.inl h))))
  · exact Or.inr (Or.inr (Or.inr (Or.inr (Or.inr (Or.inl h)))))
theorem x_lay14 {N : Nat} (hN : 802 < N) {L : Lv} (hL : LOk L) {c : List Int32} : ∀ (r : List Bl4) (fuel b k : Nat) (pre : List Int32) (σ : St), r.length < fuel → b + r.length ≤ 12 → (∀ bl, bl ∈ r → okB L 4 bl) → r ≠ [] → c = pre ++ cdT r → LSt σ c pre.length k b 0 → LX 1 σ L → k + lnT L r ≤ 24 → ok (f_X1_layOut_14 N fuel σ) (fun σ' => LdX L σ' b k r ∧ σ'.1 5602 0 = nI (b + r.length) ∧ σ'.1 5605 0 = nI (k + lnT L r) ∧ FrP (PLo b k) σ σ') := by
  intro r
  induction r with
  | nil => intro fuel b k pre σ _ _ _ h; exact absurd rfl h
  | cons bl r ih =>
    intro fuel b k pre σ hf hb hok _ hc ls lx hk
    obtain ⟨fuel, rfl⟩ : ∃ f, fuel = f + 1 := ⟨fuel - 1, by omega⟩
    rw [List.length_cons] at hf hb
    rw [lnT_cons] at hk
    have okb := hok bl List.mem_cons_self
    have rb := cmb_ok hL.2.2.1 (bs := true) (rs := bl.map (lyO L 4)) (fun x hx => by
      obtain ⟨o, o1, o2⟩ := List.mem_map.mp hx
      rw [← o2]; exact okO_RB hL (okb.2 o o1)) (fun q => okb.1 (List.map_eq_nil_iff.mp q))
    have rb1 : 1 ≤ (lyB L 4 bl).2.2.length := rb.2
    have cl := ls.1.1
    obtain ⟨post, hp1, hp2, hp3⟩ : ∃ post, cdT (bl :: r) = cdB 4 bl ++ post ∧ (r = [] → post = []) ∧ (r ≠ [] → post = -45 :: cdT r) := by
      cases r with
      | nil => exact ⟨[], by show cdB 4 bl = cdB 4 bl ++ []; rw [List.append_nil], fun _ => rfl, fun h => absurd rfl h⟩
      | cons b2 r => exact ⟨-45 :: cdT (b2 :: r), rfl, fun h => (nomatch h), fun _ => rfl⟩
    have hd45 : post.headD (-45) = -45 := by
      by_cases e : r = []
      · rw [hp2 e]; rfl
      · rw [hp3 e]; rfl
    have cc : c = pre ++ (cdB 4 bl ++ post) := by rw [hc, hp1]
    have cln : pre.length + ((cdB 4 bl).length + post.length) = c.length := by rw [cc, List.length_append, List.length_append]
    have clb : 1 ≤ (cdB 4 bl).length := by
      have : ∀ (d : Nat) (x : It d), 1 ≤ (cdI d x).length := by
        intro d x
        cases d with
        | zero => show 1 ≤ (lfC x).length; unfold lfC; by_cases q : (x : Nat × Nat).2 = 0
                  · rw [if_pos q]; exact Nat.le_refl _
                  · rw [if_neg q]; show 1 ≤ 3; omega
        | succ d =>
          cases x with
          | inl f => show 1 ≤ (lfC f).length; unfold lfC; by_cases q : f.2 = 0
                     · rw [if_pos q]; exact Nat.le_refl _
                     · rw [if_neg q]; show 1 ≤ 3; omega
          | inr bb => show 1 ≤ (-40 :: (cdB d bb ++ [-41])).length; rw [List.length_cons]; omega
      have i1 : ∀ (sep : Int32) (l : List (List Int32)), l ≠ [] → (∀ x, x ∈ l → 1 ≤ x.length) → 1 ≤ (itc sep l).length := by
        intro sep l hl hx
        cases l with
        | nil => exact absurd rfl hl
        | cons a l =>
          cases l with
          | nil => exact hx a List.mem_cons_self
          | cons a2 l => show 1 ≤ (a ++ sep :: itc sep (a2 :: l)).length; rw [List.length_append, List.length_cons]; omega
      refine i1 _ _ (fun q => okb.1 (List.map_eq_nil_iff.mp q)) (fun x hx => ?_)
      obtain ⟨o, o1, o2⟩ := List.mem_map.mp hx
      rw [← o2]
      refine i1 _ _ (fun q => (okb.2 o o1).1 (List.map_eq_nil_iff.mp q)) (fun y hy => ?_)
      obtain ⟨it, t1, t2⟩ := List.mem_map.mp hy
      rw [← t2]; exact this 4 it
    have cb := x_beside hN hL 4 20 (by omega) (by omega) bl c pre post σ k b 0 okb cc (by rw [hd45]; decide) (by rw [hd45]; decide) (by rw [hd45]; decide) ls lx (Nat.zero_le _) (by omega)
    have cb' : ok (f_X1_layBeside N 20 0 σ) _ := cb
    rw [f_X1_layOut_14, ls.1.2.1, ls.2.1, if_neg (nI_ge (by omega) (by omega)), ls.2.2.2.1, if_neg (show ¬ (12 : Int32) ≤ nI b from nI_ge (b := 12) (by omega) (by omega))]
    refine ok_bd_of cb' (fun v σ1 ⟨y1, y2, y3, y4⟩ => ?_)
    have y1' : v = nI ((lyB L 4 bl).1 * 65536 + (lyB L 4 bl).2.1) := y1
    have y2' : LSt σ1 c (pre.length + (cdB 4 bl).length) (k + (lyB L 4 bl).2.2.length) b 0 := y2
    have y3' : BxA σ1 b k (lyB L 4 bl).2.2 := y3
    have y4' : FrP (PLy k 0) σ σ1 := y4
    rw [y2'.2.2.2.1, ib_n (a := b) (by omega), decide_eq_true (show b < 12 by omega), grd_true, grd_true, ncl (a := b) (by omega), y2'.2.2.1, ls.2.2.1, nsub (by omega), show k + (lyB L 4 bl).2.2.length - k = (lyB L 4 bl).2.2.length by omega, nI_1, y2'.2.1, nI_1, y1']
    generalize hσ : si (si (si (si σ1 24 b (nI ((lyB L 4 bl).1 * 65536 + (lyB L 4 bl).2.1))) 25 b (nI (lyB L 4 bl).2.2.length)) 5602 0 (nI (b + 1))) 5614 0 (nI (pre.length + (cdB 4 bl).length + 1)) = σ2
    have F2 : FrP (fun a j => a = 5602 ∨ a = 5614 ∨ ((a = 24 ∨ a = 25) ∧ j = b)) σ1 σ2 := by
      rw [← hσ]
      exact ((((FrP.refl _ _).si _ _ _ (Or.inr (Or.inr ⟨Or.inl rfl, rfl⟩))).si _ _ _ (Or.inr (Or.inr ⟨Or.inr rfl, rfl⟩))).si _ _ _ (Or.inl rfl)).si _ _ _ (Or.inr (Or.inl rfl))
    have w24 : σ2.1 24 b = nI ((lyB L 4 bl).1 * 65536 + (lyB L 4 bl).2.1) := by rw [← hσ]; simp only [si_rd, reduceIte, Nat.reduceEqDiff]
    have w25 : σ2.1 25 b = nI (lyB L 4 bl).2.2.length := by rw [← hσ]; simp only [si_rd, reduceIte, Nat.reduceEqDiff]
    have w02 : σ2.1 5602 0 = nI (b + 1) := by rw [← hσ]; simp only [si_rd, reduceIte, Nat.reduceEqDiff]
    have w14 : σ2.1 5614 0 = nI (pre.length + (cdB 4 bl).length + 1) := by rw [← hσ]; simp only [si_rd, reduceIte, Nat.reduceEqDiff]
    have n2 : ∀ a j, a ≠ 5602 → a ≠ 5614 → a ≠ 24 → a ≠ 25 → σ2.1 a j = σ1.1 a j := fun a j h1 h2 h3 h4 => (F2 a j (fun q => by
      rcases q with q | q | ⟨q | q, _⟩
      · exact h1 q
      · exact h2 q
      · exact h3 q
      · exact h4 q)).1
    clear hσ
    have ls2 : LSt σ2 c (pre.length + (cdB 4 bl).length + 1) (k + (lyB L 4 bl).2.2.length) (b + 1) 0 := ⟨⟨y2'.1.1, by rw [n2 5202 0 (by decide) (by decide) (by decide) (by decide)]; exact y2'.1.2.1, fun j hj => by rw [n2 22 j (by decide) (by decide) (by decide) (by decide)]; exact y2'.1.2.2 j hj⟩, w14, by rw [n2 5605 0 (by decide) (by decide) (by decide) (by decide)]; exact y2'.2.2.1, w02, by rw [n2 5613 0 (by decide) (by decide) (by decide) (by decide)]; exact y2'.2.2.2.2⟩
    have lx2 : LX 1 σ2 L := LX_fr (Or.inl rfl) (LXf lx y4') (F2.toFr (V := [5602, 5614, 24, 25]) (fun a j h => by rcases h with h | h | ⟨h | h, _⟩ <;> (rw [h]; rfl))) rfl
    have bx2 : BxA σ2 b k (lyB L 4 bl).2.2 := BxA_fr y3' (fun j _ _ a ha => n2 a j (by rcases ha with h | h | h | h | h <;> (rw [h]; decide)) (by rcases ha with h | h | h | h | h <;> (rw [h]; decide)) (by rcases ha with h | h | h | h | h <;> (rw [h]; decide)) (by rcases ha with h | h | h | h | h <;> (rw [h]; decide)))
    have FF : FrP (PLo b k) σ σ2 := (y4'.wide (fun a j h => PLy_PLo h)).trans (F2.wide (fun a j h => by
      rcases h with h | h | ⟨h, h'⟩
      · exact Or.inr (Or.inr (Or.inr (Or.inl h)))
      · exact Or.inl h
      · exact Or.inr (Or.inr (Or.inr (Or.inr (Or.inr (Or.inr ⟨h, by omega⟩)))))))
    by_cases e : r = []
    · obtain ⟨fuel, rfl⟩ : ∃ f, fuel = f + 1 := ⟨fuel - 1, by omega⟩
      have pl : post.length = 0 := by rw [hp2 e]; rfl
      rw [f_X1_layOut_14, ls2.1.2.1, w14, if_pos (nI_le (by omega) (by omega)), ok_some]
      subst e
      refine ⟨⟨w24, w25, bx2, trivial⟩, w02, ?_, FF⟩
      rw [ls2.2.2.1, lnT_cons]
      rfl
    · have ec : (pre ++ cdB 4 bl ++ [(-45 : Int32)]).length = pre.length + (cdB 4 bl).length + 1 := by rw [List.length_append, List.length_append, List.length_singleton]
      rw [← ec] at ls2
      have nx := ih fuel (b + 1) (k + (lyB L 4 bl).2.2.length) (pre ++ cdB 4 bl ++ [-45]) σ2 (by omega) (by omega) (fun x hx => hok x (List.mem_cons_of_mem _ hx)) e (by rw [cc, hp3 e]; simp) ls2 lx2 (by omega)
      refine nx.mono (fun σ3 ⟨z1, z2, z3, z4⟩ => ⟨⟨?_, ?_, ?_, z1⟩, by rw [z2, List.length_cons]; congr 1; omega, by rw [z3, lnT_cons]; congr 1; omega, FF.trans (z4.wide (fun a j h => ?_))⟩)
      · rw [(z4 24 b (fun q => by rcases q with q | q | q | q | ⟨q | q | q | q | q, _⟩ | (q | q) | ⟨_, q⟩ <;> first | omega | cases q)).1]; exact w24
      · rw [(z4 25 b (fun q => by rcases q with q | q | q | q | ⟨q | q | q | q | q, _⟩ | (q | q) | ⟨_, q⟩ <;> first | omega | cases q)).1]; exact w25
      · refine BxA_fr bx2 (fun j h1 h2 a ha => (z4 a j (fun q => ?_)).1)
        rcases q with q | q | q | q | ⟨_, q⟩ | (q | q) | ⟨q | q, _⟩
        · rcases ha with h | h | h | h | h <;> (rw [h] at q; cases q)
        · rcases ha with h | h | h | h | h <;> (rw [h] at q; cases q)
        · rcases ha with h | h | h | h | h <;> (rw [h] at q; cases q)
        · rcases ha with h | h | h | h | h <;> (rw [h] at q; cases q)
        · omega
        · rcases ha with h | h | h | h | h <;> (rw [h] at q; cases q)
        · rcases ha with h | h | h | h | h <;> (rw [h] at q; cases q)
        · rcases ha with h | h | h | h | h <;> (rw [h] at q; cases q)
        · rcases ha with h | h | h | h | h <;> (rw [h] at q; cases q)
      · rcases h with h | h | h | h | ⟨h, h'⟩ | h | ⟨h, h'⟩
        · exact Or.inl h
        · exact Or.inr (Or.inl h)
        · exact Or.inr (Or.inr (Or.inl h))
        · exact Or.inr (Or.inr (Or.inr (Or.inl h)))
        · exact Or.inr (Or.inr (Or.inr (Or.inr (Or.inl ⟨h, by omega⟩))))
        · exact Or.inr (Or.inr (Or.inr (Or.inr (Or.inr (Or.inl h)))))
        · exact Or.inr (Or.inr (Or.inr (Or.inr (Or.inr (Or.inr ⟨h, by omega⟩)))))
