/-! blocks, the class: a text is laid -/
def CB (L : Lv) (hd : Int32 → St → Option (Int32 × St)) (d : Nat) : Prop := ∀ (bl : List (List (It d))) (c pre post : List Int32) (σ : St) (k b P : Nat), okB L d bl → c = pre ++ (cdB d bl ++ post) → post.headD (-45) ≠ -38 → post.headD (-45) ≠ -58 → post.headD (-45) ≠ -42 → LSt σ c pre.length k b P → LX 1 σ L → P ≤ k → k + (lyB L d bl).2.2.length ≤ 24 → ok (hd (nI (4 - d)) σ) (LPost L c (pre.length + (cdB d bl).length) k b P (lyB L d bl) σ)
def CI (L : Lv) (f : St → Option (Int32 × St)) (d : Nat) : Prop := ∀ (i : It d) (c pre post : List Int32) (σ : St) (k b P : Nat), okI L d i → c = pre ++ (cdI d i ++ post) → post.headD (-45) ≠ -38 → LSt σ c pre.length k b P → LX 1 σ L → P ≤ k → k + (lyI L d i).2.2.length ≤ 24 → ok (f σ) (LPost L c (pre.length + (cdI d i).length) k b P (lyI L d i) σ)
def CO (L : Lv) (f : St → Option (Int32 × St)) (d : Nat) : Prop := ∀ (o : List (It d)) (c pre post : List Int32) (σ : St) (k b P : Nat), okO L d o → c = pre ++ (cdO d o ++ post) → post.headD (-45) ≠ -38 → post.headD (-45) ≠ -58 → LSt σ c pre.length k b P → LX 1 σ L → P ≤ k → k + (lyO L d o).2.2.length ≤ 24 → ok (f σ) (LPost L c (pre.length + (cdO d o).length) k b P (lyO L d o) σ)
theorem LXf {σ σ' : St} {L : Lv} {k P : Nat} (h : LX 1 σ L) (f : FrP (PLy k P) σ σ') : LX 1 σ' L := LX_fr (Or.inl rfl) h (f.toFr (V := VLy) (fun a j h => PLy_V h)) rfl
theorem BxA_frP {σ σ' : St} {b k k' P : Nat} {l : List Bx} (h : BxA σ b k l) (hk : k + l.length ≤ k') (f : FrP (PLy k' P) σ σ') : BxA σ' b k l := BxA_fr h (fun j h1 h2 a ha => (f a j (fun q => by
  rcases q with q | q | q | ⟨_, q⟩ | ⟨q, _⟩
  · rcases ha with h | h | h | h | h <;> (rw [h] at q; cases q)
  · rcases ha with h | h | h | h | h <;> (rw [h] at q; cases q)
  · rcases ha with h | h | h | h | h <;> (rw [h] at q; cases q)
  · omega
  · rcases ha with h | h | h | h | h <;> (rw [h] at q; rcases q with q | q <;> cases q))).1)
theorem x_leaf {L : Lv} (hL : LOk L) {f : Nat × Nat} {c pre post : List Int32} {σ : St} {k b P : Nat} (hf : okF L f) (hc : c = pre ++ (lfC f ++ post)) (hp : post.headD (-45) ≠ -38) (ls : LSt σ c (pre.length + 1) k b P) (lx : LX 1 σ L) (hk : k + (lfR L f).2.2.length ≤ 24) : ok (f_X1_layWithInner (nI f.1) σ) (LPost L c (pre.length + (lfC f).length) k b P (lfR L f) σ) := by
  have h40 := hL.1
  obtain ⟨s, o⟩ := f
  obtain ⟨hs, ho⟩ := hf
  have hs : s < L.n := hs
  obtain ⟨_, c2, c3, _⟩ := lx.2.1 s hs
  have c2' : σ.1 4 s = nI (L.w s) := c2
  have c3' : σ.1 5 s = nI (L.h s) := c3
  have e1 : f_X11_sizeOf (nI (L.w s)) (nI (L.h s)) σ = nI (L.w s * 65536 + L.h s) := by
    unfold f_X11_sizeOf
    rw [show (65536 : Int32) = nI 65536 from rfl, nmul, nadd]
  have l1 : 1 ≤ (lfR L (s, o)).2.2.length := by unfold lfR; rw [List.length_cons]; omega
  have cl := ls.1.1
  unfold f_X1_layWithInner
  show ok (grd (ib (nI s) 40) (grd (ib (nI s) 40) _)) _
  rw [ib_n (a := s) (by omega), decide_eq_true (show s < 40 by omega), ncl (a := s) (by omega), c2', c3', e1, grd_true, grd_true]
  refine ok_bo_of (x_putSign ls (by omega) 0) (fun σ1 ⟨y1, y2, y3⟩ => ?_)
  have F1 : FrP (PLy k P) σ σ1 := y3.wide (fun a j h => by
    rcases h with h | ⟨h, h'⟩
    · exact Or.inr (Or.inl h)
    · exact Or.inr (Or.inr (Or.inr (Or.inl ⟨h, by omega⟩))))
  have lx1 := LXf lx F1
  have ql : pre.length + 1 ≤ 241 := by
    rw [hc, List.length_append, List.length_append] at cl
    unfold lfC at cl
    by_cases o0 : o = 0
    · rw [if_pos o0] at cl; simp at cl; omega
    · rw [if_neg o0] at cl; simp at cl; omega
  rw [y1.2.1, nI_1, x_codeAt y1.1 _ (by omega), bo_some, x_codeAt y1.1 _ (by omega), bo_some]
  by_cases o0 : o = 0
  · subst o0
    have cc : c = (pre ++ [nI s]) ++ post := by rw [hc]; unfold lfC; rw [if_pos rfl, List.append_assoc]
    have g1 : c.getD (pre.length + 1) (-45) = post.headD (-45) := by
      rw [cc, show pre.length + 1 = (pre ++ [nI s]).length by rw [List.length_append, List.length_singleton], gd_app]
    rw [g1, if_neg hp, ok_some]
    refine ⟨rfl, ?_, ?_, F1⟩
    · exact y1
    · exact y2
  · have oo : o - 1 < L.n := ho.resolve_left o0
    have cc : c = (pre ++ [nI s]) ++ ([-38, nI (o - 1)] ++ post) := by
      rw [hc]; unfold lfC
      show pre ++ ((if o = 0 then [nI s] else [nI s, -38, nI (o - 1)]) ++ post) = _
      rw [if_neg o0, List.append_assoc]; rfl
    have ep : pre.length + 1 = (pre ++ [nI s]).length := by rw [List.length_append, List.length_singleton]
    have g1 : c.getD (pre.length + 1) (-45) = -38 := by rw [cc, ep, gd_app]; rfl
    have g2 : c.getD (pre.length + 1 + 1) (-45) = nI (o - 1) := by rw [cc, ep, gd_app1]; rfl
    have hs1 : f_X6_has 1 (nI (o - 1)) σ1 = 1 := by
      unfold f_X6_has
      have e0 : σ1.1 (1000 + 200 * 1 + 0) 0 = nI L.n := lx1.1
      rw [e0]
      rw [if_neg (show ¬ nI (o - 1) < (0 : Int32) from nI_nlt (b := 0) (by omega) (by omega)), if_neg (nI_ge oo (by omega))]
    obtain ⟨_, i2, i3, _⟩ := lx1.2.1 (o - 1) oo
    have i2' : σ1.1 4 (o - 1) = nI (L.w (o - 1)) := i2
    have i3' : σ1.1 5 (o - 1) = nI (L.h (o - 1)) := i3
    obtain ⟨d1, d2, _⟩ := hL.2.1 (o - 1) oo
    have hw : imax 1 (nI (L.w (o - 1)) / 2) = nI (hfW L (o - 1)) := by
      unfold hfW
      rw [show (2 : Int32) = nI 2 from rfl, ndiv (by omega) (by omega), show (1 : Int32) = nI 1 from rfl, nmax (by omega) (by omega)]
    have hh : imax 1 (nI (L.h (o - 1)) / 2) = nI (hfH L (o - 1)) := by
      unfold hfH
      rw [show (2 : Int32) = nI 2 from rfl, ndiv (by omega) (by omega), show (1 : Int32) = nI 1 from rfl, nmax (by omega) (by omega)]
    have l2 : (lfR L (s, o)).2.2 = [(s, 0, 0, L.w s, L.h s)] ++ [(o - 1, nI (L.w s) - nI (hfW L (o - 1)), 0, hfW L (o - 1), hfH L (o - 1))] := by
      unfold lfR
      show _ :: (if o = 0 then [] else _) = _
      rw [if_neg o0]; rfl
    have e2 : ∀ σ' : St, f_X11_sizeOf (nI (hfW L (o - 1))) (nI (hfH L (o - 1))) σ' = nI (hfW L (o - 1) * 65536 + hfH L (o - 1)) := fun σ' => by
      unfold f_X11_sizeOf
      rw [show (65536 : Int32) = nI 65536 from rfl, nmul, nadd]
    have k2 : k + 1 < 24 := by rw [l2] at hk; simp at hk; omega
    rw [g1, g2, if_pos rfl, hs1, if_neg one_ne, ib_n (a := o - 1) (by omega), decide_eq_true (show o - 1 < 40 by omega), ncl (a := o - 1) (by omega), i2', i3', hw, hh, e2, show nI (pre.length + 1) + 2 = nI (pre.length + 3) by rw [show (2 : Int32) = nI 2 from rfl, nadd]]
    simp only [grd_true]
    refine ok_bo_of (x_putSign (y1.cur (pre.length + 3)) k2 _) (fun σ2 ⟨z1, z2, z3⟩ => ?_)
    rw [ok_some]
    have F2 : FrP (PLy k P) σ1 σ2 := ((FrP.refl (PLy k P) σ1).si 5614 0 _ (Or.inl rfl)).trans (z3.wide (fun a j h => by
      rcases h with h | ⟨h, h'⟩
      · exact Or.inr (Or.inl h)
      · exact Or.inr (Or.inr (Or.inr (Or.inl ⟨h, by omega⟩)))))
    have lc : (lfC (s, o)).length = 3 := by
      unfold lfC
      show (if o = 0 then [nI s] else [nI s, -38, nI (o - 1)]).length = 3
      rw [if_neg o0]; rfl
    refine ⟨rfl, ?_, ?_, F1.trans F2⟩
    · rw [lc, l2]; exact z1
    · rw [l2, BxA_app]
      refine ⟨BxA_fr y2 (fun j h1 h2 a ha => ?_), z2⟩
      have h2' : j < k + 1 := h2
      rw [(z3 a j (fun q => by
        rcases q with q | ⟨_, q⟩
        · rcases ha with h | h | h | h | h <;> (rw [h] at q; cases q)
        · omega)).1, si_rd, if_neg (by rcases ha with h | h | h | h | h <;> (rw [h]; decide))]
theorem cd_hd {L : Lv} {f : Nat × Nat} (post : List Int32) : (lfC f ++ post).headD (-45) = nI f.1 := by
  unfold lfC
  by_cases o0 : f.2 = 0
  · rw [if_pos o0]; rfl
  · rw [if_neg o0]; rfl
theorem x_item0 {N : Nat} {L : Lv} (hL : LOk L) {hd : Int32 → St → Option (Int32 × St)} {x1 : Int32} {f : Nat × Nat} {c pre post : List Int32} {σ : St} {k b P : Nat} (hf : okF L f) (hc : c = pre ++ (lfC f ++ post)) (hp : post.headD (-45) ≠ -38) (ls : LSt σ c pre.length k b P) (lx : LX 1 σ L) (hk : k + (lfR L f).2.2.length ≤ 24) : ok (f_X1_layItem N hd x1 σ) (LPost L c (pre.length + (lfC f).length) k b P (lfR L f) σ) := by
  have h40 := hL.1
  have f1 : f.1 < L.n := hf.1
  have cl := ls.1.1
  have ql : pre.length ≤ 240 := by rw [hc, List.length_append] at cl; omega
  unfold f_X1_layItem
  rw [ls.2.1, x_codeAt ls.1 _ (by omega), bo_some]
  have g : c.getD pre.length (-45) = nI f.1 := by rw [hc, gd_app, cd_hd (L := L)]
  rw [g, if_neg (show ¬ nI f.1 < (0 : Int32) from nI_nlt (b := 0) (by omega) (by omega)), nI_1]
  have F0 : FrP (PLy k P) σ (si σ 5614 0 (nI (pre.length + 1))) := (FrP.refl _ _).si _ _ _ (Or.inl rfl)
  refine ok_bd_of (x_leaf hL hf hc hp (ls.cur (pre.length + 1)) (LXf lx F0) hk) (fun v σ1 ⟨y1, y2, y3, y4⟩ => ?_)
  rw [ok_some]
  exact ⟨y1, y2, y3, F0.trans y4⟩
theorem x_itemS {N : Nat} {L : Lv} (hL : LOk L) {hd : Int32 → St → Option (Int32 × St)} {d : Nat} (hd4 : d + 1 ≤ 4) (cb : CB L hd d) : CI L (f_X1_layItem N hd (nI (4 - (d + 1)))) (d + 1) := by
  intro i c pre post σ k b P hi hc hp ls lx hP hk
  cases i with
  | inl f => exact x_item0 hL hi hc hp ls lx hk
  | inr bl =>
    have hb : okB L d bl := hi
    have ecd : cdI (d + 1) (Sum.inr bl) = -40 :: (cdB d bl ++ [-41]) := rfl
    have ely : lyI L (d + 1) (Sum.inr bl) = lyB L d bl := rfl
    rw [ecd] at hc ⊢
    rw [ely] at hk ⊢
    have cl := ls.1.1
    have ql : pre.length ≤ 240 := by rw [hc, List.length_append] at cl; omega
    have cc : c = (pre ++ [-40]) ++ (cdB d bl ++ (-41 :: post)) := by rw [hc]; simp
    have ep : (pre ++ [(-40 : Int32)]).length = pre.length + 1 := by rw [List.length_append, List.length_singleton]
    have g : c.getD pre.length (-45) = -40 := by rw [hc, gd_app]; rfl
    unfold f_X1_layItem
    rw [ls.2.1, x_codeAt ls.1 _ (by omega), bo_some, g, if_pos (by decide), if_pos (show nI (4 - (d + 1)) < (4 : Int32) from nI_lt (b := 4) (by omega) (by omega)), nI_1, nI_1, show 4 - (d + 1) + 1 = 4 - d by omega]
    have F0 : FrP (PLy k P) σ (si σ 5614 0 (nI (pre.length + 1))) := (FrP.refl _ _).si _ _ _ (Or.inl rfl)
    have ls0 := ls.cur (pre.length + 1)
    rw [← ep] at ls0
    have r := cb bl c (pre ++ [-40]) (-41 :: post) _ k b P hb cc (by show (-41 : Int32) ≠ -38; decide) (by show (-41 : Int32) ≠ -58; decide) (by show (-41 : Int32) ≠ -42; decide) ls0 (by rw [ep]; exact LXf lx F0) hP hk
    rw [ep] at r
    refine ok_bd_of r (fun v σ1 ⟨y1, y2, y3, y4⟩ => ?_)
    have y2' : LSt σ1 c (pre.length + 1 + (cdB d bl).length) (k + (lyB L d bl).2.2.length) b P := y2
    have y3' : BxA σ1 b k (lyB L d bl).2.2 := y3
    have y4' : FrP (PLy k P) (si σ 5614 0 (nI (pre.length + 1))) σ1 := y4
    rw [ok_some, y2'.2.1, nI_1]
    have el : pre.length + (-40 :: (cdB d bl ++ [-41])).length = pre.length + 1 + (cdB d bl).length + 1 := by simp; omega
    rw [el]
    refine ⟨y1, y2'.cur _, BxA_fr y3' (fun j _ _ a ha => by rw [si_rd, if_neg (by rcases ha with h | h | h | h | h <;> (rw [h]; decide))]), (F0.trans y4').si _ _ _ (Or.inl rfl)⟩
theorem x_wait {σ : St} {c : List Int32} {q k b P k1 : Nat} {x2 : Int32} (ls : LSt σ c q k b P) (hP : P < 24) : ok (f_X1_waitWith (nI k1) x2 σ) (fun σ' => LSt σ' c q k b (P + 1) ∧ σ'.1 31 P = nI k1 ∧ σ'.1 32 P = x2 ∧ FrP (fun a j => a = 5613 ∨ ((a = 31 ∨ a = 32) ∧ j = P)) σ σ') := by
  obtain ⟨t, l1, l2, l3, l4⟩ := ls
  unfold f_X1_waitWith
  rw [l4, if_neg (show ¬ (24 : Int32) ≤ nI P from nI_ge (b := 24) hP (by omega)), ib_n (a := P) (by omega), decide_eq_true hP, ncl (a := P) (by omega), nI_1, grd_true, grd_true, ok_some]
  have F : FrP (fun a j => a = 5613 ∨ ((a = 31 ∨ a = 32) ∧ j = P)) σ (si (si (si σ 31 P (nI k1)) 32 P x2) 5613 0 (nI (P + 1))) := (((FrP.refl _ _).si _ _ _ (Or.inr ⟨Or.inl rfl, rfl⟩)).si _ _ _ (Or.inr ⟨Or.inr rfl, rfl⟩)).si _ _ _ (Or.inl rfl)
  have n0 : ∀ a j, a ≠ 5613 → ¬ (a = 31 ∨ a = 32) → (si (si (si σ 31 P (nI k1)) 32 P x2) 5613 0 (nI (P + 1))).1 a j = σ.1 a j := fun a j h1 h2 => (F a j (fun q => q.elim h1 (fun q => h2 q.1))).1
  refine ⟨⟨⟨t.1, ?_, fun j hj => ?_⟩, ?_, ?_, ?_, ?_⟩, ?_, ?_, F⟩
  · rw [n0 _ _ (by decide) (by decide)]; exact t.2.1
  · rw [n0 _ _ (by decide) (by decide)]; exact t.2.2 j hj
  · rw [n0 _ _ (by decide) (by decide)]; exact l1
  · rw [n0 _ _ (by decide) (by decide)]; exact l2
  · rw [n0 _ _ (by decide) (by decide)]; exact l3
  · simp only [si_rd, reduceIte, Nat.reduceEqDiff]
  · simp only [si_rd, reduceIte, Nat.reduceEqDiff]
  · simp only [si_rd, reduceIte, Nat.reduceEqDiff]
theorem bxs_snoc (rs : List Rs) (r : Rs) : bxs (rs ++ [r]) = bxs rs ++ r.2.2 := by
  unfold bxs; rw [List.flatMap_append, List.flatMap_cons, List.flatMap_nil, List.append_nil]
theorem bxs_app (rs ss : List Rs) : bxs (rs ++ ss) = bxs rs ++ bxs ss := List.flatMap_append
theorem x_over7 {N : Nat} (hN : 802 < N) {L : Lv} (hL : LOk L) {hd : Int32 → St → Option (Int32 × St)} {x1 : Int32} {d : Nat} (hc : CI L (f_X1_layItem N hd x1) d) : ∀ (o : List (It d)) (fuel : Nat) (rs : List Rs) (c pre post : List Int32) (σ : St) (k0 b P0 : Nat), o ≠ [] → (∀ i, i ∈ o → okI L d i) → (∀ r, r ∈ rs → RB r ∧ 1 ≤ r.2.2.length) → c = pre ++ (cdO d o ++ post) → post.headD (-45) ≠ -38 → post.headD (-45) ≠ -58 → LSt σ c pre.length (k0 + (bxs rs).length) b (P0 + rs.length) → LX 1 σ L → P0 ≤ k0 → PrX σ P0 k0 rs → BxA σ b k0 (bxs rs) → k0 + (bxs (rs ++ o.map (lyI L d))).length ≤ 24 → o.length < fuel →
    ok (f_X1_layOver_7 N hd fuel x1 (nI P0) (nI rs.length) σ) (LPost L c (pre.length + (cdO d o).length) k0 b P0 (cmb L.gap false (rs ++ o.map (lyI L d))) σ) := by
  intro o
  induction o with
  | nil => intro fuel rs c pre post σ k0 b P0 h; exact absurd rfl h
  | cons i o ih =>
    intro fuel rs c pre post σ k0 b P0 _ hok hrs hcc hp38 hp58 ls lx hP pr bx hk hf
    obtain ⟨fuel, rfl⟩ : ∃ f, fuel = f + 1 := ⟨fuel - 1, by omega⟩
    have ri := okI_RB hL d i (hok i List.mem_cons_self)
    have bp := bxs_pos (fun r hr => (hrs r hr).2)
    have esp : rs ++ (i :: o).map (lyI L d) = (rs ++ [lyI L d i]) ++ o.map (lyI L d) := by rw [List.map_cons, List.append_assoc]; rfl
    have hk1 : k0 + (bxs rs).length + (lyI L d i).2.2.length + (bxs (o.map (lyI L d))).length ≤ 24 := by
      rw [esp, bxs_app, bxs_snoc, List.length_append, List.length_append] at hk; omega
    have cl := ls.1.1
    obtain ⟨post', hpost, hpd, hlen⟩ : ∃ post', cdO d (i :: o) ++ post = cdI d i ++ post' ∧ (o = [] → post' = post) ∧ (o ≠ [] → post' = (-58) :: (cdO d o ++ post) ∧ (cdO d (i :: o)).length = (cdI d i).length + 1 + (cdO d o).length) := by
      cases o with
      | nil => exact ⟨post, rfl, fun _ => rfl, fun h => absurd rfl h⟩
      | cons i' o => exact ⟨(-58) :: (cdO d (i' :: o) ++ post), by show (cdI d i ++ (-58) :: cdO d (i' :: o)) ++ post = _; rw [List.append_assoc]; rfl, fun h => (nomatch h), fun _ => ⟨rfl, by show (cdI d i ++ (-58) :: cdO d (i' :: o)).length = _; rw [List.length_append, List.length_cons]; omega⟩⟩
    have ql : pre.length + (cdI d i).length ≤ 240 := by rw [hcc, hpost, List.length_append, List.length_append] at cl; omega
    have cc1 : c = pre ++ (cdI d i ++ post') := by rw [hcc, hpost]
    have hp' : post'.headD (-45) ≠ -38 := by
      by_cases e : o = []
      · rw [hpd e]; exact hp38
      · rw [(hlen e).1]; show ((-58) : Int32) ≠ -38; decide
    skip
    rw [f_X1_layOver_7, if_neg (show ¬ (24 : Int32) ≤ nI rs.length from nI_ge (b := 24) (by omega) (by omega)), ls.2.2.1]
    refine ok_bd_of (hc i c pre post' σ _ b _ (hok i List.mem_cons_self) cc1 hp' ls lx (by omega) (by omega)) (fun v σ1 ⟨y1, y2, y3, y4⟩ => ?_)
    have y1' : v = nI ((lyI L d i).1 * 65536 + (lyI L d i).2.1) := y1
    have y2' : LSt σ1 c (pre.length + (cdI d i).length) (k0 + (bxs rs).length + (lyI L d i).2.2.length) b (P0 + rs.length) := y2
    have y3' : BxA σ1 b (k0 + (bxs rs).length) (lyI L d i).2.2 := y3
    have y4' : FrP (PLy (k0 + (bxs rs).length) (P0 + rs.length)) σ σ1 := y4
    refine ok_bo_of (x_wait (k1 := k0 + (bxs rs).length) (x2 := v) y2' (by omega)) (fun σ2 ⟨z1, z2, z3, z4⟩ => ?_)
    have F2 : FrP (PLy k0 P0) σ σ2 := (y4'.wide (fun a j h => by
      rcases h with h | h | h | ⟨h, h'⟩ | ⟨h, h'⟩
      · exact Or.inl h
      · exact Or.inr (Or.inl h)
      · exact Or.inr (Or.inr (Or.inl h))
      · exact Or.inr (Or.inr (Or.inr (Or.inl ⟨h, by omega⟩)))
      · exact Or.inr (Or.inr (Or.inr (Or.inr ⟨h, by omega⟩))))).trans (z4.wide (fun a j h => by
      rcases h with h | ⟨h, h'⟩
      · exact Or.inr (Or.inr (Or.inl h))
      · exact Or.inr (Or.inr (Or.inr (Or.inr ⟨h, by omega⟩)))))
    have nb : ∀ a j, a = 26 ∨ a = 27 ∨ a = 28 ∨ a = 29 ∨ a = 30 → σ2.1 a j = σ1.1 a j := fun a j ha => (z4 a j (fun q => by
      rcases q with q | ⟨q | q, _⟩ <;> rcases ha with h | h | h | h | h <;> (rw [h] at q; cases q))).1
    have pr2 : PrX σ2 P0 k0 (rs ++ [lyI L d i]) := by
      rw [PrX_snoc]
      refine ⟨PrX_fr pr (fun j h1 h2 => ?_), z2, by rw [z3, y1']⟩
      have n1 : ∀ a, a = 31 ∨ a = 32 → σ2.1 a j = σ.1 a j := fun a ha => by
        rw [(z4 a j (fun q => by
          rcases q with q | ⟨_, q⟩
          · rcases ha with h | h <;> (rw [h] at q; cases q)
          · omega)).1, (y4' a j (fun q => by
          rcases q with q | q | q | ⟨q, _⟩ | ⟨_, q⟩
          · rcases ha with h | h <;> (rw [h] at q; cases q)
          · rcases ha with h | h <;> (rw [h] at q; cases q)
          · rcases ha with h | h <;> (rw [h] at q; cases q)
          · rcases ha with h | h <;> (rw [h] at q; rcases q with q | q | q | q | q <;> cases q)
          · omega)).1]
      exact ⟨n1 31 (Or.inl rfl), n1 32 (Or.inr rfl)⟩
    have bx2 : BxA σ2 b k0 (bxs (rs ++ [lyI L d i])) := by
      rw [bxs_snoc, BxA_app]
      exact ⟨BxA_fr (BxA_frP bx (Nat.le_refl _) y4') (fun j _ _ a ha => nb a j ha), BxA_fr y3' (fun j _ _ a ha => nb a j ha)⟩
    have e05 : k0 + (bxs rs).length + (lyI L d i).2.2.length = k0 + (bxs (rs ++ [lyI L d i])).length := by rw [bxs_snoc, List.length_append]; omega
    have e13 : P0 + rs.length + 1 = P0 + (rs ++ [lyI L d i]).length := by rw [List.length_append, List.length_singleton]; omega
    rw [e05, e13] at z1
    have hrs2 : ∀ r, r ∈ rs ++ [lyI L d i] → RB r ∧ 1 ≤ r.2.2.length := fun r hr => by
      rcases List.mem_append.mp hr with q | q
      · exact hrs r q
      · rw [List.mem_singleton.mp q]; exact ri
    have lx2 := LXf lx F2
    have gc : c.getD (pre.length + (cdI d i).length) (-45) = post'.headD (-45) := by
      rw [cc1, ← List.append_assoc, ← List.length_append, gd_app]
    rw [z1.2.1, x_codeAt z1.1 _ (by omega), bo_some, gc]
    by_cases e : o = []
    · subst e
      rw [hpd rfl, if_neg hp58]
      unfold f_X1_layOver_65
      have st := x_settleP hN (bs := false) hL lx2 (rs := rs ++ [lyI L d i]) (b := b) (base := P0) (k := k0) (fun q => by
        have := congrArg List.length q
        rw [List.length_append, List.length_singleton] at this
        simp at this) (by rw [← e13]; omega) (by rw [← e05]; omega) z1.2.2.2.2 z1.2.2.1 pr2 bx2 (fun r hr => (hrs2 r hr).1)
      have st' : ok (f_X1_settle N (nI P0) 0 σ2) _ := st
      refine ok_bd_of st' (fun w σ3 ⟨u1, u2, u3, u4⟩ => ?_)
      rw [ok_some, esp, List.map_nil, List.append_nil]
      have u4' : FrP (fun a j => (a = 5613 ∧ j = 0) ∨ ((a = 28 ∨ a = 29) ∧ k0 ≤ j ∧ j < k0 + (cmb L.gap false (rs ++ [lyI L d i])).2.2.length)) σ2 σ3 := u4
      have nn : ∀ a j, a ≠ 5613 → a ≠ 28 → a ≠ 29 → σ3.1 a j = σ2.1 a j := fun a j h1 h2 h3 => (u4' a j (fun q => by
        rcases q with ⟨q, _⟩ | ⟨q | q, _⟩
        · exact h1 q
        · exact h2 q
        · exact h3 q)).1
      obtain ⟨t, l1, l2, l3, l4⟩ := z1
      refine ⟨u1, ⟨⟨t.1, ?_, fun j hj => ?_⟩, ?_, ?_, ?_, u2⟩, u3, F2.trans (u4'.wide (fun a j h => ?_))⟩
      · rw [nn _ _ (by decide) (by decide) (by decide)]; exact t.2.1
      · rw [nn _ _ (by decide) (by decide) (by decide)]; exact t.2.2 j hj
      · rw [nn _ _ (by decide) (by decide) (by decide)]; exact l1
      · rw [nn _ _ (by decide) (by decide) (by decide), cmb_len]; exact l2
      · rw [nn _ _ (by decide) (by decide) (by decide)]; exact l3
      · rcases h with ⟨h, _⟩ | ⟨h | h, h', _⟩
        · exact Or.inr (Or.inr (Or.inl h))
        · exact Or.inr (Or.inr (Or.inr (Or.inl ⟨Or.inr (Or.inr (Or.inl h)), h'⟩)))
        · exact Or.inr (Or.inr (Or.inr (Or.inl ⟨Or.inr (Or.inr (Or.inr (Or.inl h))), h'⟩)))
    · obtain ⟨hl1, hl2⟩ := hlen e
      rw [hl1, List.headD_cons, if_pos rfl, nI_1, nI_1]
      have cc2 : c = (pre ++ (cdI d i ++ [(-58)])) ++ (cdO d o ++ post) := by rw [cc1, hl1]; simp
      have ep : (pre ++ (cdI d i ++ [(-58)])).length = pre.length + (cdI d i).length + 1 := by rw [List.length_append, List.length_append, List.length_singleton]; omega
      have ls3 := z1.cur (pre.length + (cdI d i).length + 1)
      rw [← ep] at ls3
      have f3 : FrP (PLy k0 P0) σ2 (si σ2 5614 0 (nI (pre.length + (cdI d i).length + 1))) := (FrP.refl _ _).si _ _ _ (Or.inl rfl)
      have nx := ih fuel (rs ++ [lyI L d i]) c (pre ++ (cdI d i ++ [(-58)])) post (si σ2 5614 0 (nI (pre.length + (cdI d i).length + 1))) k0 b P0 e (fun x hx => hok x (List.mem_cons_of_mem _ hx)) hrs2 cc2 hp38 hp58 (by rw [← ep]; exact ls3) (LXf lx2 f3) hP (PrX_fr pr2 (fun j _ _ => ⟨by rw [si_rd, if_neg (by decide)], by rw [si_rd, if_neg (by decide)]⟩)) (BxA_fr bx2 (fun j _ _ a ha => by rw [si_rd, if_neg (by rcases ha with h | h | h | h | h <;> (rw [h]; decide))])) (by rw [← esp]; exact hk) (by rw [List.length_cons] at hf; omega)
      rw [← esp, ep, List.length_append, List.length_singleton, show pre.length + (cdI d i).length + 1 + (cdO d o).length = pre.length + (cdO d (i :: o)).length by rw [hl2]; omega] at nx
      exact nx.mono (fun a ⟨q1, q2, q3, q4⟩ => ⟨q1, q2, q3, (F2.trans f3).trans q4⟩)
theorem x_over {N : Nat} (hN : 802 < N) {L : Lv} (hL : LOk L) {hd : Int32 → St → Option (Int32 × St)} {x1 : Int32} {d : Nat} (hc : CI L (f_X1_layItem N hd x1) d) : CO L (f_X1_layOver N hd x1) d := by
  intro o c pre post σ k b P ho hcc h38 h58 ls lx hP hk
  unfold f_X1_layOver
  rw [ls.2.2.2.2]
  have el : (lyO L d o).2.2.length = (bxs (o.map (lyI L d))).length := cmb_len _ _ _
  have ol : o.length ≤ 24 := by
    have := bxs_pos (rs := o.map (lyI L d)) (fun r hr => by
      obtain ⟨i, i1, i2⟩ := List.mem_map.mp hr
      rw [← i2]; exact (okI_RB hL d i (ho.2 i i1)).2)
    rw [List.length_map] at this; omega
  exact x_over7 hN hL hc o N [] c pre post σ k b P ho.1 ho.2 (fun r hr => (nomatch hr)) hcc h38 h58 ls lx hP trivial trivial (by rw [List.nil_append]; omega) (by omega)
theorem x_beside7 {N : Nat} (hN : 802 < N) {L : Lv} (hL : LOk L) {hd : Int32 → St → Option (Int32 × St)} {x1 : Int32} {d : Nat} (hc : CO L (f_X1_layOver N hd x1) d) : ∀ (o : List (List (It d))) (fuel : Nat) (rs : List Rs) (c pre post : List Int32) (σ : St) (k0 b P0 : Nat), o ≠ [] → (∀ i, i ∈ o → okO L d i) → (∀ r, r ∈ rs → RB r ∧ 1 ≤ r.2.2.length) → c = pre ++ (cdB d o ++ post) → post.headD (-45) ≠ -38 → post.headD (-45) ≠ -58 → post.headD (-45) ≠ -42 → LSt σ c pre.length (k0 + (bxs rs).length) b (P0 + rs.length) → LX 1 σ L → P0 ≤ k0 → PrX σ P0 k0 rs → BxA σ b k0 (bxs rs) → k0 + (bxs (rs ++ o.map (lyO L d))).length ≤ 24 → o.length < fuel →
    ok (f_X1_layBeside_7 N hd fuel x1 (nI P0) (nI rs.length) σ) (LPost L c (pre.length + (cdB d o).length) k0 b P0 (cmb L.gap true (rs ++ o.map (lyO L d))) σ) := by
  intro o
  induction o with
  | nil => intro fuel rs c pre post σ k0 b P0 h; exact absurd rfl h
  | cons i o ih =>
    intro fuel rs c pre post σ k0 b P0 _ hok hrs hcc hp38 hp58 hp42 ls lx hP pr bx hk hf
    obtain ⟨fuel, rfl⟩ : ∃ f, fuel = f + 1 := ⟨fuel - 1, by omega⟩
    have ri := okO_RB hL (hok i List.mem_cons_self)
    have bp := bxs_pos (fun r hr => (hrs r hr).2)
    have esp : rs ++ (i :: o).map (lyO L d) = (rs ++ [lyO L d i]) ++ o.map (lyO L d) := by rw [List.map_cons, List.append_assoc]; rfl
    have hk1 : k0 + (bxs rs).length + (lyO L d i).2.2.length + (bxs (o.map (lyO L d))).length ≤ 24 := by
      rw [esp, bxs_app, bxs_snoc, List.length_append, List.length_append] at hk; omega
    have cl := ls.1.1
    obtain ⟨post', hpost, hpd, hlen⟩ : ∃ post', cdB d (i :: o) ++ post = cdO d i ++ post' ∧ (o = [] → post' = post) ∧ (o ≠ [] → post' = (-42) :: (cdB d o ++ post) ∧ (cdB d (i :: o)).length = (cdO d i).length + 1 + (cdB d o).length) := by
      cases o with
      | nil => exact ⟨post, rfl, fun _ => rfl, fun h => absurd rfl h⟩
      | cons i' o => exact ⟨(-42) :: (cdB d (i' :: o) ++ post), by show (cdO d i ++ (-42) :: cdB d (i' :: o)) ++ post = _; rw [List.append_assoc]; rfl, fun h => (nomatch h), fun _ => ⟨rfl, by show (cdO d i ++ (-42) :: cdB d (i' :: o)).length = _; rw [List.length_append, List.length_cons]; omega⟩⟩
    have ql : pre.length + (cdO d i).length ≤ 240 := by rw [hcc, hpost, List.length_append, List.length_append] at cl; omega
    have cc1 : c = pre ++ (cdO d i ++ post') := by rw [hcc, hpost]
    have hp' : post'.headD (-45) ≠ -38 := by
      by_cases e : o = []
      · rw [hpd e]; exact hp38
      · rw [(hlen e).1]; show ((-42) : Int32) ≠ -38; decide
    have hp58' : post'.headD (-45) ≠ -58 := by
      by_cases e : o = []
      · rw [hpd e]; exact hp58
      · rw [(hlen e).1]; show (-42 : Int32) ≠ -58; decide
    rw [f_X1_layBeside_7, if_neg (show ¬ (24 : Int32) ≤ nI rs.length from nI_ge (b := 24) (by omega) (by omega)), ls.2.2.1]
    refine ok_bd_of (hc i c pre post' σ _ b _ (hok i List.mem_cons_self) cc1 hp' hp58' ls lx (by omega) (by omega)) (fun v σ1 ⟨y1, y2, y3, y4⟩ => ?_)
    have y1' : v = nI ((lyO L d i).1 * 65536 + (lyO L d i).2.1) := y1
    have y2' : LSt σ1 c (pre.length + (cdO d i).length) (k0 + (bxs rs).length + (lyO L d i).2.2.length) b (P0 + rs.length) := y2
    have y3' : BxA σ1 b (k0 + (bxs rs).length) (lyO L d i).2.2 := y3
    have y4' : FrP (PLy (k0 + (bxs rs).length) (P0 + rs.length)) σ σ1 := y4
    refine ok_bo_of (x_wait (k1 := k0 + (bxs rs).length) (x2 := v) y2' (by omega)) (fun σ2 ⟨z1, z2, z3, z4⟩ => ?_)
    have F2 : FrP (PLy k0 P0) σ σ2 := (y4'.wide (fun a j h => by
      rcases h with h | h | h | ⟨h, h'⟩ | ⟨h, h'⟩
      · exact Or.inl h
      · exact Or.inr (Or.inl h)
      · exact Or.inr (Or.inr (Or.inl h))
      · exact Or.inr (Or.inr (Or.inr (Or.inl ⟨h, by omega⟩)))
      · exact Or.inr (Or.inr (Or.inr (Or.inr ⟨h, by omega⟩))))).trans (z4.wide (fun a j h => by
      rcases h with h | ⟨h, h'⟩
      · exact Or.inr (Or.inr (Or.inl h))
      · exact Or.inr (Or.inr (Or.inr (Or.inr ⟨h, by omega⟩)))))
    have nb : ∀ a j, a = 26 ∨ a = 27 ∨ a = 28 ∨ a = 29 ∨ a = 30 → σ2.1 a j = σ1.1 a j := fun a j ha => (z4 a j (fun q => by
      rcases q with q | ⟨q | q, _⟩ <;> rcases ha with h | h | h | h | h <;> (rw [h] at q; cases q))).1
    have pr2 : PrX σ2 P0 k0 (rs ++ [lyO L d i]) := by
      rw [PrX_snoc]
      refine ⟨PrX_fr pr (fun j h1 h2 => ?_), z2, by rw [z3, y1']⟩
      have n1 : ∀ a, a = 31 ∨ a = 32 → σ2.1 a j = σ.1 a j := fun a ha => by
        rw [(z4 a j (fun q => by
          rcases q with q | ⟨_, q⟩
          · rcases ha with h | h <;> (rw [h] at q; cases q)
          · omega)).1, (y4' a j (fun q => by
          rcases q with q | q | q | ⟨q, _⟩ | ⟨_, q⟩
          · rcases ha with h | h <;> (rw [h] at q; cases q)
          · rcases ha with h | h <;> (rw [h] at q; cases q)
          · rcases ha with h | h <;> (rw [h] at q; cases q)
          · rcases ha with h | h <;> (rw [h] at q; rcases q with q | q | q | q | q <;> cases q)
          · omega)).1]
      exact ⟨n1 31 (Or.inl rfl), n1 32 (Or.inr rfl)⟩
    have bx2 : BxA σ2 b k0 (bxs (rs ++ [lyO L d i])) := by
      rw [bxs_snoc, BxA_app]
      exact ⟨BxA_fr (BxA_frP bx (Nat.le_refl _) y4') (fun j _ _ a ha => nb a j ha), BxA_fr y3' (fun j _ _ a ha => nb a j ha)⟩
    have e05 : k0 + (bxs rs).length + (lyO L d i).2.2.length = k0 + (bxs (rs ++ [lyO L d i])).length := by rw [bxs_snoc, List.length_append]; omega
    have e13 : P0 + rs.length + 1 = P0 + (rs ++ [lyO L d i]).length := by rw [List.length_append, List.length_singleton]; omega
    rw [e05, e13] at z1
    have hrs2 : ∀ r, r ∈ rs ++ [lyO L d i] → RB r ∧ 1 ≤ r.2.2.length := fun r hr => by
      rcases List.mem_append.mp hr with q | q
      · exact hrs r q
      · rw [List.mem_singleton.mp q]; exact ri
    have lx2 := LXf lx F2
    have gc : c.getD (pre.length + (cdO d i).length) (-45) = post'.headD (-45) := by
      rw [cc1, ← List.append_assoc, ← List.length_append, gd_app]
    rw [z1.2.1, x_codeAt z1.1 _ (by omega), bo_some, gc]
    by_cases e : o = []
    · subst e
      rw [hpd rfl, if_neg hp42]
      unfold f_X1_layBeside_65
      have st := x_settleP hN (bs := true) hL lx2 (rs := rs ++ [lyO L d i]) (b := b) (base := P0) (k := k0) (fun q => by
        have := congrArg List.length q
        rw [List.length_append, List.length_singleton] at this
        simp at this) (by rw [← e13]; omega) (by rw [← e05]; omega) z1.2.2.2.2 z1.2.2.1 pr2 bx2 (fun r hr => (hrs2 r hr).1)
      have st' : ok (f_X1_settle N (nI P0) 1 σ2) _ := st
      refine ok_bd_of st' (fun w σ3 ⟨u1, u2, u3, u4⟩ => ?_)
      rw [ok_some, esp, List.map_nil, List.append_nil]
      have u4' : FrP (fun a j => (a = 5613 ∧ j = 0) ∨ ((a = 28 ∨ a = 29) ∧ k0 ≤ j ∧ j < k0 + (cmb L.gap true (rs ++ [lyO L d i])).2.2.length)) σ2 σ3 := u4
      have nn : ∀ a j, a ≠ 5613 → a ≠ 28 → a ≠ 29 → σ3.1 a j = σ2.1 a j := fun a j h1 h2 h3 => (u4' a j (fun q => by
        rcases q with ⟨q, _⟩ | ⟨q | q, _⟩
        · exact h1 q
        · exact h2 q
        · exact h3 q)).1
      obtain ⟨t, l1, l2, l3, l4⟩ := z1
      refine ⟨u1, ⟨⟨t.1, ?_, fun j hj => ?_⟩, ?_, ?_, ?_, u2⟩, u3, F2.trans (u4'.wide (fun a j h => ?_))⟩
      · rw [nn _ _ (by decide) (by decide) (by decide)]; exact t.2.1
      · rw [nn _ _ (by decide) (by decide) (by decide)]; exact t.2.2 j hj
      · rw [nn _ _ (by decide) (by decide) (by decide)]; exact l1
      · rw [nn _ _ (by decide) (by decide) (by decide), cmb_len]; exact l2
      · rw [nn _ _ (by decide) (by decide) (by decide)]; exact l3
      · rcases h with ⟨h, _⟩ | ⟨h | h, h', _⟩
        · exact Or.inr (Or.inr (Or.inl h))
        · exact Or.inr (Or.inr (Or.inr (Or.inl ⟨Or.inr (Or.inr (Or.inl h)), h'⟩)))
        · exact Or.inr (Or.inr (Or.inr (Or.inl ⟨Or.inr (Or.inr (Or.inr (Or.inl h))), h'⟩)))
    · obtain ⟨hl1, hl2⟩ := hlen e
      rw [hl1, List.headD_cons, if_pos rfl, nI_1, nI_1]
      have cc2 : c = (pre ++ (cdO d i ++ [(-42)])) ++ (cdB d o ++ post) := by rw [cc1, hl1]; simp
      have ep : (pre ++ (cdO d i ++ [(-42)])).length = pre.length + (cdO d i).length + 1 := by rw [List.length_append, List.length_append, List.length_singleton]; omega
      have ls3 := z1.cur (pre.length + (cdO d i).length + 1)
      rw [← ep] at ls3
      have f3 : FrP (PLy k0 P0) σ2 (si σ2 5614 0 (nI (pre.length + (cdO d i).length + 1))) := (FrP.refl _ _).si _ _ _ (Or.inl rfl)
      have nx := ih fuel (rs ++ [lyO L d i]) c (pre ++ (cdO d i ++ [(-42)])) post (si σ2 5614 0 (nI (pre.length + (cdO d i).length + 1))) k0 b P0 e (fun x hx => hok x (List.mem_cons_of_mem _ hx)) hrs2 cc2 hp38 hp58 hp42 (by rw [← ep]; exact ls3) (LXf lx2 f3) hP (PrX_fr pr2 (fun j _ _ => ⟨by rw [si_rd, if_neg (by decide)], by rw [si_rd, if_neg (by decide)]⟩)) (BxA_fr bx2 (fun j _ _ a ha => by rw [si_rd, if_neg (by rcases ha with h | h | h | h | h <;> (rw [h]; decide))])) (by rw [← esp]; exact hk) (by rw [List.length_cons] at hf; omega)
      rw [← esp, ep, List.length_append, List.length_singleton, show pre.length + (cdO d i).length + 1 + (cdB d o).length = pre.length + (cdB d (i :: o)).length by rw [hl2]; omega] at nx
      exact nx.mono (fun a ⟨q1, q2, q3, q4⟩ => ⟨q1, q2, q3, (F2.trans f3).trans q4⟩)
theorem x_beside {N : Nat} (hN : 802 < N) {L : Lv} (hL : LOk L) : ∀ (d D : Nat), d ≤ 4 → d < D → CB L (f_X1_layBeside N D) d := by
  have main : ∀ (d D : Nat), d ≤ 4 → CI L (f_X1_layItem N (f_X1_layBeside N D) (nI (4 - d))) d → CB L (f_X1_layBeside N (D + 1)) d := by
    intro d D hd ci bl c pre post σ k b P hb hcc h38 h58 h42 ls lx hP hk
    rw [f_X1_layBeside]
    unfold f_X1_layBeside_b
    rw [ls.2.2.2.2]
    have el : (lyB L d bl).2.2.length = (bxs (bl.map (lyO L d))).length := cmb_len _ _ _
    have ol : bl.length ≤ 24 := by
      have := bxs_pos (rs := bl.map (lyO L d)) (fun r hr => by
        obtain ⟨i, i1, i2⟩ := List.mem_map.mp hr
        rw [← i2]; exact (okO_RB hL (hb.2 i i1)).2)
      rw [List.length_map] at this; omega
    exact x_beside7 hN hL (x_over hN hL ci) bl N [] c pre post σ k b P hb.1 hb.2 (fun r hr => (nomatch hr)) hcc h38 h58 h42 ls lx hP trivial trivial (by rw [List.nil_append]; omega) (by omega)
  intro d
  induction d with
  | zero =>
    intro D h1 h2
    obtain ⟨D, rfl⟩ : ∃ x, D = x + 1 := ⟨D - 1, by omega⟩
    exact main 0 D h1 (fun i c pre post σ k b P hi hc hp ls lx hP hk => x_item0 hL hi hc hp ls lx hk)
  | succ d ih =>
    intro D h1 h2
    obtain ⟨D, rfl⟩ : ∃ x, D = x + 1 := ⟨D - 1, by omega⟩
    exact main (d + 1) D h1 (x_itemS hL h1 (ih D (by omega) (by omega)))
