/-! spellings, the reference: ideas, then covers -/
def tln (L : Lv) (T : Tv) (s o : Nat) : List (List Nat) := ((List.range o).filter (tlB L T)).map (fun o => [s, o])
def idn (L : Lv) (T : Tv) (n : Nat) : List (List Nat) := ((List.range n).filter (idB L T)).flatMap (fun s => [s] :: tln L T s L.n)
theorem tln_yes {L : Lv} {T : Tv} {s o : Nat} (h : tlB L T o = true) : tln L T s (o + 1) = tln L T s o ++ [[s, o]] := by
  unfold tln
  rw [List.range_succ, List.filter_append, List.filter_cons_of_pos h, List.filter_nil, List.map_append]; rfl
theorem tln_no {L : Lv} {T : Tv} {s o : Nat} (h : tlB L T o = false) : tln L T s (o + 1) = tln L T s o := by
  unfold tln
  rw [List.range_succ, List.filter_append, List.filter_cons_of_neg (by rw [h]; decide), List.filter_nil, List.append_nil]
theorem idn_yes {L : Lv} {T : Tv} {s : Nat} (h : idB L T s = true) : idn L T (s + 1) = idn L T s ++ ([s] :: tln L T s L.n) := by
  unfold idn
  rw [List.range_succ, List.filter_append, List.filter_cons_of_pos h, List.filter_nil, List.flatMap_append, List.flatMap_cons, List.flatMap_nil, List.append_nil]
theorem idn_no {L : Lv} {T : Tv} {s : Nat} (h : idB L T s = false) : idn L T (s + 1) = idn L T s := by
  unfold idn
  rw [List.range_succ, List.filter_append, List.filter_cons_of_neg (by rw [h]; decide), List.filter_nil, List.append_nil]
theorem RowS_1 {τ : St} {s : Nat} : RowS (si τ 39 0 (nI s)) [s] := fun j hj => by
  have : j = 0 := by rw [List.length_singleton] at hj; omega
  subst this
  rw [si_rd, if_pos rfl, if_pos rfl]; rfl
theorem m_go68 {N : Nat} (hN : 802 < N) {L : Lv} (hL : LOk L) {T : Tv} (hT : TvOk T) {t most M : Nat} {x2 : Int32} {kp : Bool} {K : St → List (List Nat) → Prop} (hK : kp = true → KOk N L T t K) (hmost : most ≤ 100000) (hM : M ≤ 140000) {s : Nat} (hs : s < L.n) {P : List (List Nat)} {τ0 : St} {k27 : Int32 → Int32 → Int32 → St → Option (Int32 × St)} {Q : Int32 × St → Prop}
    (kk : ∀ τ', GI K kp most (M + 1600) τ' (P ++ (tln L T s L.n).flatMap (kds L T)) → MS τ' L t T → Fr VE τ0 τ' → ok (k27 (nI t) x2 (nI (s + 1)) τ') Q) :
    ∀ (k fuel o : Nat) (τ : St), L.n - o = k → k < fuel → o ≤ L.n → MS τ L t T → Fr VE τ0 τ → τ.1 39 0 = nI s → GI K kp most (M + 40 * o) τ (P ++ (tln L T s o).flatMap (kds L T)) → ok (f_X12_goThrough_68 N k27 fuel (nI t) x2 (nI s) (nI o) τ) Q := by
  have h40 := hL.1
  intro k
  induction k with
  | zero =>
    intro fuel o τ hk hf ho ms f e39 gi
    obtain ⟨fuel, rfl⟩ : ∃ f, fuel = f + 1 := ⟨fuel - 1, by omega⟩
    have e : o = L.n := by omega
    subst e
    rw [f_X12_goThrough_68, show ib 0 2 = true from rfl, grd_true, ms.2.2.1, if_pos (nI_le (by omega) (by omega)), nI_1]
    exact kk τ (gi.up (by omega)) ms f
  | succ k ih =>
    intro fuel o τ hk hf ho ms f e39 gi
    obtain ⟨fuel, rfl⟩ : ∃ f, fuel = f + 1 := ⟨fuel - 1, by omega⟩
    have ho' : o < L.n := by omega
    rw [f_X12_goThrough_68, show ib 0 2 = true from rfl, grd_true, ms.2.2.1, if_neg (nI_ge (by omega) (by omega)), m_isTail hN ms.1 ms.2.1 hL hT ho', bo_some, nI_1]
    cases hb : tlB L T o with
    | false =>
      rw [if_pos (show b2 false = 0 from rfl)]
      refine ih fuel (o + 1) τ (by omega) (by omega) (by omega) ms f e39 ?_
      rw [tln_no hb]; exact gi.up (by omega)
    | true =>
      rw [if_neg (show ¬ b2 true = 0 by decide), show ib 1 12 = true from rfl, grd_true]
      have f1 : Fr VE τ (si τ 39 1 (nI o)) := (Fr.refl _ _).si _ _ _ rfl
      have bd := m_body hN hL hK hmost (show M + 40 * o ≤ 150000 by omega) (l := [s, o]) (t := t) (τ0 := si τ 39 1 (nI o)) ⟨by show 2 ≤ 10; omega, fun x hx => by
        rcases List.mem_cons.mp hx with e | e
        · rw [e]; exact hs
        · rw [List.mem_singleton.mp e]; exact ho'⟩ (by show 1 ≤ 2; omega) (by show 2 ≤ 8; omega) (ms.fr f1 rfl) (fun j hj => by
          have hj2 : j < 2 := hj
          rw [si_rd, if_pos rfl]
          by_cases e : j = 1
          · rw [if_pos e, e]; rfl
          · have : j = 0 := by omega
            rw [if_neg e, this]; exact e39) (gi.fr hK ((FrP.refl _ _).si _ _ _ (Or.inr (Or.inl rfl))))
      have bd' : ok (f_X12_bodyComes N 2 (nI t) (si τ 39 1 (nI o))) _ := bd
      refine ok_bo_of bd' (fun τ1 ⟨z1, z2, z3⟩ => ?_)
      have f2 : Fr VE τ τ1 := f1.trans (z3.toFr (fun a j h => PB_V h))
      refine ih fuel (o + 1) τ1 (by omega) (by omega) (by omega) z2 (f.trans f2) ?_ ?_
      · rw [(z3 39 0 (fun q => by
          rcases q with ⟨_, q⟩ | q | q | q
          · exact absurd q (by show ¬ 2 ≤ 0; omega)
          · cases q
          · cases q
          · cases q)).1, si_rd, if_pos rfl, if_neg (by decide)]
        exact e39
      · rw [tln_yes hb, List.flatMap_append, ← List.append_assoc, List.flatMap_cons, List.flatMap_nil, List.append_nil]
        exact z1.up (by omega)
abbrev VGo : List Nat := [34, 35, 36, 38, 1062, 1063, 37, 39, 1060, 1061, 52, 53, 54, 58, 59, 60]
def GoPost (L : Lv) (T : Tv) (K : St → List (List Nat) → Prop) (kp : Bool) (most : Nat) (τ : St) (a : Int32 × St) : Prop := ((a.1 = nI (sps L T).length ∧ (sps L T).length ≤ most ∧ (kp = true → K a.2 (sps L T))) ∨ (a.1 = -3 ∧ most < (sps L T).length)) ∧ Fr VGo τ a.2
theorem m_go27 {N : Nat} (hN : 802 < N) {L : Lv} (hL : LOk L) {T : Tv} (hT : TvOk T) {t most : Nat} {kp : Bool} {K : St → List (List Nat) → Prop} (hK : kp = true → KOk N L T t K) (hmost : most ≤ 100000) {τ0 : St} (lf0 : LeftM L T τ0) :
    ∀ (k fuel s : Nat) (τ : St), L.n - s = k → k < fuel → s ≤ L.n → MS τ L t T → Fr VE τ0 τ → GI K kp most (1640 * s) τ ((idn L T s).flatMap (kds L T)) → ok (f_X12_goThrough_27 N fuel (nI t) (nI most) (nI s) τ) (GoPost L T K kp most τ0) := by
  have h40 := hL.1
  intro k
  induction k with
  | zero =>
    intro fuel s τ hk hf hs ms f gi
    obtain ⟨fuel, rfl⟩ : ∃ f, fuel = f + 1 := ⟨fuel - 1, by omega⟩
    have e : s = L.n := by omega
    subst e
    have t40 := ms.2.1.1
    rw [f_X12_goThrough_27, show ib 0 2 = true from rfl, grd_true, ms.2.2.1, if_pos (nI_le (by omega) (by omega))]
    refine ok_bo_of (m_beginCover hN τ) (fun τ1 ⟨y1, y2⟩ => ?_)
    have f1 : Fr VE τ τ1 := y2.toFr (fun a j h => by rw [show a = 37 from h]; rfl)
    have ms1 := ms.fr f1 rfl
    have fin : ∀ mx, 11 ≤ mx ∧ mx ≤ 12 → ok (f_X12_goThrough_142 N (nI t) (nI most) 0 (nI mx) τ1) (GoPost L T K kp most τ0) := by
      intro mx hmx
      unfold f_X12_goThrough_142
      have cf := m_coversFrom hN hL hT hK hmost hmx 20 0 1 0 (1640 * L.n) [] τ1 _ (by omega) Rch_1 (fun _ => rfl) rfl (fun s hs => (nomatch hs)) (by omega) (fun h => absurd h (by omega)) ms1 (lf0.fr (f.trans f1)) y1 (fun j hj => (nomatch hj)) (gi.fr hK (y2.wide (fun a j h => Or.inl h)))
      have cf' : ok (f_X12_coversFrom N 20 0 (nI mx) (nI t) τ1) _ := cf
      refine ok_bo_of cf' (fun τ2 ⟨z1, z2, z3⟩ => ?_)
      have es : (idn L T L.n).flatMap (kds L T) ++ spp L T [] (cv L T 1 0) = sps L T := by
        unfold sps bod spp
        rw [List.flatMap_append]
        congr 1
        rw [show (fun l : List Nat => [] ++ l) = id from funext fun l => List.nil_append l, List.map_id]
      rw [es] at z1
      obtain ⟨c, c1, c2, c3, c4, c5, c6⟩ := z1
      have F : Fr VGo τ0 τ2 := (f.wide rfl).trans ((f1.wide rfl).trans ((z3.toFr (V := VE) (fun a j h => PE_V h)).wide rfl))
      rw [c1]
      by_cases cc : c ≤ most
      · rw [if_pos (nI_le cc (by omega)), ok_some]
        have := c4 cc
        exact ⟨Or.inl ⟨by show nI c = _; rw [this.1], by omega, this.2⟩, F⟩
      · rw [if_neg (nI_ge (by omega) (by omega)), ok_some]
        exact ⟨Or.inr ⟨rfl, by omega⟩, F⟩
    rw [ib_n (a := t) (by omega), decide_eq_true t40, grd_true]
    by_cases q : lg_cmp (τ1.2 33 (nI t).toNatClampNeg) 0 = 0
    · rw [if_pos q]; exact fin 12 (by omega)
    · rw [if_neg q]; exact fin 11 (by omega)
  | succ k ih =>
    intro fuel s τ hk hf hs ms f gi
    obtain ⟨fuel, rfl⟩ : ∃ f, fuel = f + 1 := ⟨fuel - 1, by omega⟩
    have hs' : s < L.n := by omega
    rw [f_X12_goThrough_27, show ib 0 2 = true from rfl, grd_true, ms.2.2.1, if_neg (nI_ge (by omega) (by omega)), m_isIdea ms.1 ms.2.1 hL hs', bo_some, nI_1]
    cases hb : idB L T s with
    | false =>
      rw [if_pos (show b2 false = 0 from rfl)]
      refine ih fuel (s + 1) τ (by omega) (by omega) (by omega) ms f ?_
      rw [idn_no hb]; exact gi.up (by omega)
    | true =>
      rw [if_neg (show ¬ b2 true = 0 by decide), show ib 0 12 = true from rfl, grd_true]
      have f1 : Fr VE τ (si τ 39 0 (nI s)) := (Fr.refl _ _).si _ _ _ rfl
      have bd := m_body hN hL hK hmost (show 1640 * s ≤ 150000 by omega) (l := [s]) (t := t) (τ0 := si τ 39 0 (nI s)) ⟨by show 1 ≤ 10; omega, fun x hx => by rw [List.mem_singleton.mp hx]; exact hs'⟩ (by show 1 ≤ 1; omega) (by show 1 ≤ 8; omega) (ms.fr f1 rfl) RowS_1 (gi.fr hK ((FrP.refl _ _).si _ _ _ (Or.inr (Or.inl rfl))))
      have bd' : ok (f_X12_bodyComes N 1 (nI t) (si τ 39 0 (nI s))) _ := bd
      refine ok_bo_of bd' (fun τ1 ⟨z1, z2, z3⟩ => ?_)
      have f2 : Fr VE τ τ1 := f1.trans (z3.toFr (fun a j h => PB_V h))
      refine m_go68 hN hL hT hK hmost (M := 1640 * s + 40) (by omega) hs' (P := (idn L T s).flatMap (kds L T) ++ kds L T [s]) (τ0 := τ0) (fun τ' g1 g2 g3 => ?_) L.n N 0 τ1 (by omega) (by omega) (by omega) z2 (f.trans f2) ?_ ?_
      · refine ih fuel (s + 1) τ' (by omega) (by omega) (by omega) g2 g3 ?_
        rw [idn_yes hb, List.flatMap_append, List.flatMap_cons, ← List.append_assoc]
        exact g1.up (by omega)
      · rw [(z3 39 0 (fun q => by
          rcases q with ⟨_, q⟩ | q | q | q
          · exact absurd q (by show ¬ 1 ≤ 0; omega)
          · cases q
          · cases q
          · cases q)).1, si_rd, if_pos rfl, if_pos rfl]
      · have e0 : tln L T s 0 = [] := rfl
        rw [e0, List.flatMap_nil, List.append_nil]
        exact z1
theorem m_goThrough {N : Nat} (hN : 802 < N) {L : Lv} (hL : LOk L) {T : Tv} (hT : TvOk T) {t most : Nat} {kp : Bool} {K : St → List (List Nat) → Prop} (hK : kp = true → KOk N L T t K) (hmost : most ≤ 100000) {τ : St} (lm : LM τ L) (tm : TMt τ t T) (hK0 : kp = true → ∀ τ', Fr [34, 35, 36, 38, 1061, 1062, 1063] τ τ' → K τ' []) : ok (f_X12_goThrough N (nI t) (nI most) (b2 kp) τ) (GoPost L T K kp most τ) := by
  have h40 := hL.1
  unfold f_X12_goThrough
  refine ok_bo_of (m_asListed hN hL lm) (fun τ1 ⟨nm, f1⟩ => ?_)
  have tm1 : TMt τ1 t T := tm.frP (f1.toP (P := fun a _ => ([34, 35, 36] : List Nat).contains a = true) (fun a j h => h)) (fun a j h => by
    have : ∀ a, a ∈ ([34, 35, 36] : List Nat) → ([30, 31, 32, 33] : List Nat).contains a = false := by decide
    exact this a (List.contains_iff_mem.mp h))
  refine ok_bo_of (m_makeLeft hN hL hT ⟨nm, tm1, LM_fr lm f1 rfl⟩) (fun τ2 ⟨lf, ms, f2⟩ => ?_)
  rw [b2_z, grd_true]
  have f3 : Fr [1061, 1062, 1063] τ2 (si (si (si τ2 1061 0 0) 1062 0 (nI most)) 1063 0 (b2 kp)) := (((Fr.refl _ _).si _ _ _ rfl).si _ _ _ rfl).si _ _ _ rfl
  have r1 : (si (si (si τ2 1061 0 0) 1062 0 (nI most)) 1063 0 (b2 kp)).1 1061 0 = nI 0 := by simp only [si_rd, reduceIte, Nat.reduceEqDiff]; rfl
  have r2 : (si (si (si τ2 1061 0 0) 1062 0 (nI most)) 1063 0 (b2 kp)).1 1062 0 = nI most := by simp only [si_rd, reduceIte, Nat.reduceEqDiff]
  have r3 : (si (si (si τ2 1061 0 0) 1062 0 (nI most)) 1063 0 (b2 kp)).1 1063 0 = b2 kp := by simp only [si_rd, reduceIte, Nat.reduceEqDiff]
  generalize si (si (si τ2 1061 0 0) 1062 0 (nI most)) 1063 0 (b2 kp) = τ3 at *
  have F3 : Fr [34, 35, 36, 38, 1061, 1062, 1063] τ τ3 := (f1.wide rfl).trans ((f2.wide rfl).trans (f3.wide rfl))
  have g := m_go27 hN hL hT hK hmost (τ0 := τ3) (fun p hp => by rw [f3.i 38 rfl]; exact lf p hp) L.n N 0 τ3 (by omega) (by omega) (by omega) (ms.fr f3 rfl) (Fr.refl _ _) ⟨0, r1, by omega, by omega, fun _ => ⟨rfl, fun h => hK0 h τ3 F3⟩, r2, r3⟩
  have g' : ok (f_X12_goThrough_27 N N (nI t) (nI most) 0 τ3) (GoPost L T K kp most τ3) := g
  exact g'.mono (fun a ⟨h1, h2⟩ => ⟨h1, (F3.wide rfl).trans h2⟩)
/-! spellings -/
theorem c_spellings {N : Nat} (hN : 802 < N) {σ τ : St} {L : Lv} {nt : Nat} {T : Nat → Tv} (rl : RList σ τ L) (rT : RTerms σ τ nt T) (rc : RCache σ L nt T) (x : Int32) : ok (f_X11_spellings N x σ) (fun a => ok (f_X12_spellings N x τ) (fun c => a.1 = c.1 ∧ RCache a.2 L nt T ∧ Fr VSpX σ a.2 ∧ Fr VGo τ c.2)) := by
  have hL := rl.1
  have h40 : nt ≤ 40 := rT.1.1
  have e1 : σ.1 7600 0 = nI nt := rT.2.1.1
  have e2 : τ.1 1049 0 = nI nt := rT.2.2.1
  unfold f_X11_spellings f_X12_spellings f_X9_has f_X12_isTerm
  rw [e1, e2, m_in]
  rcases ix (x := x) (n := nt) (by omega) with ⟨q, hy⟩ | ⟨t, ht, rfl, k1, k2, k3, k4⟩
  · rw [i00 hy, show zbb 0 = true from rfl, grd_true, bo_some, if_pos rfl]
    have same : ok (some ((-2 : Int32), σ)) (fun a => ok (some ((-2 : Int32), τ)) (fun c => a.1 = c.1 ∧ RCache a.2 L nt T ∧ Fr VSpX σ a.2 ∧ Fr VGo τ c.2)) := by
      rw [ok_some, ok_some]; exact ⟨rfl, rc, Fr.refl _ _, Fr.refl _ _⟩
    rcases q with q | q
    · rw [if_pos q, if_pos rfl]; exact same
    · by_cases q0 : x < 0
      · rw [if_pos q0, if_pos rfl]; exact same
      · rw [if_neg q0, if_pos q, if_pos rfl]; exact same
  rw [if_neg k1, if_neg k2, if_neg one_ne, i10 k4, show zbb 1 = true from rfl, grd_true, bo_some, if_neg one_ne]
  have hT := TOk_t rT.1 ht
  obtain ⟨⟨r1, σ1⟩, l1, b1, rc1, f1⟩ := x_spellingsOf hN hL rT.1 rl.2.1 rT.2.1 rc ht
  have b1' : r1 = nI (min 100001 (sps L (T t)).length) := b1
  have gt := m_goThrough (N := N) (L := L) (T := T t) (t := t) (most := 100000) (kp := false) (K := fun _ _ => True) hN hL hT (fun h => (nomatch h)) (by omega) rl.2.2 (TM_t rT.2.2 h40 ht) (fun h => (nomatch h))
  obtain ⟨⟨r2, τ2⟩, m1, m2, g2⟩ := gt
  have m1' : f_X12_goThrough N (nI t) 100000 0 τ = some (r2, τ2) := m1
  rw [l1, bd_some, m1', bd_some, b1']
  rcases m2 with ⟨q1, q2, _⟩ | ⟨q1, q2⟩
  · have q1' : r2 = nI (sps L (T t)).length := q1
    rw [Nat.min_eq_right (by omega), if_pos (show nI (sps L (T t)).length ≤ (100000 : Int32) from nI_le (b := 100000) (by omega) (by omega)), ok_some, ok_some, q1']
    exact ⟨rfl, rc1, f1, g2⟩
  · have q1' : r2 = -3 := q1
    rw [Nat.min_eq_left (by omega), if_neg (show ¬ nI 100001 ≤ (100000 : Int32) by decide), ok_some, ok_some, q1']
    exact ⟨rfl, rc1, f1, g2⟩
