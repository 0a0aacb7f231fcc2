/-! blocks: a row; an item in brackets; a BLOCK -/
theorem lk_row {α : Type} {N : Nat} (hN : 802 < N) {L : Lv} {n : Nat} {B : Nat → Nat} {d kind ch : Nat} (hch : ch = 42 ∨ ch = 58) {x1 x2 : Int32} (hk1 : x1 = nI kind) {hd : Int32 → St → Option (Int32 × St)} {F G : St → Option (Int32 × St)} {nx0 : Nat → Nat → Prop} {cd : α → List Int32} {okp : α → Prop} {ly : α → Rs} {nd : St → α → Nat → Nat → Nat → Prop} {rr : List α → Rs}
    (kc : KC N L n B d G nx0 cd okp (fun x => (ly x).2.2.length) nd) (hpos : ∀ τ x k a m, nd τ x k a m → a ≤ k ∧ k < m) (hfr : ∀ τ τ' x k a m, SmN τ τ' QT QT k a m → nd τ x k a m → nd τ' x k a m) (hone : ∀ x, okp x → 1 ≤ (ly x).2.2.length)
    (hx2 : ∀ τ p sc parts, MX L τ n B p d sc parts → (τ.1 1003 0 = x2 ↔ tk B n p = 3 ∧ B (tq B n p) = ch))
    (e68 : ∀ fuel x3 x4 τ, f_X12_readRowOf_68 N hd (fuel + 1) x1 x2 x3 x4 τ = (if τ.1 1003 0 = x2 then bo (f_X12_scan N τ) (fun τ1 => bd (G τ1) (fun r τ2 => if r = 0 then some (0, τ2) else f_X12_readRowOf_105 N hd (f_X12_readRowOf_68 N hd fuel) x1 x2 x3 x4 τ2)) else some (1, si τ 1034 0 x3)))
    (e10 : ∀ τ, F τ = bd (G τ) (fun r τ5 => if r = 0 then some (0, τ5) else f_X12_readRowOf_36 N hd x1 x2 τ5)) :
    KC N L n B d F (fun k c => nx0 k c ∧ ¬ (k = 3 ∧ c = ch)) (fun l => itc (-nI ch) (l.map cd)) (fun l => l ≠ [] ∧ ∀ x, x ∈ l → okp x) (fun l => (bxs (l.map ly)).length) (fun τ l => RwI τ QT kind (nd τ) l (rr l)) := by
  intro σ τ p c st bc sc lo i fuel cx hst hbc mx hip hf hc hlo
  have b12 := cx.2.2.2.2.2.2.2.2.2.2.2.1
  have n800 := cx.1.1
  rw [e10]
  refine ok_bd_of (kc σ τ p c st bc sc lo i fuel cx hst hbc mx hip hf hc hlo) (fun r τ1 h => ?_)
  rcases h with ⟨r1, r2⟩ | ⟨r1, x, σ2, p2, i2, fuel2, sc2, m1, root, st2, e3, a1, a2, a3, a4, cx2, mx2, a5, a6, a7, a8, a9, a10, a11, a12, a13, a14, f3, g3⟩
  · have r1' : r = 0 := r1
    rw [r1', if_pos rfl, ok_some]
    exact Or.inl ⟨rfl, r2⟩
  · have r1' : r = 1 := r1
    have g3' : FrP (PRf lo) τ τ1 := g3
    have a6' : nd τ1 x root lo m1 := a6
    have a7' : τ1.1 1034 0 = nI root := a7
    have a8' : τ1.1 15 root = -1 := a8
    have mx2' : MX L τ1 n B p2 d sc2 m1 := mx2
    have a9' : sc2 = sc + (ly x).2.2.length := a9
    have s24 := cx2.2.2.2.2.2.2.2.2.2.2.2.2
    have pr := hpos _ _ _ _ _ a6'
    have eb : (bxs ([x].map ly)).length = (ly x).2.2.length := by rw [List.map_cons, List.map_nil, bxs_cons]; show ((ly x).2.2 ++ []).length = _; rw [List.append_nil]
    rw [r1', if_neg one_ne]
    unfold f_X12_readRowOf_36
    by_cases tch : tk B n p2 = 3 ∧ B (tq B n p2) = ch
    · obtain ⟨τ2, e2, w11, w14, w15, w13, w31, f2⟩ := m_makePart (k := m1) (x := x1) (by omega) mx2'.2.2.2.2.2
      have n2 : ∀ a j, ¬ (a = 1031 ∨ (([11, 13, 14, 15] : List Nat).contains a = true ∧ j = m1)) → τ2.1 a j = τ1.1 a j := fun a j q => (f2 a j q).1
      have e34 : τ2.1 1034 0 = nI root := by rw [n2 1034 0 (by intro q; rcases q with q | ⟨q, _⟩ <;> cases q)]; exact a7'
      rw [if_pos ((hx2 τ1 p2 sc2 m1 mx2').mpr tch), e2, bd_some, ib_n (a := m1) (by omega), decide_eq_true (show m1 < 400 by omega), grd_true, ncl (a := m1) (by omega), e34]
      have v14 : (si τ2 14 m1 (nI root)).1 14 m1 = nI root := by rw [si_rd, if_pos rfl, if_pos rfl]
      have low : ∀ j, j < m1 → ∀ a, a ≠ 1031 → (si τ2 14 m1 (nI root)).1 a j = τ1.1 a j := fun j hj a ha => by
        have q1 : ¬ (a = 1031 ∨ (([11, 13, 14, 15] : List Nat).contains a = true ∧ j = m1)) := fun q => by
          rcases q with q | ⟨_, q⟩
          · exact ha q
          · omega
        rw [si_rd]
        by_cases e : a = 14
        · subst e
          rw [if_pos rfl, if_neg (by omega), n2 14 j q1]
        · rw [if_neg e, n2 a j q1]
      have v11 : (si τ2 14 m1 (nI root)).1 11 m1 = nI kind := by rw [si_rd, if_neg (by decide), w11, hk1]
      have v15 : (si τ2 14 m1 (nI root)).1 15 m1 = -1 := by rw [si_rd, if_neg (by decide)]; exact w15
      have mx3 : MX L (si τ2 14 m1 (nI root)) n B p2 d sc2 (m1 + 1) := mx2'.parts (((f2.toFr (V := [1031, 11, 13, 14, 15]) (fun a j h => by
        rcases h with h | ⟨h, _⟩
        · rw [h]; rfl
        · have key : ∀ a, a ∈ ([11, 13, 14, 15] : List Nat) → ([1031, 11, 13, 14, 15] : List Nat).contains a = true := by decide
          exact key a (List.contains_iff_mem.mp h))).wide rfl).si _ _ _ rfl) (by rw [si_rd, if_neg (by decide)]; exact w31)
      have F3 : FrP (PRf lo) τ1 (si τ2 14 m1 (nI root)) := (f2.wide (fun a j h => by
        rcases h with h | ⟨h, h'⟩
        · exact Or.inl (by rw [h]; rfl)
        · have key : ∀ a, a ∈ ([11, 13, 14, 15] : List Nat) → ([11, 12, 13, 14, 15] : List Nat).contains a = true := by decide
          exact Or.inr ⟨key a (List.contains_iff_mem.mp h), by omega⟩)).si _ _ _ (Or.inr ⟨rfl, by omega⟩)
      generalize si τ2 14 m1 (nI root) = τ3 at *
      have bb : bcN st bc ≤ 12 := by
        unfold bcN
        by_cases q : st = 0
        · rw [if_pos q]; have := hbc q; omega
        · rw [if_neg q]; exact b12
      refine lk_loop (ly := ly) (nd := nd) (rr := rr) (P := m1) hN hch kc hpos hfr hone hx2 e68 bb (by omega) n N σ2 τ3 p2 i2 fuel2 sc2 st2 [] x [] root lo m1 (m1 + 1) (by omega) (by omega) cx2 a4 mx3 a1 a2 a3 (by rw [List.nil_append, eb]; exact a9') a10 (by omega) (fun q => absurd rfl q) (fun _ => tch) (fun z hz => by rw [List.nil_append] at hz; rw [List.mem_singleton.mp hz]; exact a5) v14 (fun q hq => (nomatch hq)) (Nat.le_refl _) ?_ (by omega) (Or.inr (Nat.le_refl _)) (by omega) (by omega) (Nat.le_refl _) v11 ?_ v15 a13 a14 f3 (g3'.trans F3) e3
      · exact hfr _ _ x root lo m1 (fun j j1 j2 => ⟨low j j2 11 (by decide), low j j2 12 (by decide), low j j2 13 (by decide), low j j2 14 (by decide), fun _ => low j j2 15 (by decide), fun _ h => h⟩) a6'
      · rw [low root pr.2 15 (by decide)]; exact a8'
    · rw [if_neg (fun q => tch ((hx2 τ1 p2 sc2 m1 mx2').mp q)), ok_some]
      exact Or.inr ⟨rfl, [x], σ2, p2, i2, fuel2, sc2, m1, root, st2, e3, a1, a2, a3, a4, cx2, mx2', ⟨(fun q => (nomatch q)), fun z hz => by rw [List.mem_singleton.mp hz]; exact a5⟩, Or.inl ⟨x, rfl, a6'⟩, a7', a8', by show sc2 = sc + (bxs ([x].map ly)).length; rw [eb]; exact a9', a10, a11, a12, a13, ⟨a14, tch⟩, f3, g3'⟩
theorem KC.conv {α : Type} {N : Nat} {L : Lv} {n : Nat} {B : Nat → Nat} {d : Nat} {G : St → Option (Int32 × St)} {nx : Nat → Nat → Prop} {cd cd' : α → List Int32} {okp okp' : α → Prop} {len len' : α → Nat} {nd nd' : St → α → Nat → Nat → Nat → Prop} (h : KC N L n B d G nx cd okp len nd) (h1 : ∀ x, cd x = cd' x) (h2 : ∀ x, okp x → okp' x) (h3 : ∀ x, len x = len' x) (h4 : ∀ τ x p lo hi, nd τ x p lo hi → nd' τ x p lo hi) : KC N L n B d G nx cd' okp' len' nd' := by
  intro σ τ p c st bc sc lo i fuel cx hst hbc mx hip hf hc hlo
  refine (h σ τ p c st bc sc lo i fuel cx hst hbc mx hip hf hc hlo).mono (fun a q => q.imp id (fun ⟨q1, x, σ2, p2, i2, fuel2, sc2, m1, root, st2, e3, a1, a2, a3, a4, cx2, mx2, a5, a6, a7, a8, a9, a10, a11, a12, a13, a14, f3, g3⟩ => ⟨q1, x, σ2, p2, i2, fuel2, sc2, m1, root, st2, e3, a1, a2, a3, a4, by rw [← h1]; exact cx2, mx2, h2 x a5, h4 _ x _ _ _ a6, a7, a8, by rw [← h3]; exact a9, by rw [← h1]; exact a10, a11, a12, a13, a14, f3, g3⟩))
abbrev nxO : Nat → Nat → Prop := fun k c => nxT k c ∧ ¬ (k = 3 ∧ c = 58)
abbrev nxB : Nat → Nat → Prop := fun k c => nxO k c ∧ ¬ (k = 3 ∧ c = 42)
abbrev KI (N : Nat) (L : Lv) (n : Nat) (B : Nat → Nat) (dd : Nat) (G : St → Option (Int32 × St)) : Prop := KC N L n B (4 - dd) G nxT (cdI dd) (okI L dd) (fun x => (lyI L dd x).2.2.length) (fun τ x => NdI τ QT L dd x)
abbrev KO (N : Nat) (L : Lv) (n : Nat) (B : Nat → Nat) (dd : Nat) (G : St → Option (Int32 × St)) : Prop := KC N L n B (4 - dd) G nxO (cdO dd) (okO L dd) (fun x => (lyO L dd x).2.2.length) (fun τ x => NdO τ QT L dd x)
abbrev KB (N : Nat) (L : Lv) (n : Nat) (B : Nat → Nat) (dd : Nat) (G : St → Option (Int32 × St)) : Prop := KC N L n B (4 - dd) G nxB (cdB dd) (okB L dd) (fun x => (lyB L dd x).2.2.length) (fun τ x => NdB τ QT L dd x)
theorem lk_over {N : Nat} (hN : 802 < N) {L : Lv} (hL : LOk L) {n : Nat} {B : Nat → Nat} {dd D : Nat} (ki : KI N L n B dd (f_X12_readItem N (f_X12_readRowOf N D))) : KO N L n B dd (f_X12_readRowOf N (D + 1) 2) := by
  have r := lk_row (F := f_X12_readRowOf N (D + 1) 2) (kind := 2) (ch := 58) (x1 := 2) (x2 := 4) (hd := f_X12_readRowOf N D) (ly := lyI L dd) (rr := lyO L dd) hN (Or.inr rfl) rfl ki (fun τ x k a m h => NdI_p dd x k a m h) (fun τ τ' x k a m s h => NdI_fr dd x k a m s h) (fun x hx => (okI_RB hL dd x hx).2) (fun τ p sc parts mx => (srt_3 mx).1) (fun fuel x3 x4 τ => by rw [f_X12_readRowOf_68]; simp only [if_neg (show ¬ (2 : Int32) = 1 by decide)]) (fun τ => by
    rw [f_X12_readRowOf]
    unfold f_X12_readRowOf_b f_X12_readRowOf_10
    rw [if_neg (show ¬ (2 : Int32) = 1 by decide), if_neg (show ¬ (2 : Int32) = 1 by decide)])
  exact r.conv (fun x => rfl) (fun x h => h) (fun x => (cmb_len _ _ _).symm) (fun τ x p lo hi h => h)
theorem lk_beside {N : Nat} (hN : 802 < N) {L : Lv} (hL : LOk L) {n : Nat} {B : Nat → Nat} {dd D : Nat} (ko : KO N L n B dd (f_X12_readRowOf N D 2)) : KB N L n B dd (f_X12_readRowOf N (D + 1) 1) := by
  have r := lk_row (F := f_X12_readRowOf N (D + 1) 1) (kind := 1) (ch := 42) (x1 := 1) (x2 := 5) (hd := f_X12_readRowOf N D) (ly := lyO L dd) (rr := lyB L dd) hN (Or.inl rfl) rfl ko (fun τ x k a m h => NdO_p h) (fun τ τ' x k a m s h => NdO_fr s h) (fun x hx => (okO_RB hL hx).2) (fun τ p sc parts mx => (srt_3 mx).2.1) (fun fuel x3 x4 τ => by rw [f_X12_readRowOf_68]; simp only [if_true]) (fun τ => by
    rw [f_X12_readRowOf]
    unfold f_X12_readRowOf_b f_X12_readRowOf_10
    rw [if_pos (show (1 : Int32) = 1 from rfl), if_pos (show (1 : Int32) = 1 from rfl)])
  exact r.conv (fun x => rfl) (fun x h => h) (fun x => (cmb_len _ _ _).symm) (fun τ x p lo hi h => h)
theorem PP_map {α β : Type} {N : Nat} {L : Lv} {n : Nat} {B : Nat → Nat} {p d bc lo sc : Nat} {c : List Int32} {σ τ : St} {Cl : Option (Int32 × St)} {nx : Nat → Nat → Prop} {cd : α → List Int32} {okp : α → Prop} {len : α → Nat} {nd : St → α → Nat → Nat → Nat → Prop} {cd' : β → List Int32} {okp' : β → Prop} {len' : β → Nat} {nd' : St → β → Nat → Nat → Nat → Prop} {a : Int32 × St} (g : α → β) (h : PP N L n B p d bc lo sc c σ τ Cl nx cd okp len nd a) (h1 : ∀ x, cd' (g x) = cd x) (h2 : ∀ x, okp x → okp' (g x)) (h3 : ∀ x, len' (g x) = len x) (h4 : ∀ τ x p lo hi, nd τ x p lo hi → nd' τ (g x) p lo hi) : PP N L n B p d bc lo sc c σ τ Cl nx cd' okp' len' nd' a := by
  refine h.imp id (fun ⟨q1, x, σ2, p2, i2, fuel2, sc2, m1, root, st2, e3, a1, a2, a3, a4, cx2, mx2, a5, a6, a7, a8, a9, a10, a11, a12, a13, a14, f3, g3⟩ => ⟨q1, g x, σ2, p2, i2, fuel2, sc2, m1, root, st2, e3, a1, a2, a3, a4, by rw [h1]; exact cx2, mx2, h2 x a5, h4 _ x _ _ _ a6, a7, a8, by rw [h3]; exact a9, by rw [h1]; exact a10, a11, a12, a13, a14, f3, g3⟩)
theorem lk_item0 {N : Nat} (hN : 802 < N) {L : Lv} (hL : LOk L) {n : Nat} {B : Nat → Nat} {hd : Int32 → St → Option (Int32 × St)} : KI N L n B 0 (f_X12_readItem N hd) := by
  intro σ τ p c st bc sc lo i fuel cx hst hbc mx hip hf hc hlo
  by_cases hno : tk B n p = 3 ∧ B (tq B n p) = 40
  · have hp := cx.2.2.1
    have n800 := cx.1.1
    obtain ⟨fuel, rfl⟩ : ∃ f, fuel = f + 1 := ⟨fuel - 1, by omega⟩
    rcases xs_open (fuel := fuel) (i := i) hN cx (by omega) hno.1 hno.2 hst hbc with ⟨_, σ', a2, a3⟩ | ⟨a1, _⟩
    · unfold f_X12_readItem f_X12_fails
      rw [if_pos ((srt_3 mx).2.2.2.2.1.mpr hno), mx.2.2.2.1, if_pos (show nI (4 - 0) = (4 : Int32) from rfl), bd_some, show zbb 0 = true from rfl, grd_true, ok_some]
      exact Or.inl ⟨rfl, fail_of a2 a3 mx.2.1 (FrP.refl _ _)⟩
    · omega
  · exact lk_leaf hN hL cx hst hbc mx hip hf hc hlo hno
theorem lk_itemS {N : Nat} (hN : 802 < N) {L : Lv} (hL : LOk L) {n : Nat} {B : Nat → Nat} {dd : Nat} (hd4 : dd + 1 ≤ 4) {hd : Int32 → St → Option (Int32 × St)} (kb : KB N L n B dd (hd 1)) : KI N L n B (dd + 1) (f_X12_readItem N hd) := by
  intro σ τ p c st bc sc lo i fuel cx hst hbc mx hip hf hc hlo
  by_cases hno : tk B n p = 3 ∧ B (tq B n p) = 40
  · have hp := cx.2.2.1
    have n800 := cx.1.1
    have t1 := te_le (B := B) hp
    have adv := tok_adv (B := B) (n := n) (p := p) (by omega)
    obtain ⟨fuel, rfl⟩ : ∃ f, fuel = f + 1 := ⟨fuel - 1, by omega⟩
    rcases xs_open (fuel := fuel) (i := i) hN cx (by omega) hno.1 hno.2 hst hbc with ⟨a1, _⟩ | ⟨_, σ1, e1, cx1, f1⟩
    · omega
    · have ed : 4 - (dd + 1) + 1 = 4 - dd := by omega
      rw [ed] at cx1
      unfold f_X12_readItem
      rw [if_pos ((srt_3 mx).2.2.2.2.1.mpr hno), mx.2.2.2.1, if_neg (show ¬ nI (4 - (dd + 1)) = (4 : Int32) from fun q => by have := (neq (b := 4) (by omega) (by omega)).mp q; omega), nI_1, ed]
      have g0 : Fr [1032, 1033] τ (si τ 1032 0 (nI (4 - dd))) := (Fr.refl _ _).si _ _ _ rfl
      refine ok_bo_of (MX_scan (d' := 4 - dd) (sc' := sc) hN hp mx g0 (by rw [si_rd, if_pos rfl, if_pos rfl]) (by rw [si_rd, if_neg (by decide)]; exact mx.2.2.2.2.1)) (fun τ1 ⟨mx1, f2⟩ => ?_)
      have G1 : FrP (PRf lo) τ τ1 := (Fr.toRf (V := [1032]) ((Fr.refl _ _).si _ _ _ rfl) rfl lo).trans (Fr.toRf f2 rfl lo)
      unfold f_X12_readBlock f_X12_fails
      have cb := kb σ1 τ1 (te B n p) (c ++ [-40]) 1 (bcN st bc) sc lo (i + 1) fuel cx1 (Or.inr rfl) (fun q => by omega) mx1 (by omega) (by omega) (by rw [List.length_append, List.length_singleton]; omega) hlo
      have wrap : ok (bd (hd 1 τ1) (fun r1_ σ1 => grd (zbb r1_) (some (r1_, σ1)))) (PP N L n B (te B n p) (4 - dd) (bcN 1 (bcN st bc)) lo sc (c ++ [-40]) σ1 τ1 (f_X0_take_27 N fuel (nI (i + 1)) σ1) nxB (cdB dd) (okB L dd) (fun x => (lyB L dd x).2.2.length) (fun τ x => NdB τ QT L dd x)) := zb_wrap cb (fun a h => h.imp (fun q => q.1) (fun q => q.1))
      refine ok_bd_of wrap (fun r τ2 h => ?_)
      rcases h with ⟨r1, r2⟩ | ⟨r1, bl, σ2, p2, i2, fuel2, sc2, m1, root, st2, e3, a1, a2, a3, a4, cx2, mx2, a5, a6, a7, a8, a9, a10, a11, a12, a13, a14, f3, g3⟩
      · have r1' : r = 0 := r1
        rw [r1', if_pos rfl, ok_some]
        obtain ⟨σ', z1, z2, z3, z4⟩ := r2
        exact Or.inl ⟨rfl, σ', by rw [e1]; exact z1, z2, (f1.wide rfl).trans z3, G1.toE.trans z4⟩
      · have r1' : r = 1 := r1
        have g3' : FrP (PRf lo) τ1 τ2 := g3
        have mx2' : MX L τ2 n B p2 (4 - dd) sc2 m1 := mx2
        have a6' : NdB τ2 QT L dd bl root lo m1 := a6
        have a7' : τ2.1 1034 0 = nI root := a7
        have a8' : τ2.1 15 root = -1 := a8
        have eb : bcN 1 (bcN st bc) = bcN st bc := by show (if (1 : Nat) = 0 then _ else _) = _; rw [if_neg (by omega)]
        rw [eb] at cx2
        have hp2 := cx2.2.2.1
        have G2 : FrP (PRf lo) τ τ2 := G1.trans g3'
        rw [r1', if_neg one_ne]
        by_cases h41 : tk B n p2 = 3 ∧ B (tq B n p2) = 41
        · have t2 := te_le (B := B) hp2
          have adv2 := tok_adv (B := B) (n := n) (p := p2) (by omega)
          obtain ⟨fuel2, rfl⟩ : ∃ f, fuel2 = f + 1 := ⟨fuel2 - 1, by omega⟩
          obtain ⟨σ3, e4, cx3, f4⟩ := xs_mark (fuel := fuel2) (i := i2) (st' := 4) (d' := 4 - (dd + 1)) hN cx2 (by omega) h41.1 (by rw [h41.2]; exact Or.inr (Or.inl ⟨rfl, a4, by omega⟩)) (by rw [h41.2]; decide) (Or.inl ⟨h41.2, rfl, by omega⟩)
          rw [if_pos ((srt_3 mx2').2.2.2.2.2.mpr h41)]
          have g4 : Fr [1032, 1033] τ2 (si τ2 1032 0 (τ2.1 1032 0 - 1)) := (Fr.refl _ _).si _ _ _ rfl
          refine ok_bo_of (MX_scan (d' := 4 - (dd + 1)) (sc' := sc2) hN hp2 mx2' g4 (by rw [si_rd, if_pos rfl, if_pos rfl, mx2'.2.2.2.1, show (1 : Int32) = nI 1 from rfl, nsub (by omega)]; congr 1) (by rw [si_rd, if_neg (by decide)]; exact mx2'.2.2.2.2.1)) (fun τ3 ⟨mx3, f5⟩ => ?_)
          rw [ok_some]
          have G3 : FrP (PRf lo) τ2 τ3 := (Fr.toRf (V := [1032]) ((Fr.refl _ _).si _ _ _ rfl) rfl lo).trans (Fr.toRf f5 rfl lo)
          have F3 : Fr [1032, 1003, 1004, 1005, 1006, 1007, 1010] τ2 τ3 := ((Fr.refl _ _).si _ _ _ rfl).trans (f5.wide rfl)
          have ec : c ++ [-40] ++ cdB dd bl ++ [-nI (B (tq B n p2))] = c ++ cdI (dd + 1) (Sum.inr bl) := by
            rw [h41.2]
            show c ++ [-40] ++ cdB dd bl ++ [-41] = c ++ (-40 :: (cdB dd bl ++ [-41]))
            simp
          have a10' : (c ++ [-40] ++ cdB dd bl).length + (4 - dd) + 1 ≤ 10 * sc2 := a10
          have cx3' := cx3
          rw [ec] at cx3'
          refine Or.inr ⟨rfl, Sum.inr bl, σ3, te B n p2, i2 + 1, fuel2, sc2, m1, root, 4, by rw [e1, e3]; exact e4, by omega, by omega, by omega, Or.inr rfl, cx3', mx3, a5, ?_, by rw [F3.i 1034 rfl]; exact a7', by rw [F3.i 15 rfl]; exact a8', a9, ?_, a11, a12, fun q => by omega, trivial, (f1.trans f3).trans f4, G2.trans G3⟩
          · exact NdB_fr (fun j _ _ => ⟨by rw [F3.i 11 rfl], by rw [F3.i 12 rfl], by rw [F3.i 13 rfl], by rw [F3.i 14 rfl], fun _ => by rw [F3.i 15 rfl], fun _ h => h⟩) a6'
          · show (c ++ cdI (dd + 1) (Sum.inr bl)).length + (4 - (dd + 1)) + 1 ≤ 10 * sc2
            rw [← ec, List.length_append (bs := [_]), List.length_singleton]; omega
        · have na : ¬ acp st2 (4 - dd) (tk B n p2) (B (tq B n p2)) := by
            intro q
            rcases q with ⟨_, q⟩ | ⟨q, q2⟩ | ⟨q, _, q2⟩
            · omega
            · rcases q2 with ⟨_, q3⟩ | ⟨q2, _⟩ | ⟨_, _, q3⟩ | ⟨q2, q3⟩ | ⟨q2 | q2, _⟩
              · omega
              · exact h41 ⟨q, q2⟩
              · omega
              · exact a13 q3 ⟨q, q2⟩
              · exact a14.2 ⟨q, q2⟩
              · exact a14.1.2 ⟨q, q2⟩
            · omega
          obtain ⟨fuel2, rfl⟩ : ∃ f, fuel2 = f + 1 := ⟨fuel2 - 1, by omega⟩
          obtain ⟨σ', z1, z2⟩ := xs_bad (fuel := fuel2) (i := i2) hN cx2 (by omega) na
          rw [if_neg (fun q => h41 ((srt_3 mx2').2.2.2.2.2.mp q)), bd_some, show zbb 0 = true from rfl, grd_true, ok_some]
          obtain ⟨σ'', y1, y2, y3, y4⟩ := fail_of (σ := σ2) z1 z2 mx2'.2.1 G2
          exact Or.inl ⟨rfl, σ'', by rw [e1, e3]; exact y1, y2, ((f1.trans f3).wide rfl).trans y3, y4⟩
  · refine (lk_leaf hN hL cx hst hbc mx hip hf hc hlo hno).mono (fun a h => PP_map (Sum.inl : Nat × Nat → It (dd + 1)) h (fun x => rfl) (fun x h => h) (fun x => rfl) (fun τ x p lo hi h => h))
theorem lk_block {N : Nat} (hN : 802 < N) {L : Lv} (hL : LOk L) {n : Nat} {B : Nat → Nat} : ∀ (dd D : Nat), dd ≤ 4 → 2 * dd + 2 ≤ D → KB N L n B dd (f_X12_readRowOf N D 1) := by
  intro dd
  induction dd with
  | zero =>
    intro D _ hD
    obtain ⟨D, rfl⟩ : ∃ x, D = x + 2 := ⟨D - 2, by omega⟩
    exact lk_beside hN hL (lk_over hN hL (lk_item0 hN hL))
  | succ dd ih =>
    intro D h4 hD
    obtain ⟨D, rfl⟩ : ∃ x, D = x + 2 := ⟨D - 2, by omega⟩
    exact lk_beside hN hL (lk_over hN hL (lk_itemS hN hL h4 (ih D (by omega) (by omega))))
