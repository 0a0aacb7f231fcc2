/-! fill, the class: a trial row grows -/
def FwX (L : Lv) (g : Nat → Nat) (σ : St) (j : Nat) : Prop := (σ.1 56 j = nI 1000 ∧ ∀ b, ¬ hasG L g b 0 j) ∨ ∃ v, σ.1 56 j = nI v ∧ hasG L g v 0 j ∧ ∀ b, hasG L g b 0 j → v ≤ b
def TrX (L : Lv) (σ : St) (l : List Nat) : Prop := (∀ j, j < l.length → σ.1 55 j = nI (gl l j)) ∧ ∀ j, j ≤ l.length → σ.1 53 j = nI (cst L (l.take j)) ∧ σ.2 54 j = lN (cde (l.take j)) ∧ FwX L (gl l) σ j
def PT (n a j : Nat) : Prop := (a = 55 ∧ n ≤ j) ∨ ((a = 53 ∨ a = 54 ∨ a = 56) ∧ n < j)
theorem TrX.frP {L : Lv} {σ σ' : St} {l : List Nat} (h : TrX L σ l) (f : FrP (PT l.length) σ σ') : TrX L σ' l := by
  have n55 : ∀ j, j < l.length → ¬ PT l.length 55 j := fun j hj q => by
    rcases q with ⟨_, q⟩ | ⟨q | q | q, _⟩
    · omega
    · cases q
    · cases q
    · cases q
  have n3 : ∀ a j, a ≠ 55 → j ≤ l.length → ¬ PT l.length a j := fun a j ha hj q => by
    rcases q with ⟨q, _⟩ | ⟨_, q⟩
    · exact ha q
    · omega
  refine ⟨fun j hj => by rw [(f 55 j (n55 j hj)).1]; exact h.1 j hj, fun j hj => ?_⟩
  obtain ⟨h1, h2, h3⟩ := h.2 j hj
  refine ⟨by rw [(f 53 j (n3 53 j (by decide) hj)).1]; exact h1, by rw [(f 54 j (n3 54 j (by decide) hj)).2]; exact h2, ?_⟩
  unfold FwX at h3 ⊢
  rw [(f 56 j (n3 56 j (by decide) hj)).1]; exact h3
def PH (L : Lv) (g : Nat → Nat) (n sh b : Nat) : Prop := ∃ x m b', x < sh ∧ n + 1 = m + szS x ∧ b = b' + 1 ∧ hasG L g b' 0 m ∧ lgb L g m x
def FH (L : Lv) (g : Nat → Nat) (n sh F : Nat) : Prop := (F = 1000 ∧ ∀ b, ¬ PH L g n sh b) ∨ (PH L g n sh F ∧ ∀ b, PH L g n sh b → F ≤ b)
theorem PH_up {L : Lv} {g : Nat → Nat} {n sh b : Nat} : PH L g n sh b → PH L g n (sh + 1) b := fun ⟨x, m, b', h1, h2⟩ => ⟨x, m, b', by omega, h2⟩
theorem PH_le {L : Lv} {g : Nat → Nat} {n sh b : Nat} (h : PH L g n sh b) : b ≤ n + 1 := by
  obtain ⟨x, m, b', h1, h2, h3, h4, h5⟩ := h
  have := hasG_le h4
  have := szS_pos x h5.1
  omega
theorem FH_skip {L : Lv} {g : Nat → Nat} {n sh F : Nat} (h : FH L g n sh F) (k : ∀ m b', n + 1 = m + szS sh → hasG L g b' 0 m → lgb L g m sh → F ≤ b' + 1) (k0 : F = 1000 → ∀ m b', n + 1 = m + szS sh → hasG L g b' 0 m → ¬ lgb L g m sh) : FH L g n (sh + 1) F := by
  rcases h with ⟨h1, h2⟩ | ⟨h1, h2⟩
  · refine Or.inl ⟨h1, fun b ⟨x, m, b', q1, q2, q3, q4, q5⟩ => ?_⟩
    by_cases e : x = sh
    · subst e; exact k0 h1 m b' q2 q4 q5
    · exact h2 b ⟨x, m, b', by omega, q2, q3, q4, q5⟩
  · refine Or.inr ⟨PH_up h1, fun b ⟨x, m, b', q1, q2, q3, q4, q5⟩ => ?_⟩
    by_cases e : x = sh
    · subst e; have := k m b' q2 q4 q5; omega
    · exact h2 b ⟨x, m, b', by omega, q2, q3, q4, q5⟩
theorem x_pt52 {N : Nat} (hN : 802 < N) {L : Lv} (hL : LOk L) {g : Nat → Nat} {n : Nat} (hn : n < 12) {σ : St} (lx : LX 1 σ L) (hg : ∀ i, i ≤ n → g i < L.n ∧ σ.1 55 i = nI (g i)) (fw : ∀ j, j ≤ n → FwX L g σ j) : ∀ (k fuel sh F : Nat), 11 - sh = k → k < fuel → sh ≤ 11 → FH L g n sh F → ∃ F', f_X2_putTrial_52 N fuel (nI n) (nI F) (nI sh) σ = some (si σ 56 (n + 1) (nI F')) ∧ FH L g n 11 F' := by
  have h40 := hL.1
  intro k
  induction k with
  | zero =>
    intro fuel sh F hk hf hs fh
    obtain ⟨fuel, rfl⟩ : ∃ f, fuel = f + 1 := ⟨fuel - 1, by omega⟩
    have e : sh = 11 := by omega
    subst e
    refine ⟨F, ?_, fh⟩
    rw [f_X2_putTrial_52, if_pos (show (11 : Int32) ≤ nI 11 by decide), nI_1, ib_n (by omega), decide_eq_true (show n + 1 < 13 by omega), grd_true, ncl (by omega)]
  | succ k ih =>
    intro fuel sh F hk hf hs fh
    obtain ⟨fuel, rfl⟩ : ∃ f, fuel = f + 1 := ⟨fuel - 1, by omega⟩
    have hs11 : sh < 11 := by omega
    obtain ⟨z1, z4⟩ := szS_pos sh hs11
    have hF : F ≤ 1000 := by
      rcases fh with ⟨q, _⟩ | ⟨q, _⟩
      · omega
      · have := PH_le q; omega
    have skip : FH L g n (sh + 1) F → _ := fun h => ih fuel (sh + 1) F (by omega) (by omega) (by omega) h
    rw [f_X2_putTrial_52, if_neg (show ¬ (11 : Int32) ≤ nI sh from nI_ge (b := 11) (by omega) (by omega)), ib_n (a := sh) (by omega), decide_eq_true hs11, grd_true, ncl (a := sh) (by omega), st3_sz sh hs11, nI_1, nI_1]
    by_cases c : n + 1 < szS sh
    · rw [if_pos (nsub_neg c (by omega))]
      exact skip (FH_skip fh (fun m b' q => by omega) (fun _ m b' q => by omega))
    · have em : ∀ m, n + 1 = m + szS sh → m = n + 1 - szS sh := fun m q => by omega
      rw [nsub (by omega), if_neg (show ¬ nI (n + 1 - szS sh) < (0 : Int32) from nI_nlt (b := 0) (by omega) (by omega)), ib_n (a := n + 1 - szS sh) (by omega), decide_eq_true (show n + 1 - szS sh < 13 by omega), grd_true, ncl (a := n + 1 - szS sh) (by omega)]
      rcases fw (n + 1 - szS sh) (by omega) with ⟨a1, a2⟩ | ⟨v, a1, a2, a3⟩
      · rw [a1, nI_1, if_pos (nI_le (show F ≤ 1000 + 1 by omega) (by omega))]
        exact skip (FH_skip fh (fun m b' q h => by rw [em m q] at h; exact absurd h (a2 b')) (fun _ m b' q h => by rw [em m q] at h; exact absurd h (a2 b')))
      · have vn := hasG_le a2
        rw [a1, nI_1]
        by_cases c2 : F ≤ v + 1
        · rw [if_pos (nI_le c2 (by omega))]
          exact skip (FH_skip fh (fun m b' q h _ => by rw [em m q] at h; have := a3 b' h; omega) (fun q => by omega))
        · have ha : n + 1 - szS sh + szS sh = n + 1 := by omega
          have hgx : ∀ i, n + 1 - szS sh ≤ i → i < n + 1 - szS sh + szS sh → g i < L.n ∧ σ.1 55 i = nI (g i) := fun i _ h3 => hg i (by omega)
          have bd := sh_bd hL hs11 (fun i h2 h3 => (hgx i h2 h3).1)
          rw [if_neg (nI_ge (by omega) (by omega)), x_edgeIn (r := 55) (rn := 12) hN hL lx hs11 (by omega) (by omega) hgx, bo_some, x_isLegible hL lx (by omega), bo_some]
          by_cases hl : lgb L g (n + 1 - szS sh) sh
          · have nl : ¬ pcS L (max (shW L g (n + 1 - szS sh) sh) (shH L g (n + 1 - szS sh) sh)) < nI L.lst := fun q => (lgb_iff hs11).mpr q hl
            rw [show lgB L.sq L.lst (max (shW L g (n + 1 - szS sh) sh) (shH L g (n + 1 - szS sh) sh)) = true from decide_eq_true nl, if_neg (show ¬ b2 true = 0 by decide), grd_true]
            refine ih fuel (sh + 1) (v + 1) (by omega) (by omega) (by omega) (Or.inr ⟨⟨sh, _, v, by omega, ha.symm, rfl, a2, hl⟩, fun b ⟨x, m, b', q1, q2, q3, q4, q5⟩ => ?_⟩)
            by_cases e : x = sh
            · subst e; rw [em m q2] at q4; have := a3 b' q4; omega
            · have old : PH L g n sh b := ⟨x, m, b', by omega, q2, q3, q4, q5⟩
              rcases fh with ⟨_, q⟩ | ⟨_, q⟩
              · exact absurd old (q b)
              · have := q b old; omega
          · have nl : ¬ ¬ pcS L (max (shW L g (n + 1 - szS sh) sh) (shH L g (n + 1 - szS sh) sh)) < nI L.lst := fun q => q ((lgb_iff hs11).mp hl)
            rw [show lgB L.sq L.lst (max (shW L g (n + 1 - szS sh) sh) (shH L g (n + 1 - szS sh) sh)) = false from decide_eq_false nl, if_pos (show b2 false = 0 from rfl)]
            exact skip (FH_skip fh (fun m b' q _ h => by rw [em m q] at h; exact absurd h hl) (fun _ m b' q _ h => by rw [em m q] at h; exact hl h))
theorem gl_app_lt {a : List Nat} {s j : Nat} (h : j < a.length) : gl (a ++ [s]) j = gl a j := by rw [gl_snoc _ _ _ (by omega), if_neg (by omega)]
theorem FwX_of {L : Lv} {g g' : Nat → Nat} {σ σ' : St} {j : Nat} (h : FwX L g σ j) (e : σ'.1 56 j = σ.1 56 j) (hg : ∀ i, i < j → g i = g' i) : FwX L g' σ' j := by
  unfold FwX at *
  rw [e]
  rcases h with ⟨h1, h2⟩ | ⟨v, h1, h2, h3⟩
  · exact Or.inl ⟨h1, fun b q => h2 b (hasG_congr (fun i hi => (hg i hi).symm) q)⟩
  · exact Or.inr ⟨v, h1, hasG_congr hg h2, fun b q => h3 b (hasG_congr (fun i hi => (hg i hi).symm) q)⟩
theorem x_putTrial {N : Nat} (hN : 802 < N) {L : Lv} (hL : LOk L) {σ : St} (lx : LX 1 σ L) {l : List Nat} (hl : l.length ≤ 8) (hle : ∀ s, s ∈ l → s < L.n) (tr : TrX L σ l) {s : Nat} (hs : s < L.n) : ok (f_X2_putTrial N (nI l.length) (nI s) σ) (fun σ' => TrX L σ' (l ++ [s]) ∧ FrP (PT l.length) σ σ') := by
  have h40 := hL.1
  obtain ⟨h1, h2, h3⟩ := tr.2 l.length (Nat.le_refl _)
  rw [List.take_length] at h1 h2
  unfold f_X2_putTrial
  have f0 : Fr [55] σ (si σ 55 l.length (nI s)) := (Fr.refl _ _).si _ _ _ rfl
  rw [nI_1, ib_n (a := l.length) (by omega), decide_eq_true (show l.length < 12 by omega), ib_n (a := l.length) (by omega), decide_eq_true (show l.length < 13 by omega), ib_n (a := l.length + 1) (by omega), decide_eq_true (show l.length + 1 < 13 by omega), ncl (a := l.length) (by omega), ncl (a := l.length + 1) (by omega), x_cost hL (LX_fr (Or.inl rfl) lx f0 rfl) hs, bo_some, h1, h2, x_withSign (cde l) (by omega), nadd]
  simp only [grd_true]
  have ec : cst L l + (L.w s * L.h s * 16 + 1) = cst L (l ++ [s]) := by rw [cst_app]; rfl
  rw [ec, ← cde_snoc]
  have F1 : FrP (fun a j => (a = 55 ∧ j = l.length) ∨ ((a = 53 ∨ a = 54) ∧ j = l.length + 1)) σ (sl (si (si σ 55 l.length (nI s)) 53 (l.length + 1) (nI (cst L (l ++ [s])))) 54 (l.length + 1) (lN (cde (l ++ [s])))) := (((FrP.refl _ _).si _ _ _ (Or.inl ⟨rfl, rfl⟩)).si _ _ _ (Or.inr ⟨Or.inl rfl, rfl⟩)).sl _ _ _ (Or.inr ⟨Or.inr rfl, rfl⟩)
  have w1 : (sl (si (si σ 55 l.length (nI s)) 53 (l.length + 1) (nI (cst L (l ++ [s])))) 54 (l.length + 1) (lN (cde (l ++ [s])))).1 55 l.length = nI s := by simp only [sl_1, si_rd, reduceIte, Nat.reduceEqDiff]
  have w2 : (sl (si (si σ 55 l.length (nI s)) 53 (l.length + 1) (nI (cst L (l ++ [s])))) 54 (l.length + 1) (lN (cde (l ++ [s])))).1 53 (l.length + 1) = nI (cst L (l ++ [s])) := by simp only [sl_1, si_rd, reduceIte, Nat.reduceEqDiff]
  have w3 : (sl (si (si σ 55 l.length (nI s)) 53 (l.length + 1) (nI (cst L (l ++ [s])))) 54 (l.length + 1) (lN (cde (l ++ [s])))).2 54 (l.length + 1) = lN (cde (l ++ [s])) := by rw [sl_rd, if_pos rfl, if_pos rfl]
  generalize sl (si (si σ 55 l.length (nI s)) 53 (l.length + 1) (nI (cst L (l ++ [s])))) 54 (l.length + 1) (lN (cde (l ++ [s]))) = σ1 at *
  have FF : Fr [55, 53, 54] σ σ1 := F1.toFr (fun a j h => by rcases h with ⟨h, _⟩ | ⟨h | h, _⟩ <;> (rw [h]; rfl))
  have e55 : ∀ j, j < l.length → σ1.1 55 j = nI (gl l j) := fun j hj => by
    rw [(F1 55 j (fun q => by
      rcases q with ⟨_, q⟩ | ⟨q | q, _⟩
      · omega
      · cases q
      · cases q)).1]
    exact tr.1 j hj
  have elow : ∀ j, j ≤ l.length → σ1.1 53 j = σ.1 53 j ∧ σ1.2 54 j = σ.2 54 j := fun j hj => by
    have q : ∀ a, a ≠ 55 → ¬ ((a = 55 ∧ j = l.length) ∨ ((a = 53 ∨ a = 54) ∧ j = l.length + 1)) := fun a ha q => by
      rcases q with ⟨q, _⟩ | ⟨_, q⟩
      · exact ha q
      · omega
    exact ⟨(F1 53 j (q 53 (by decide))).1, (F1 54 j (q 54 (by decide))).2⟩
  have gg : ∀ i, i ≤ l.length → gl (l ++ [s]) i < L.n ∧ σ1.1 55 i = nI (gl (l ++ [s]) i) := fun i hi => by
    by_cases e : i = l.length
    · rw [gl_snoc _ _ _ hi, if_pos e, e]; exact ⟨hs, w1⟩
    · rw [gl_app_lt (by omega)]; exact ⟨hle _ (gl_mem (by omega)), e55 i (by omega)⟩
  have fwl : ∀ j, j ≤ l.length → FwX L (gl (l ++ [s])) σ1 j := fun j hj => FwX_of (tr.2 j hj).2.2 (by rw [FF.i 56 rfl]) (fun i hi => (gl_app_lt (by omega)).symm)
  obtain ⟨F', q1, q2⟩ := x_pt52 (N := N) (g := gl (l ++ [s])) (n := l.length) (σ := σ1) hN hL (by omega) (LX_fr (Or.inl rfl) lx FF rfl) gg fwl 11 N 0 1000 (by omega) (by omega) (by omega) (Or.inl ⟨rfl, fun b ⟨x, _, _, h, _⟩ => by omega⟩)
  have q1' : f_X2_putTrial_52 N N (nI l.length) 1000 0 σ1 = _ := q1
  rw [q1', ok_some]
  have el : (l ++ [s]).length = l.length + 1 := by rw [List.length_append, List.length_singleton]
  have F2 : FrP (fun a j => a = 56 ∧ j = l.length + 1) σ1 (si σ1 56 (l.length + 1) (nI F')) := (FrP.refl _ _).si _ _ _ ⟨rfl, rfl⟩
  refine ⟨⟨fun j hj => ?_, fun j hj => ?_⟩, (F1.wide (fun a j h => ?_)).trans (F2.wide (fun a j h => Or.inr ⟨Or.inr (Or.inr h.1), by omega⟩))⟩
  · rw [(F2 55 j (fun q => (nomatch q.1))).1]; exact (gg j (by omega)).2
  · rw [(F2 53 j (fun q => (nomatch q.1))).1, (F2 54 j (fun q => (nomatch q.1))).2]
    by_cases e : j = l.length + 1
    · rw [e, show (l ++ [s]).take (l.length + 1) = l ++ [s] by rw [← el, List.take_length]]
      refine ⟨w2, w3, ?_⟩
      unfold FwX
      rw [si_rd, if_pos rfl, if_pos rfl]
      have pa : ∀ b, PH L (gl (l ++ [s])) l.length 11 b ↔ hasG L (gl (l ++ [s])) b 0 (l.length + 1) := fun b => by
        constructor
        · rintro ⟨x, m, b', r1, r2, r3, r4, r5⟩
          rw [r3]; exact hasG_snoc.mpr ⟨m, x, r4, r5, r2⟩
        · intro r
          cases b with
          | zero => have e0 : 0 = l.length + 1 := r; omega
          | succ b =>
            obtain ⟨m, x, r1, r2, r3⟩ := hasG_snoc.mp r
            exact ⟨x, m, b, r2.1, r3, rfl, r1, r2⟩
      rcases q2 with ⟨r1, r2⟩ | ⟨r1, r2⟩
      · exact Or.inl ⟨by rw [r1], fun b h => r2 b ((pa b).mpr h)⟩
      · exact Or.inr ⟨F', rfl, (pa F').mp r1, fun b h => r2 b ((pa b).mpr h)⟩
    · have hj' : j ≤ l.length := by omega
      rw [List.take_append_of_le_length hj', (elow j hj').1, (elow j hj').2]
      exact ⟨(tr.2 j hj').1, (tr.2 j hj').2.1, FwX_of (fwl j hj') (by rw [(F2 56 j (fun q => e q.2)).1]) (fun _ _ => rfl)⟩
  · rcases h with ⟨h, h'⟩ | ⟨h | h, h'⟩
    · exact Or.inl ⟨h, by omega⟩
    · exact Or.inr ⟨Or.inl h, by omega⟩
    · exact Or.inr ⟨Or.inr (Or.inl h), by omega⟩
