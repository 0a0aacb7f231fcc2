/-! blocks: rows of pieces -/
def ChO (τ : St) : List Nat → Int32 → Nat → Prop
  | [], x, l => x = nI l
  | q :: qs, x, l => x = nI q ∧ ChO τ qs (τ.1 15 q) l
theorem ChO_snoc {τ τ' : St} {r : Nat} : ∀ {qs : List Nat} {x : Int32} {l : Nat}, ChO τ qs x l → (∀ q, q ∈ qs → τ'.1 15 q = τ.1 15 q) → τ'.1 15 l = nI r → ChO τ' (qs ++ [l]) x r := by
  intro qs
  induction qs with
  | nil => intro x l h _ e; exact ⟨h, e⟩
  | cons q qs ih =>
    intro x l h e e2
    refine ⟨h.1, ?_⟩
    rw [e q List.mem_cons_self]
    exact ih h.2 (fun y hy => e y (List.mem_cons_of_mem _ hy)) e2
theorem ChO_fr {τ τ' : St} : ∀ {qs : List Nat} {x : Int32} {l : Nat}, ChO τ qs x l → (∀ q, q ∈ qs → τ'.1 15 q = τ.1 15 q) → ChO τ' qs x l := by
  intro qs
  induction qs with
  | nil => intro x l h _; exact h
  | cons q qs ih =>
    intro x l h e
    refine ⟨h.1, ?_⟩
    rw [e q List.mem_cons_self]
    exact ih h.2 (fun y hy => e y (List.mem_cons_of_mem _ hy))
theorem Chn_of {τ : St} : ∀ {qs : List Nat} {x : Int32} {l : Nat}, ChO τ qs x l → τ.1 15 l = -1 → Chn τ (qs ++ [l]) x := by
  intro qs
  induction qs with
  | nil => intro x l h e; exact ⟨h, e⟩
  | cons q qs ih => intro x l h e; exact ⟨h.1, ih h.2 e⟩
theorem AlI_mono {α : Type} {E : α → Nat → Nat → Nat → Prop} {p : Nat} : ∀ {l : List α} {ps : List Nat} {lo hi hi' : Nat}, hi ≤ hi' → AlI E p l ps lo hi → AlI E p l ps lo hi' := by
  intro l
  induction l with
  | nil => intro ps lo hi hi' h q; cases ps with
    | nil => have q' : lo ≤ hi := q; show lo ≤ hi'; omega
    | cons _ _ => exact absurd q id
  | cons x l ih =>
    intro ps lo hi hi' h q
    cases ps with
    | nil => exact absurd q id
    | cons k ps =>
      obtain ⟨a, m, h1, h2, h3, h4, h5, h6⟩ := q
      exact ⟨a, m, h1, by omega, h3, h4, h5, ih h h6⟩
theorem AlI_snoc {α : Type} {E : α → Nat → Nat → Nat → Prop} {p : Nat} {y : α} {r a m hi' : Nat} (h1 : a ≤ r ∧ r < m) (h2 : m ≤ hi') (h3 : E y r a m) (h4 : p < a ∨ m ≤ p) : ∀ {l : List α} {ps : List Nat} {lo : Nat}, AlI E p l ps lo a → AlI E p (l ++ [y]) (ps ++ [r]) lo hi' := by
  intro l
  induction l with
  | nil =>
    intro ps lo q
    cases ps with
    | nil => exact ⟨a, m, q, h2, h1, h3, h4, h2⟩
    | cons _ _ => exact absurd q id
  | cons x l ih =>
    intro ps lo q
    cases ps with
    | nil => exact absurd q id
    | cons k ps =>
      obtain ⟨a', m', q1, q2, q3, q4, q5, q6⟩ := q
      exact ⟨a', m', q1, by omega, q3, q4, q5, ih q6⟩
theorem itc_snoc (sep : Int32) (z : List Int32) : ∀ (l : List (List Int32)), l ≠ [] → itc sep (l ++ [z]) = itc sep l ++ sep :: z := by
  intro l
  induction l with
  | nil => intro h; exact absurd rfl h
  | cons c l ih =>
    intro _
    cases l with
    | nil => rfl
    | cons c' l =>
      show c ++ sep :: itc sep (c' :: (l ++ [z])) = (c ++ sep :: itc sep (c' :: l)) ++ sep :: z
      have := ih (by intro q; cases q)
      rw [List.cons_append] at this
      rw [this, List.append_assoc]; rfl
/-- what a row reads, given what its pieces read -/
theorem lk_loop {α : Type} {N : Nat} (hN : 802 < N) {L : Lv} {n : Nat} {B : Nat → Nat} {d kind ch : Nat} (hch : ch = 42 ∨ ch = 58) {x1 x2 : Int32} {hd : Int32 → St → Option (Int32 × St)} {G : St → Option (Int32 × St)} {nx0 : Nat → Nat → Prop} {cd : α → List Int32} {okp : α → Prop} {ly : α → Rs} {nd : St → α → Nat → Nat → Nat → Prop} {rr : List α → Rs}
    (kc : KC N L n B d G nx0 cd okp (fun x => (ly x).2.2.length) nd) (hpos : ∀ τ x k a m, nd τ x k a m → a ≤ k ∧ k < m) (hfr : ∀ τ τ' x k a m, SmN τ τ' QT QT k a m → nd τ x k a m → nd τ' x k a m) (hone : ∀ x, okp x → 1 ≤ (ly x).2.2.length)
    (hx2 : ∀ τ p sc parts, MX L τ n B p d sc parts → (τ.1 1003 0 = x2 ↔ tk B n p = 3 ∧ B (tq B n p) = ch))
    (e68 : ∀ fuel x3 x4 τ, f_X12_readRowOf_68 N hd (fuel + 1) x1 x2 x3 x4 τ = (if τ.1 1003 0 = x2 then bo (f_X12_scan N τ) (fun τ1 => bd (G τ1) (fun r τ2 => if r = 0 then some (0, τ2) else f_X12_readRowOf_105 N hd (f_X12_readRowOf_68 N hd fuel) x1 x2 x3 x4 τ2)) else some (1, si τ 1034 0 x3)))
    {σ0 τ0 : St} {p0 bc lo sc P : Nat} {c : List Int32} {Cl : Option (Int32 × St)} (hbc : bc ≤ 12) (hP : P < 400) :
    ∀ (k fuel : Nat) (σ τ : St) (p i fuelC sc' st' : Nat) (xs : List α) (y : α) (qs : List Nat) (l al ml hi : Nat), n - p ≤ k → k < fuel → CX L σ n B p (c ++ itc (-nI ch) ((xs ++ [y]).map cd)) st' d bc sc' → (st' = 3 ∨ st' = 4) → MX L τ n B p d sc' hi → i ≤ p → 801 - i < fuelC → p0 < p → sc' = sc + (bxs ((xs ++ [y]).map ly)).length → (c ++ itc (-nI ch) ((xs ++ [y]).map cd)).length + d + 1 ≤ 10 * sc' → hi ≤ 2 * sc' → (xs ≠ [] → hi + 1 ≤ 2 * sc') → (xs = [] → tk B n p = 3 ∧ B (tq B n p) = ch) → (∀ z, z ∈ xs ++ [y] → okp z) → ChO τ qs (τ.1 14 P) l → (∀ q, q ∈ qs → q < al) → AlI (nd τ) P xs qs lo al → nd τ y l al ml → ml ≤ hi → (P < al ∨ ml ≤ P) → lo ≤ P → P < hi → lo ≤ al → τ.1 11 P = nI kind → τ.1 15 l = -1 → τ.1 15 P = -1 → (st' = 3 → ¬ (tk B n p = 3 ∧ B (tq B n p) = 38)) → nx0 (tk B n p) (B (tq B n p)) → Fr VPY σ0 σ → FrP (PRf lo) τ0 τ → Cl = f_X0_take_27 N fuelC (nI i) σ →
    ok (f_X12_readRowOf_68 N hd fuel x1 x2 (nI P) (nI l) τ) (PP N L n B p0 d bc lo sc c σ0 τ0 Cl (fun k c => nx0 k c ∧ ¬ (k = 3 ∧ c = ch)) (fun l => itc (-nI ch) (l.map cd)) (fun l => l ≠ [] ∧ ∀ x, x ∈ l → okp x) (fun l => (bxs (l.map ly)).length) (fun τ l => RwI τ QT kind (nd τ) l (rr l))) := by
  intro k
  induction k with
  | zero =>
    intro fuel σ τ p i fuelC sc' st' xs y qs l al ml hi hk hf cx hst mx hip hfC hpp hsc hcl hhi hhi2 hxs hok ch1 hqs al1 nd1 hml hPal hloP hPhi hlal h11 h15 h15P hnd hnx f0 g0 hCl
    obtain ⟨fuel, rfl⟩ : ∃ f, fuel = f + 1 := ⟨fuel - 1, by omega⟩
    have hpn := cx.2.2.1
    have epn : p = n := by omega
    have k0 : tk B n p = 0 := by
      unfold tk
      have := tq_ge B n p
      rw [if_pos (by omega)]
    have nch : ¬ (tk B n p = 3 ∧ B (tq B n p) = ch) := fun q => by omega
    have xne : xs ≠ [] := fun q => nch (hxs q)
    have f1 : Fr [1034] τ (si τ 1034 0 (nI P)) := (Fr.refl _ _).si _ _ _ rfl
    rw [e68, if_neg (fun q => nch ((hx2 τ p sc' hi mx).mp q)), ok_some]
    have pl := hpos _ _ _ _ _ nd1
    refine Or.inr ⟨rfl, xs ++ [y], σ, p, i, fuelC, sc', hi, P, st', hCl, hip, hfC, hpp, hst, cx, mx.fr f1 rfl, ⟨by intro q; have := congrArg List.length q; rw [List.length_append, List.length_singleton] at this; simp at this, hok⟩, Or.inr ⟨?_, hloP, hPhi, by rw [f1.i 11 rfl]; exact h11, trivial, qs ++ [l], ?_, ?_⟩, by rw [si_rd, if_pos rfl, if_pos rfl], by rw [f1.i 15 rfl]; exact h15P, hsc, hcl, hhi2 xne, by omega, hnd, ⟨hnx, nch⟩, f0, g0.trans (Fr.toRf f1 rfl lo)⟩
    · rw [List.length_append, List.length_singleton]
      cases xs with
      | nil => exact absurd rfl xne
      | cons a b => rw [List.length_cons]; omega
    · rw [f1.i 14 rfl]
      exact Chn_of (ChO_fr ch1 (fun q _ => by rw [f1.i 15 rfl])) (by rw [f1.i 15 rfl]; exact h15)
    · exact AlI_imp (AlI_snoc pl hml nd1 hPal al1) (fun x k a m _ _ _ q => hfr _ _ x k a m (fun j _ _ => ⟨by rw [f1.i 11 rfl], by rw [f1.i 12 rfl], by rw [f1.i 13 rfl], by rw [f1.i 14 rfl], fun _ => by rw [f1.i 15 rfl], fun _ h => h⟩) q)
  | succ k ih =>
    intro fuel σ τ p i fuelC sc' st' xs y qs l al ml hi hk hf cx hst mx hip hfC hpp hsc hcl hhi hhi2 hxs hok ch1 hqs al1 nd1 hml hPal hloP hPhi hlal h11 h15 h15P hnd hnx f0 g0 hCl
    obtain ⟨fuel, rfl⟩ : ∃ f, fuel = f + 1 := ⟨fuel - 1, by omega⟩
    have pl := hpos _ _ _ _ _ nd1
    by_cases tch : tk B n p = 3 ∧ B (tq B n p) = ch
    · have hpn := cx.2.2.1
      have n800 := cx.1.1
      have s24 := cx.2.2.2.2.2.2.2.2.2.2.2.2
      have d4 := cx.2.2.2.2.2.2.2.2.2.2.1
      have t1 := te_le (B := B) hpn
      have adv := tok_adv (B := B) (n := n) (p := p) (by omega)
      rw [e68, if_pos ((hx2 τ p sc' hi mx).mpr tch)]
      refine ok_bo_of (MX_scan (d' := d) (sc' := sc') hN hpn mx (Fr.refl _ _) mx.2.2.2.1 mx.2.2.2.2.1) (fun τ1 ⟨mx1, f1⟩ => ?_)
      obtain ⟨fuelC, rfl⟩ : ∃ f, fuelC = f + 1 := ⟨fuelC - 1, by omega⟩
      obtain ⟨σ1, e1, cx1, f2⟩ := xs_mark (fuel := fuelC) (i := i) (st' := 1) (d' := d) hN cx (by omega) tch.1 (by rw [tch.2]; exact Or.inr (Or.inr (Or.inr (Or.inr ⟨hch, hst⟩)))) (by rw [tch.2]; omega) (Or.inr (Or.inr (Or.inr ⟨by rw [tch.2]; exact hch, rfl, rfl⟩)))
      rw [tch.2] at cx1
      have hl1 : (c ++ itc (-nI ch) ((xs ++ [y]).map cd) ++ [-nI ch]).length ≤ 10 * sc' + d := by rw [List.length_append, List.length_singleton]; omega
      have g1 : FrP (PRf hi) τ τ1 := Fr.toRf f1 rfl hi
      refine ok_bd_of (kc σ1 τ1 (te B n p) _ 1 bc sc' hi (i + 1) fuelC cx1 (Or.inr rfl) (fun q => by omega) mx1 (by omega) (by omega) hl1 hhi) (fun r τ2 h => ?_)
      rcases h with ⟨r1, r2⟩ | ⟨r1, z, σ2, p2, i2, fuel2, sc2, hi2, root, st2, e3, a1, a2, a3, a4, cx2, mx2, a5, a6, a7, a8, a9, a10, a11, a12, a13, a14, f3, g3⟩
      · have r1' : r = 0 := r1
        rw [r1', if_pos rfl, ok_some]
        obtain ⟨σ', z1, z2, z3, z4⟩ := r2
        exact Or.inl ⟨rfl, σ', by rw [hCl, e1]; exact z1, z2, ((f0.trans f2).wide rfl).trans z3, g0.toE.trans ((g1.toE.trans z4).wide (fun a j q => q.imp (fun q => PRf_up (by omega) q) id))⟩
      · have r1' : r = 1 := r1
        have g3' : FrP (PRf hi) τ1 τ2 := g3
        have a6' : nd τ2 z root hi hi2 := a6
        have a7' : τ2.1 1034 0 = nI root := a7
        have a8' : τ2.1 15 root = -1 := a8
        have mx2' : MX L τ2 n B p2 d sc2 hi2 := mx2
        have pr := hpos _ _ _ _ _ a6'
        rw [r1', if_neg one_ne]
        unfold f_X12_readRowOf_105
        rw [a7', ib_n (a := l) (by omega), decide_eq_true (show l < 400 by omega), grd_true, ncl (a := l) (by omega)]
        have gg : FrP (PRf hi) τ τ2 := g1.trans g3'
        have f4 : FrP (fun a j => a = 15 ∧ j = l) τ2 (si τ2 15 l (nI root)) := (FrP.refl _ _).si _ _ _ ⟨rfl, rfl⟩
        have w15 : (si τ2 15 l (nI root)).1 15 l = nI root := by rw [si_rd, if_pos rfl, if_pos rfl]
        have v4 : ∀ a j, ¬ (a = 15 ∧ j = l) → (si τ2 15 l (nI root)).1 a j = τ2.1 a j := fun a j q => (f4 a j q).1
        have F4 : Fr [15] τ2 (si τ2 15 l (nI root)) := (Fr.refl _ _).si _ _ _ rfl
        generalize si τ2 15 l (nI root) = τ3 at *
        have low : ∀ j, j < hi → ∀ a, ([11, 12, 13, 14, 15] : List Nat).contains a = true → ¬ (a = 15 ∧ j = l) → τ3.1 a j = τ.1 a j := fun j hj a ha q => by rw [v4 a j q]; exact PRf_nd gg hj a ha
        have smn : ∀ k a m, m ≤ hi → (l < a ∨ m ≤ l ∨ k = l) → SmN τ τ3 QT QT k a m := fun k a m hm hl j j1 j2 => ⟨low j (by omega) 11 rfl (fun q => (nomatch q.1)), low j (by omega) 12 rfl (fun q => (nomatch q.1)), low j (by omega) 13 rfl (fun q => (nomatch q.1)), low j (by omega) 14 rfl (fun q => (nomatch q.1)), fun hjk => low j (by omega) 15 rfl (fun q => by have := q.2; omega), fun _ h => h⟩
        have nne : xs ++ [y] ≠ [] := by intro q; have := congrArg List.length q; rw [List.length_append, List.length_singleton] at this; simp at this
        have ecd : c ++ itc (-nI ch) ((xs ++ [y]).map cd) ++ [-nI ch] ++ cd z = c ++ itc (-nI ch) ((xs ++ [y] ++ [z]).map cd) := by
          rw [List.map_append (l₁ := xs ++ [y]), List.map_cons, List.map_nil, itc_snoc _ _ _ (fun q => nne (List.map_eq_nil_iff.mp q))]
          simp
        have esc : sc2 = sc + (bxs ((xs ++ [y] ++ [z]).map ly)).length := by
          rw [List.map_append (l₁ := xs ++ [y]), List.map_cons, List.map_nil, bxs_snoc, List.length_append]
          have : sc2 = sc' + (ly z).2.2.length := a9
          omega
        have eb : bcN 1 bc = bc := by show (if (1 : Nat) = 0 then _ else _) = _; rw [if_neg (by omega)]
        have cx2' : CX L σ2 n B p2 (c ++ itc (-nI ch) ((xs ++ [y]).map cd) ++ [-nI ch] ++ cd z) st2 d (bcN 1 bc) sc2 := cx2
        rw [eb, ecd] at cx2'
        have a10' : (c ++ itc (-nI ch) ((xs ++ [y]).map cd) ++ [-nI ch] ++ cd z).length + d + 1 ≤ 10 * sc2 := a10
        rw [ecd] at a10'
        refine ih fuel σ2 τ3 p2 i2 fuel2 sc2 st2 (xs ++ [y]) z (qs ++ [l]) root hi hi2 hi2 (by omega) (by omega) cx2' a4 (mx2'.fr F4 rfl) a1 a2 (by omega) esc a10' (by omega) (fun _ => a11) (fun q => absurd q nne) (fun w hw => ?_) ?_ (fun q hq => ?_) ?_ ?_ (Nat.le_refl _) (Or.inl hPhi) hloP (by omega) (by omega) ?_ ?_ ?_ a13 a14 ((f0.trans f2).trans f3) ?_ (by rw [hCl, e1]; exact e3)
        · rcases List.mem_append.mp hw with q | q
          · exact hok w q
          · rw [List.mem_singleton.mp q]; exact a5
        · rw [low P hPhi 14 rfl (fun q => (nomatch q.1))]
          exact ChO_snoc ch1 (fun q hq => by have := hqs q hq; exact low q (by omega) 15 rfl (fun r => by have := r.2; omega)) w15
        · rcases List.mem_append.mp hq with q1 | q1
          · have := hqs q q1; omega
          · rw [List.mem_singleton.mp q1]; omega
        · exact AlI_snoc pl hml (hfr _ _ y l al ml (smn l al ml hml (Or.inr (Or.inr rfl))) nd1) hPal (AlI_imp al1 (fun x k a m _ h2 _ q => hfr _ _ x k a m (smn k a m (by omega) (Or.inr (Or.inl (by omega)))) q))
        · exact hfr _ _ z root hi hi2 (fun j j1 j2 => ⟨v4 11 j (fun q => (nomatch q.1)), v4 12 j (fun q => (nomatch q.1)), v4 13 j (fun q => (nomatch q.1)), v4 14 j (fun q => (nomatch q.1)), fun _ => v4 15 j (fun q => by have := q.2; omega), fun _ h => h⟩) a6'
        · rw [low P hPhi 11 rfl (fun q => (nomatch q.1))]; exact h11
        · rw [v4 15 root (fun q => by have := q.2; omega)]; exact a8'
        · rw [low P hPhi 15 rfl (fun q => by have := q.2; omega)]; exact h15P
        · exact g0.trans ((gg.wide (fun a j q => PRf_up (by omega) q)).trans (f4.wide (fun a j q => Or.inr ⟨by rw [q.1]; rfl, by have := q.2; omega⟩)))
    · have xne : xs ≠ [] := fun q => tch (hxs q)
      have f1 : Fr [1034] τ (si τ 1034 0 (nI P)) := (Fr.refl _ _).si _ _ _ rfl
      rw [e68, if_neg (fun q => tch ((hx2 τ p sc' hi mx).mp q)), ok_some]
      refine Or.inr ⟨rfl, xs ++ [y], σ, p, i, fuelC, sc', hi, P, st', hCl, hip, hfC, hpp, hst, cx, mx.fr f1 rfl, ⟨by intro q; have := congrArg List.length q; rw [List.length_append, List.length_singleton] at this; simp at this, hok⟩, Or.inr ⟨?_, hloP, hPhi, by rw [f1.i 11 rfl]; exact h11, trivial, qs ++ [l], ?_, ?_⟩, by rw [si_rd, if_pos rfl, if_pos rfl], by rw [f1.i 15 rfl]; exact h15P, hsc, hcl, hhi2 xne, by omega, hnd, ⟨hnx, tch⟩, f0, g0.trans (Fr.toRf f1 rfl lo)⟩
      · rw [List.length_append, List.length_singleton]
        cases xs with
        | nil => exact absurd rfl xne
        | cons a b => rw [List.length_cons]; omega
      · rw [f1.i 14 rfl]
        exact Chn_of (ChO_fr ch1 (fun q _ => by rw [f1.i 15 rfl])) (by rw [f1.i 15 rfl]; exact h15)
      · exact AlI_imp (AlI_snoc pl hml nd1 hPal al1) (fun x k a m _ _ _ q => hfr _ _ x k a m (fun j _ _ => ⟨by rw [f1.i 11 rfl], by rw [f1.i 12 rfl], by rw [f1.i 13 rfl], by rw [f1.i 14 rfl], fun _ => by rw [f1.i 15 rfl], fun _ h => h⟩) q)
