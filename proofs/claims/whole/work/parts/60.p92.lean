/-! blocks, the class: parts settle beside or over one another -/
theorem x_st5 {N : Nat} {bs : Bool} {x1 : Int32} {σ : St} {P : Nat} (hP : P ≤ 24) (h13 : σ.1 5613 0 = nI P) : ∀ (rs : List Rs) (fuel p k G : Nat), rs.length < fuel → p + rs.length = P → PrX σ p k rs → (∀ r, r ∈ rs → RB r ∧ r.2.2.length ≤ 24) → G ≤ 2000 → f_X1_settle_5 N fuel x1 (b2 bs) (nI G) (nI p) σ = f_X1_settle_55 N N x1 (b2 bs) (nI (max G (gst bs rs))) (σ.1 10 0) (-(σ.1 10 0)) x1 σ := by
  intro rs
  induction rs with
  | nil =>
    intro fuel p k G hf hp pr hb hG
    obtain ⟨fuel, rfl⟩ : ∃ f, fuel = f + 1 := ⟨fuel - 1, by omega⟩
    have hp' : p = P := hp
    rw [f_X1_settle_5, h13, if_pos (nI_le (by omega) (by omega)), show ib 0 4 = true from rfl, grd_true, gst, Nat.max_eq_left (Nat.zero_le _)]
  | cons r l ih =>
    intro fuel p k G hf hp pr hb hG
    obtain ⟨fuel, rfl⟩ : ∃ f, fuel = f + 1 := ⟨fuel - 1, by omega⟩
    rw [List.length_cons] at hp hf
    obtain ⟨p1, p2, p3⟩ := pr
    have b1 := hb r List.mem_cons_self
    have b2' := (RB_ac (bs := bs) b1.1).1
    rw [f_X1_settle_5, h13, if_neg (nI_ge (by omega) (by omega)), ib_n (a := p) (by omega), decide_eq_true (show p < 24 by omega), grd_true, ncl (a := p) (by omega), p2, (x_across b1.1 b1.2 bs σ).1, nmax (by omega) (by omega), nI_1, ih fuel (p + 1) _ _ (by omega) (by omega) p3 (fun x hx => hb x (List.mem_cons_of_mem _ hx)) (by omega), gst]
    congr 2
    omega
def StPost (b k base : Nat) (w h : Nat) (l : List Bx) (σ : St) (a : Int32 × St) : Prop := a.1 = nI (w * 65536 + h) ∧ a.2.1 5613 0 = nI base ∧ BxA a.2 b k l ∧ FrP (fun a j => (a = 5613 ∧ j = 0) ∨ ((a = 28 ∨ a = 29) ∧ k ≤ j ∧ j < k + l.length)) σ a.2
theorem x_st55 {N : Nat} (hN : 802 < N) {bs : Bool} {base b gap G P E : Nat} (hP : P ≤ 24) (hE : E ≤ 24) (hG : G ≤ 2000) (hg : gap ≤ 9) : ∀ (rs : List Rs) (fuel p k a : Nat) (x5 : Int32) (σ : St), rs ≠ [] → rs.length < fuel → p + rs.length = P → k + (bxs rs).length = E → σ.1 5613 0 = nI P → σ.1 5605 0 = nI E → x5 + nI gap = nI a → PrX σ p k rs → BxA σ b k (bxs rs) → (∀ r, r ∈ rs → RB r ∧ r.2.2.length ≤ 24) → gst bs rs ≤ G →
    ok (f_X1_settle_55 N fuel (nI base) (b2 bs) (nI G) (nI gap) x5 (nI p) σ) (StPost b k base (if bs = true then a + smA gap bs rs else G) (if bs = true then G else a + smA gap bs rs) (ofs gap bs G a rs) σ) := by
  intro rs
  induction rs with
  | nil => intro fuel p k a x5 σ h; exact absurd rfl h
  | cons r l ih =>
    intro fuel p k a x5 σ _ hf hp hk h13 h05 hx pr bx hb hgst
    obtain ⟨fuel, rfl⟩ : ∃ f, fuel = f + 1 := ⟨fuel - 1, by omega⟩
    rw [List.length_cons] at hp hf
    rw [bxs_cons, List.length_append] at hk
    obtain ⟨p1, p2, p3⟩ := pr
    have b1 := hb r List.mem_cons_self
    have b2' := (RB_ac (bs := bs) b1.1)
    rw [bxs_cons, BxA_app] at bx
    rw [gst] at hgst
    have hag : acr bs r ≤ G := by omega
    have emid : (nI G - nI (acr bs r)) / 2 = nI ((G - acr bs r) / 2) := by
      rw [nsub hag, show (2 : Int32) = nI 2 from rfl, ndiv (by omega) (by omega)]
    have eu : ∀ t0, t0 = nI (k + r.2.2.length) → ok (f_X1_settle_115 N (f_X1_settle_55 N fuel) (nI base) (b2 bs) (nI G) (nI gap) (nI p) (nI a) (nI ((G - acr bs r) / 2)) t0 σ) (StPost b k base (if bs = true then a + smA gap bs (r :: l) else G) (if bs = true then G else a + smA gap bs (r :: l)) (ofs gap bs G a (r :: l)) σ) := by
      intro t0 ht
      unfold f_X1_settle_115 f_X1_settle_138 f_X1_settle_149 f_X1_settle_170 f_X1_shift
      rw [ib_n (a := p) (by omega), decide_eq_true (show p < 24 by omega), ncl (a := p) (by omega), p1, ht]
      simp only [grd_true]
      have sh := x_shift (N := N) hN (b := b) (dx := if bs = true then nI a else nI ((G - acr bs r) / 2)) (dy := if bs = true then nI ((G - acr bs r) / 2) else nI a) r.2.2 N k σ (by omega) (by omega) bx.1
      have step : ∀ σ1, BxA σ1 b k (sft (if bs = true then nI a else nI ((G - acr bs r) / 2)) (if bs = true then nI ((G - acr bs r) / 2) else nI a) r.2.2) ∧ FrP (fun a j => (a = 28 ∨ a = 29) ∧ k ≤ j ∧ j < k + r.2.2.length) σ σ1 → ok (f_X1_settle_55 N fuel (nI base) (b2 bs) (nI G) (nI gap) (nI a + f_X1_across (σ1.1 32 p) (b2 (!bs)) σ1) (nI p + 1) σ1) (StPost b k base (if bs = true then a + smA gap bs (r :: l) else G) (if bs = true then G else a + smA gap bs (r :: l)) (ofs gap bs G a (r :: l)) σ) := by
        intro σ1 ⟨y1, y2⟩
        have n0 : ∀ a j, a ≠ 28 → a ≠ 29 → σ1.1 a j = σ.1 a j := fun a j h1 h2 => (y2 a j (fun q => q.1.elim h1 h2)).1
        rw [n0 32 p (by decide) (by decide), p2, (x_across b1.1 b1.2 bs σ1).2, nadd, nI_1]
        cases l with
        | nil =>
          have hp1 : p + 1 = P := hp
          obtain ⟨fuel, rfl⟩ : ∃ f, fuel = f + 1 := ⟨fuel - 1, by rw [List.length_nil] at hf; omega⟩
          rw [f_X1_settle_55, n0 5613 0 (by decide) (by decide), h13, if_pos (nI_le (by omega) (by omega)), smA, ofs, ofs, List.append_nil]
          have F2 : ∀ (v : Int32), FrP (fun c j => (c = 5613 ∧ j = 0) ∨ ((c = 28 ∨ c = 29) ∧ k ≤ j ∧ j < k + (sft (if bs = true then nI a else nI ((G - acr bs r) / 2)) (if bs = true then nI ((G - acr bs r) / 2) else nI a) r.2.2).length)) σ (si σ1 5613 0 v) := fun v => by
            rw [sft_len]
            exact (y2.wide (fun a j h => Or.inr h)).si _ _ _ (Or.inl ⟨rfl, rfl⟩)
          have B2 : ∀ (v : Int32), BxA (si σ1 5613 0 v) b k (sft (if bs = true then nI a else nI ((G - acr bs r) / 2)) (if bs = true then nI ((G - acr bs r) / 2) else nI a) r.2.2) := fun v => BxA_fr y1 (fun j _ _ a ha => by rw [si_rd, if_neg (by rcases ha with h | h | h | h | h <;> (rw [h]; decide))])
          unfold f_X11_sizeOf
          cases bs with
          | true =>
            rw [if_neg (show ¬ b2 true = 0 by decide), ok_some]
            refine ⟨?_, by rw [si_rd, if_pos rfl, if_pos rfl], B2 _, F2 _⟩
            show nI (a + alg true r) * 65536 + nI G = _
            rw [show (65536 : Int32) = nI 65536 from rfl, nmul, nadd]; rfl
          | false =>
            rw [if_pos (show b2 false = 0 from rfl), ok_some]
            refine ⟨?_, by rw [si_rd, if_pos rfl, if_pos rfl], B2 _, F2 _⟩
            show nI G * 65536 + nI (a + alg false r) = _
            rw [show (65536 : Int32) = nI 65536 from rfl, nmul, nadd]; rfl
        | cons r' l =>
          have nx := ih fuel (p + 1) (k + r.2.2.length) (a + alg bs r + gap) (nI (a + alg bs r)) σ1 (by intro q; cases q) (by omega) (by omega) (by omega) (by rw [n0 5613 0 (by decide) (by decide)]; exact h13) (by rw [n0 5605 0 (by decide) (by decide)]; exact h05) (nadd _ _) (PrX_fr p3 (fun j _ _ => ⟨n0 31 j (by decide) (by decide), n0 32 j (by decide) (by decide)⟩)) (BxA_fr bx.2 (fun j h1 h2 a ha => (y2 a j (fun q => by omega)).1)) (fun x hx => hb x (List.mem_cons_of_mem _ hx)) (by omega)
          refine nx.mono (fun v ⟨z1, z2, z3, z4⟩ => ⟨?_, z2, ?_, ?_⟩)
          · rw [z1, smA, show a + alg bs r + gap + smA gap bs (r' :: l) = a + (alg bs r + gap + smA gap bs (r' :: l)) by omega]
          · rw [ofs, BxA_app, sft_len]
            refine ⟨BxA_fr y1 (fun j h1 h2 a ha => (z4 a j (fun q => ?_)).1), z3⟩
            rw [sft_len] at h2
            rcases q with ⟨q, _⟩ | q
            · rcases ha with h | h | h | h | h <;> (rw [h] at q; cases q)
            · omega
          · rw [ofs, List.length_append, sft_len]
            refine (y2.wide (fun a j h => Or.inr ⟨h.1, by omega, by omega⟩)).trans (z4.wide (fun a j h => ?_))
            rcases h with h | h
            · exact Or.inl h
            · exact Or.inr ⟨h.1, by omega, by omega⟩
      cases bs with
      | true =>
        simp only [b2, reduceIte, one_ne, Bool.not_true, Bool.false_eq_true] at sh step ⊢
        exact ok_bo_of sh step
      | false =>
        simp only [b2, reduceIte, one_ne, Bool.not_false, Bool.false_eq_true] at sh step ⊢
        exact ok_bo_of sh step
    rw [f_X1_settle_55, h13, if_neg (nI_ge (by omega) (by omega)), ib_n (a := p) (by omega), decide_eq_true (show p < 24 by omega), grd_true, ncl (a := p) (by omega), p2, (x_across b1.1 b1.2 bs σ).1, emid, hx, nI_1]
    cases l with
    | nil =>
      have hp1 : p + 1 = P := hp
      rw [if_pos (nI_le (by omega) (by omega)), h05]
      refine eu _ ?_
      have : (bxs []).length = 0 := rfl
      rw [← hk, this, Nat.add_zero]
    | cons r' l =>
      rw [List.length_cons] at hp
      rw [if_neg (nI_ge (by omega) (by omega)), ib_n (a := p + 1) (by omega), decide_eq_true (show p + 1 < 24 by omega), grd_true, ncl (a := p + 1) (by omega)]
      exact eu _ p3.1
theorem x_settleP {N : Nat} (hN : 802 < N) {bs : Bool} {base b k : Nat} {L : Lv} (hL : LOk L) {σ : St} (lx : LX 1 σ L) {rs : List Rs} (hr : rs ≠ []) (hp : base + rs.length ≤ 24) (hk : k + (bxs rs).length ≤ 24) (h13 : σ.1 5613 0 = nI (base + rs.length)) (h05 : σ.1 5605 0 = nI (k + (bxs rs).length)) (pr : PrX σ base k rs) (bx : BxA σ b k (bxs rs)) (hb : ∀ r, r ∈ rs → RB r) : ok (f_X1_settle N (nI base) (b2 bs) σ) (StPost b k base (cmb L.gap bs rs).1 (cmb L.gap bs rs).2.1 (cmb L.gap bs rs).2.2 σ) := by
  have hg : L.gap ≤ 9 := hL.2.2.1
  have e10 : σ.1 10 0 = nI L.gap := lx.2.2.1
  have hb' : ∀ r, r ∈ rs → RB r ∧ r.2.2.length ≤ 24 := fun r hr' => ⟨hb r hr', by
    have : ∀ (l : List Rs), r ∈ l → r.2.2.length ≤ (bxs l).length := by
      intro l
      induction l with
      | nil => intro h; cases h
      | cons x l ih =>
        intro h
        rw [bxs_cons, List.length_append]
        rcases List.mem_cons.mp h with e | e
        · rw [e]; omega
        · have := ih e; omega
    have := this rs hr'
    omega⟩
  have gl := gst_le (bs := bs) hb hr
  unfold f_X1_settle
  have e5 := x_st5 (N := N) (bs := bs) (x1 := nI base) (σ := σ) hp h13 rs N base k 0 (by omega) rfl pr hb' (by omega)
  have e5' : f_X1_settle_5 N N (nI base) (b2 bs) 0 (nI base) σ = _ := e5
  rw [e5', e10, Nat.max_eq_right (Nat.zero_le _)]
  have r := x_st55 (N := N) hN (bs := bs) (base := base) (b := b) (gap := L.gap) (G := gst bs rs) hp hk (by omega) hg rs N base k 0 (-nI L.gap) σ hr (by omega) rfl rfl h13 h05 (by rw [Int32.add_left_neg]; rfl) pr bx hb' (Nat.le_refl _)
  rw [Nat.zero_add] at r
  exact r
