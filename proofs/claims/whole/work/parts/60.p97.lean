/-! blocks, the reference: lay -/
def EnM (τ : St) (b k : Nat) (x : Bx) : Prop := τ.1 23 k = nI x.1 ∧ τ.1 24 k = nI b ∧ τ.1 25 k = x.2.1 ∧ τ.1 26 k = x.2.2.1 ∧ τ.1 27 k = nI x.2.2.2.1 ∧ τ.1 28 k = nI x.2.2.2.2
def BxM (τ : St) (b : Nat) : Nat → List Bx → Prop
  | _, [] => True
  | k, x :: l => EnM τ b k x ∧ BxM τ b (k + 1) l
abbrev V6 : List Nat := [23, 24, 25, 26, 27, 28]
def PLm (n a j : Nat) : Prop := a = 1036 ∨ (V6.contains a = true ∧ n ≤ j)
theorem BxM_app {τ : St} {b : Nat} : ∀ {l m : List Bx} {k : Nat}, BxM τ b k (l ++ m) ↔ BxM τ b k l ∧ BxM τ b (k + l.length) m := by
  intro l
  induction l with
  | nil => intro m k; exact ⟨fun h => ⟨trivial, h⟩, fun h => h.2⟩
  | cons x l ih =>
    intro m k
    rw [List.cons_append]
    show (EnM τ b k x ∧ BxM τ b (k + 1) (l ++ m)) ↔ ((EnM τ b k x ∧ BxM τ b (k + 1) l) ∧ BxM τ b (k + (l.length + 1)) m)
    rw [ih, show k + 1 + l.length = k + (l.length + 1) by omega, and_assoc]
theorem BxM_fr {τ τ' : St} {b : Nat} : ∀ {l : List Bx} {k : Nat}, BxM τ b k l → (∀ j, k ≤ j → j < k + l.length → ∀ a, V6.contains a = true → τ'.1 a j = τ.1 a j) → BxM τ' b k l := by
  intro l
  induction l with
  | nil => intro k _ _; trivial
  | cons x l ih =>
    intro k h e
    have ek := e k (Nat.le_refl _) (by rw [List.length_cons]; omega)
    refine ⟨?_, ih h.2 (fun j h1 h2 => e j (by omega) (by rw [List.length_cons]; omega))⟩
    unfold EnM
    rw [ek 23 rfl, ek 24 rfl, ek 25 rfl, ek 26 rfl, ek 27 rfl, ek 28 rfl]
    exact h.1
theorem V6_1036 : V6.contains 1036 = false := rfl
theorem PLm_V {n a j : Nat} (h : PLm n a j) : ([1036, 23, 24, 25, 26, 27, 28] : List Nat).contains a = true := by
  rcases h with h | ⟨h, _⟩
  · rw [h]; rfl
  · have key : ∀ a, a ∈ V6 → ([1036, 23, 24, 25, 26, 27, 28] : List Nat).contains a = true := by decide
    exact key a (List.contains_iff_mem.mp h)
theorem PLm_n {n a j : Nat} (h : ([1036, 23, 24, 25, 26, 27, 28] : List Nat).contains a = false) : ¬ PLm n a j := fun q => by rw [PLm_V q] at h; cases h
theorem SmN_L {τ τ' : St} {n : Nat} (f : FrP (PLm n) τ τ') (p a m : Nat) : SmN τ τ' (Sz τ) (Sz τ') p a m := fun j _ _ => ⟨(f 11 j (PLm_n rfl)).1, (f 12 j (PLm_n rfl)).1, (f 13 j (PLm_n rfl)).1, (f 14 j (PLm_n rfl)).1, fun _ => (f 15 j (PLm_n rfl)).1, fun r q => ⟨by rw [(f 16 j (PLm_n rfl)).1]; exact q.1, by rw [(f 17 j (PLm_n rfl)).1]; exact q.2⟩⟩
theorem m_layOne {τ : St} {n s b w h : Nat} {X Y : Int32} (hn : n < 24) (h36 : τ.1 1036 0 = nI n) : ok (f_X12_layOne (nI s) (nI b) X Y (nI w) (nI h) τ) (fun τ' => BxM τ' b n [(s, X, Y, w, h)] ∧ τ'.1 1036 0 = nI (n + 1) ∧ FrP (fun a j => a = 1036 ∨ (V6.contains a = true ∧ j = n)) τ τ') := by
  unfold f_X12_layOne
  rw [h36, ib_n (a := n) (by omega), decide_eq_true hn, ncl (a := n) (by omega), nI_1]
  simp only [grd_true]
  rw [ok_some]
  refine ⟨⟨⟨?_, ?_, ?_, ?_, ?_, ?_⟩, trivial⟩, ?_, (((((((FrP.refl _ _).si _ _ _ (Or.inr ⟨rfl, rfl⟩)).si _ _ _ (Or.inr ⟨rfl, rfl⟩)).si _ _ _ (Or.inr ⟨rfl, rfl⟩)).si _ _ _ (Or.inr ⟨rfl, rfl⟩)).si _ _ _ (Or.inr ⟨rfl, rfl⟩)).si _ _ _ (Or.inr ⟨rfl, rfl⟩)).si _ _ _ (Or.inl rfl)⟩
  · simp only [si_rd, reduceIte, Nat.reduceEqDiff]
  · simp only [si_rd, reduceIte, Nat.reduceEqDiff]
  · simp only [si_rd, reduceIte, Nat.reduceEqDiff]
  · simp only [si_rd, reduceIte, Nat.reduceEqDiff]
  · simp only [si_rd, reduceIte, Nat.reduceEqDiff]
  · simp only [si_rd, reduceIte, Nat.reduceEqDiff]
  · simp only [si_rd, reduceIte, Nat.reduceEqDiff]
def LyC (L : Lv) (hd : Int32 → Int32 → Int32 → Int32 → St → Option St) (E1 : St → Nat → Nat → Nat → Prop) (r : Rs) : Prop := ∀ τ k a m X Y b n, E1 τ k a m → m ≤ 400 → LM τ L → τ.1 1036 0 = nI n → n + r.2.2.length ≤ 24 → ok (hd (nI k) X Y (nI b) τ) (fun τ' => BxM τ' b n (sft X Y r.2.2) ∧ τ'.1 1036 0 = nI (n + r.2.2.length) ∧ FrP (PLm n) τ τ')
theorem sft_app (X Y : Int32) (a b : List Bx) : sft X Y (a ++ b) = sft X Y a ++ sft X Y b := List.map_append
theorem m_lyF {N : Nat} {L : Lv} (hL : LOk L) {f : Nat × Nat} (hf : okF L f) (D : Nat) : LyC L (f_X12_lay N (D + 1)) (fun τ => NdF τ (Sz τ) L f) (lfR L f) := by
  intro τ p lo hi X Y b n ⟨h1, h2, h3, h4, h5, h6⟩ hhi lm h36 hn
  have h40 := hL.1
  obtain ⟨s, o⟩ := f
  have hs : s < L.n := hf.1
  have h4' : τ.1 12 p = nI s := h4
  have h5' : τ.1 13 p = (if o = 0 then -1 else nI (o - 1)) := h5
  have z1 : τ.1 16 p = nI (L.w s) := h6.1
  have z2 : τ.1 17 p = nI (L.h s) := h6.2
  have l1 : 1 ≤ (lfR L (s, o)).2.2.length := by unfold lfR; rw [List.length_cons]; omega
  rw [f_X12_lay]
  unfold f_X12_lay_b
  rw [ib_n (a := p) (by omega), decide_eq_true (show p < 400 by omega), ncl (a := p) (by omega), h3, if_pos rfl, h4', z1, z2]
  simp only [grd_true]
  refine ok_bo_of (m_layOne (by omega) h36) (fun τ1 ⟨y1, y2, y3⟩ => ?_)
  have n1 : ∀ a j, ([1036, 23, 24, 25, 26, 27, 28] : List Nat).contains a = false → τ1.1 a j = τ.1 a j := fun a j q => (y3 a j (fun r => by
    rcases r with r | ⟨r, _⟩
    · rw [r] at q; cases q
    · rw [PLm_V (n := 0) (j := 0) (Or.inr ⟨r, Nat.le_refl _⟩)] at q; cases q)).1
  have F1 : FrP (PLm n) τ τ1 := y3.wide (fun a j h => h.imp id (fun h => ⟨h.1, by omega⟩))
  rw [n1 13 p rfl, h5']
  have e0 : ∀ x : Int32, 0 + x = x := Int32.zero_add
  by_cases o0 : o = 0
  · subst o0
    rw [if_pos rfl, if_pos rfl, ok_some]
    refine ⟨?_, y2, F1⟩
    show BxM τ1 b n [(s, 0 + X, 0 + Y, L.w s, L.h s)]
    rw [e0, e0]; exact y1
  · have oo : o - 1 < L.n := hf.2.resolve_left o0
    have lm1 : LM τ1 L := LM_fr lm (F1.toFr (fun a j h => PLm_V h)) rfl
    obtain ⟨_, c2, c3, _⟩ := lm1.2.1 (o - 1) oo
    obtain ⟨d1, d2, _⟩ := hL.2.1 (o - 1) oo
    have hw : f_X12_greater 1 (nI (L.w (o - 1)) / 2) τ1 = nI (hfW L (o - 1)) := by
      unfold hfW
      rw [show (2 : Int32) = nI 2 from rfl, ndiv (by omega) (by omega), show (1 : Int32) = nI 1 from rfl, m_greater (by omega) (by omega)]
    have hh : f_X12_greater 1 (nI (L.h (o - 1)) / 2) τ1 = nI (hfH L (o - 1)) := by
      unfold hfH
      rw [show (2 : Int32) = nI 2 from rfl, ndiv (by omega) (by omega), show (1 : Int32) = nI 1 from rfl, m_greater (by omega) (by omega)]
    have l2 : (lfR L (s, o)).2.2 = [(s, 0, 0, L.w s, L.h s)] ++ [(o - 1, nI (L.w s) - nI (hfW L (o - 1)), 0, hfW L (o - 1), hfH L (o - 1))] := by
      unfold lfR
      show _ :: (if o = 0 then [] else _) = _
      rw [if_neg o0]; rfl
    have k2 : n + 1 < 24 := by rw [l2] at hn; simp at hn; omega
    rw [if_neg o0, if_neg (nneg _ (by omega)), ib_n (a := o - 1) (by omega), decide_eq_true (show o - 1 < 80 by omega), ncl (a := o - 1) (by omega), c2, c3, hw, hh, n1 16 p rfl, z1]
    simp only [grd_true]
    refine ok_bo_of (m_layOne k2 y2) (fun τ2 ⟨w1, w2, w3⟩ => ?_)
    rw [ok_some, l2]
    refine ⟨?_, w2, F1.trans (w3.wide (fun a j h => h.imp id (fun h => ⟨h.1, by omega⟩)))⟩
    show BxM τ2 b n [(s, 0 + X, 0 + Y, L.w s, L.h s), (o - 1, nI (L.w s) - nI (hfW L (o - 1)) + X, 0 + Y, hfW L (o - 1), hfH L (o - 1))]
    have ex : nI (L.w s) - nI (hfW L (o - 1)) + X = X + nI (L.w s) - nI (hfW L (o - 1)) := by
      rw [Int32.sub_eq_add_neg, Int32.sub_eq_add_neg, Int32.add_comm, ← Int32.add_assoc]
    rw [e0, e0, ex]
    refine ⟨(BxM_fr (l := [(s, X, Y, L.w s, L.h s)]) y1 (fun j j1 j2 a ha => (w3 a j (fun q => ?_)).1)).1, w1⟩
    have j2' : j < n + 1 := j2
    rcases q with q | ⟨_, q⟩
    · rw [q, V6_1036] at ha; cases ha
    · omega
theorem m_ly120 {N : Nat} {α : Type} {L : Lv} {hd : Int32 → Int32 → Int32 → Int32 → St → Option St} {E1 : α → St → Nat → Nat → Nat → Prop} {ly : α → Rs} {bs : Bool} {p b G : Nat} (hp : p < 400) (hG : G ≤ 2000) {X Y : Int32}
    (frL : ∀ x τ τ' k a m n, FrP (PLm n) τ τ' → E1 x τ k a m → E1 x τ' k a m) (szL : ∀ x τ k a m, E1 x τ k a m → Sz τ k (ly x)) :
    ∀ (l : List α) (ps : List Nat) (fuel lo hi n A : Nat) (τ : St) (x6 : Int32), (∀ x, x ∈ l → LyC L hd (E1 x) (ly x) ∧ RB (ly x)) → gst bs (l.map ly) ≤ G → AlI (fun x => E1 x τ) p l ps lo hi → Chn τ ps x6 → hi ≤ 400 → LM τ L → τ.1 11 p = nI (kdn' bs) → (if bs = true then τ.1 17 p else τ.1 16 p) = nI G → τ.1 1036 0 = nI n → n + (bxs (l.map ly)).length ≤ 24 → l.length < fuel →
    ok (f_X12_lay_120 N hd fuel (nI p) X Y (nI b) (nI A) x6 τ) (fun τ' => BxM τ' b n (sft X Y (ofs L.gap bs G A (l.map ly))) ∧ τ'.1 1036 0 = nI (n + (bxs (l.map ly)).length) ∧ FrP (PLm n) τ τ') := by
  intro l
  induction l with
  | nil =>
    intro ps fuel lo hi n A τ x6 _ _ h c _ _ _ _ h36 _ hf
    obtain ⟨fuel, rfl⟩ : ∃ f, fuel = f + 1 := ⟨fuel - 1, by omega⟩
    cases ps with
    | nil =>
      have c' : x6 = -1 := c
      rw [f_X12_lay_120, if_pos c', ok_some]
      exact ⟨trivial, h36, FrP.refl _ _⟩
    | cons _ _ => exact absurd h id
  | cons x l ih =>
    intro ps fuel lo hi n A τ x6 hm hgs h c hhi lm h11 hac h36 hn hf
    cases ps with
    | nil => exact absurd h id
    | cons k ps =>
      obtain ⟨fuel, rfl⟩ : ∃ f, fuel = f + 1 := ⟨fuel - 1, by omega⟩
      rw [List.length_cons] at hf
      obtain ⟨a, m, h1, h2, h3, h4, h5, h6⟩ := h
      obtain ⟨c1, c2⟩ := c
      obtain ⟨mc, rb⟩ := hm x List.mem_cons_self
      have hk : k < 400 := by omega
      have sz := szL x τ k a m h4
      rw [List.map_cons, gst] at hgs
      rw [List.map_cons, bxs_cons, List.length_append] at hn ⊢
      have rl : (ly x).2.2.length ≤ 24 := by omega
      have rb2 := RB_ac (bs := bs) rb
      have hag : acr bs (ly x) ≤ G := by omega
      have em : ∀ g q : Nat, q ≤ g → g ≤ 2000 → (nI g - nI q) / 2 = nI ((g - q) / 2) := fun g q q1 q2 => by
        rw [nsub q1, show (2 : Int32) = nI 2 from rfl, ndiv (by omega) (by omega)]
      have go : ∀ (X' Y' : Int32), X' = (if bs = true then nI A else nI ((G - acr bs (ly x)) / 2)) → Y' = (if bs = true then nI ((G - acr bs (ly x)) / 2) else nI A) → ∀ σ' : St → Option St, (∀ τ1, FrP (PLm n) τ τ1 → Sz τ1 k (ly x) → τ1.1 2 0 = nI L.gap → σ' τ1 = f_X12_lay_120 N hd fuel (nI p) X Y (nI b) (nI (A + alg bs (ly x) + L.gap)) (τ1.1 15 k) τ1) → ok (bo (hd (nI k) (X + X') (Y + Y') (nI b) τ) σ') (fun τ' => BxM τ' b n (sft X Y (ofs L.gap bs G A (ly x :: l.map ly))) ∧ τ'.1 1036 0 = nI (n + ((ly x).2.2.length + (bxs (l.map ly)).length)) ∧ FrP (PLm n) τ τ') := by
        intro X' Y' hX hY σ' hσ
        refine ok_bo_of (mc τ k a m (X + X') (Y + Y') b n h4 (by omega) lm h36 (by omega)) (fun τ1 ⟨y1, y2, y3⟩ => ?_)
        have lm1 : LM τ1 L := LM_fr lm (y3.toFr (fun a j h => PLm_V h)) rfl
        have n1 : ∀ a j, ([1036, 23, 24, 25, 26, 27, 28] : List Nat).contains a = false → τ1.1 a j = τ.1 a j := fun a j q => (y3 a j (PLm_n q)).1
        rw [hσ τ1 y3 ⟨by rw [n1 16 k rfl]; exact sz.1, by rw [n1 17 k rfl]; exact sz.2⟩ lm1.2.2.1]
        refine (ih ps fuel m hi (n + (ly x).2.2.length) (A + alg bs (ly x) + L.gap) τ1 (τ1.1 15 k) (fun y hy => hm y (List.mem_cons_of_mem _ hy)) (by omega) (AlI_imp h6 (fun y q a' m' _ _ _ q4 => frL y τ τ1 q a' m' n y3 q4)) (by rw [n1 15 k rfl]; exact Chn_fr c2 (fun q _ => n1 15 q rfl)) hhi lm1 (by rw [n1 11 p rfl]; exact h11) (by rw [n1 16 p rfl, n1 17 p rfl]; exact hac) y2 (by omega) (by omega)).mono (fun τ2 ⟨w1, w2, w3⟩ => ⟨?_, by rw [w2]; congr 1; omega, y3.trans (w3.wide (fun a j h => h.imp id (fun h => ⟨h.1, by omega⟩)))⟩)
        rw [ofs, sft_app, BxM_app, sft_sft, sft_len]
        refine ⟨?_, w1⟩
        rw [← hX, ← hY, Int32.add_comm X' X, Int32.add_comm Y' Y]
        refine BxM_fr y1 (fun j j1 j2 a ha => (w3 a j (fun q => ?_)).1)
        rw [sft_len] at j2
        rcases q with q | ⟨_, q⟩
        · rw [q, V6_1036] at ha; cases ha
        · omega
      rw [f_X12_lay_120, c1, if_neg (nneg k (by omega)), ib_n (a := p) (by omega), decide_eq_true hp, ncl (a := p) (by omega), h11, grd_true]
      unfold f_X12_lay_141 f_X12_lay_173 f_X12_lay_201 f_X12_lay_237
      rw [ib_n (a := p) (by omega), decide_eq_true hp, ncl (a := p) (by omega), ib_n (a := k) (by omega), decide_eq_true hk, ncl (a := k) (by omega), show ib 0 8 = true from rfl, sz.1, sz.2]
      simp only [grd_true]
      cases bs with
      | true =>
        have hac' : τ.1 17 p = nI G := hac
        have q2 : (ly x).2.1 = acr true (ly x) := rfl
        rw [show nI (kdn' true) = (1 : Int32) from rfl, if_pos (show (1 : Int32) = 1 from rfl), if_neg one_ne, if_neg one_ne, hac', q2, em G _ hag hG]
        refine go _ _ rfl rfl _ (fun τ1 g1 g2 g3 => ?_)
        rw [if_neg one_ne, g3, g2.1, nadd, nadd]
        congr 2
        show A + (L.gap + (ly x).1) = A + (ly x).1 + L.gap
        omega
      | false =>
        have hac' : τ.1 16 p = nI G := hac
        have q2 : (ly x).1 = acr false (ly x) := rfl
        rw [show nI (kdn' false) = (2 : Int32) from rfl, if_neg (show ¬ (2 : Int32) = 1 by decide), if_pos trivial, if_pos trivial, hac', q2, em G _ hag hG]
        refine go _ _ rfl rfl _ (fun τ1 g1 g2 g3 => ?_)
        rw [if_pos trivial, g3, g2.2, nadd, nadd]
        congr 2
        show A + (L.gap + (ly x).2.1) = A + (ly x).2.1 + L.gap
        omega
theorem m_lyRow {N : Nat} (hN : 802 < N) {α : Type} {L : Lv} (hL : LOk L) {E1 : α → St → Nat → Nat → Nat → Prop} {ly : α → Rs} {bs : Bool} {D : Nat} {l : List α} (hl : l ≠ [])
    (frL : ∀ x τ τ' k a m n, FrP (PLm n) τ τ' → E1 x τ k a m → E1 x τ' k a m) (szL : ∀ x τ k a m, E1 x τ k a m → Sz τ k (ly x))
    (hc : ∀ D', D ≤ D' → ∀ x, x ∈ l → LyC L (f_X12_lay N D') (E1 x) (ly x)) (hrb : ∀ x, x ∈ l → RB (ly x) ∧ 1 ≤ (ly x).2.2.length) :
    ∀ D', D + 1 ≤ D' → LyC L (f_X12_lay N D') (fun τ => RwI τ (Sz τ) (kdn' bs) (fun x => E1 x τ) l (cmb L.gap bs (l.map ly))) (cmb L.gap bs (l.map ly)) := by
  intro D' hD τ p lo hi X Y b n h hhi lm h36 hn
  rcases h with ⟨x, h1, h2⟩ | ⟨h1, h2, h3, h4, h5, ps, h6, h7⟩
  · subst h1
    rw [List.map_cons, List.map_nil, cmb_1] at hn ⊢
    exact hc D' (by omega) x List.mem_cons_self τ p lo hi X Y b n h2 hhi lm h36 hn
  · obtain ⟨D', rfl⟩ : ∃ x, D' = x + 1 := ⟨D' - 1, by omega⟩
    rw [cmb_len] at hn
    have hp : p < 400 := by omega
    have rbm : ∀ r, r ∈ l.map ly → RB r ∧ 1 ≤ r.2.2.length := fun r hr => by
      obtain ⟨x, x1, x2⟩ := List.mem_map.mp hr
      rw [← x2]; exact hrb x x1
    have gs := gst_le (bs := bs) (rs := l.map ly) (fun r hr => (rbm r hr).1) (fun q => hl (List.map_eq_nil_iff.mp q))
    have ll := bxs_pos (rs := l.map ly) (fun r hr => (rbm r hr).2)
    rw [List.length_map] at ll
    rw [f_X12_lay]
    unfold f_X12_lay_b
    rw [ib_n (a := p) (by omega), decide_eq_true hp, ncl (a := p) (by omega), h4, grd_true, if_neg (by cases bs <;> decide), grd_true, cmb_len]
    have r := m_ly120 (N := N) (hd := f_X12_lay N D') (bs := bs) (p := p) (b := b) (G := gst bs (l.map ly)) (X := X) (Y := Y) hp (by omega) frL szL l ps N lo hi n 0 τ (τ.1 14 p) (fun x hx => ⟨hc D' (by omega) x hx, (hrb x hx).1⟩) (Nat.le_refl _) h7 h6 hhi lm h4 (by
      cases bs with
      | true => exact h5.2
      | false => exact h5.1) h36 hn (by omega)
    exact r
theorem NdF_sz {τ : St} {L : Lv} {f : Nat × Nat} {p lo hi : Nat} (h : NdF τ (Sz τ) L f p lo hi) : Sz τ p (lfR L f) := h.2.2.2.2.2
theorem RwI_sz {α : Type} {τ : St} {gap kind : Nat} {bs : Bool} {E : α → Nat → Nat → Nat → Prop} {ly : α → Rs} {l : List α} {p lo hi : Nat} (h : RwI τ (Sz τ) kind E l (cmb gap bs (l.map ly)) p lo hi) (e : ∀ x k a m, E x k a m → Sz τ k (ly x)) : Sz τ p (cmb gap bs (l.map ly)) := by
  rcases h with ⟨x, h1, h2⟩ | ⟨_, _, _, _, h5, _⟩
  · subst h1
    rw [List.map_cons, List.map_nil, cmb_1]
    exact e x p lo hi h2
  · exact h5
theorem NdI_sz {τ : St} {L : Lv} : ∀ (d : Nat) (x : It d) (p lo hi : Nat), NdI τ (Sz τ) L d x p lo hi → Sz τ p (lyI L d x) := by
  intro d
  induction d with
  | zero => intro x p lo hi h; exact NdF_sz h
  | succ d ih =>
    intro x p lo hi h
    cases x with
    | inl f => exact NdF_sz h
    | inr b => exact RwI_sz (ly := lyO L d) (bs := true) h (fun o k a m h' => RwI_sz (ly := lyI L d) (bs := false) h' (fun i k a m h' => ih i k a m h'))
theorem NdO_sz {τ : St} {L : Lv} {d : Nat} {o : List (It d)} {p lo hi : Nat} (h : NdO τ (Sz τ) L d o p lo hi) : Sz τ p (lyO L d o) := RwI_sz (ly := lyI L d) (bs := false) h (fun i k a m h' => NdI_sz d i k a m h')
theorem m_lyO {N : Nat} (hN : 802 < N) {L : Lv} (hL : LOk L) {d D : Nat} (hI : ∀ (x : It d), okI L d x → ∀ D', D ≤ D' → LyC L (f_X12_lay N D') (fun τ => NdI τ (Sz τ) L d x) (lyI L d x)) {o : List (It d)} (ho : okO L d o) : ∀ D', D + 1 ≤ D' → LyC L (f_X12_lay N D') (fun τ => NdO τ (Sz τ) L d o) (lyO L d o) :=
  m_lyRow hN hL (bs := false) (E1 := fun x τ => NdI τ (Sz τ) L d x) (ly := lyI L d) ho.1 (fun x τ τ' k a m n f h => NdI_fr d x k a m (SmN_L f k a m) h) (fun x τ k a m h => NdI_sz d x k a m h) (fun D' h x hx => hI x (ho.2 x hx) D' h) (fun x hx => okI_RB hL d x (ho.2 x hx))
theorem m_lyB {N : Nat} (hN : 802 < N) {L : Lv} (hL : LOk L) {d D : Nat} (hI : ∀ (x : It d), okI L d x → ∀ D', D ≤ D' → LyC L (f_X12_lay N D') (fun τ => NdI τ (Sz τ) L d x) (lyI L d x)) {b : List (List (It d))} (hb : okB L d b) : ∀ D', D + 2 ≤ D' → LyC L (f_X12_lay N D') (fun τ => NdB τ (Sz τ) L d b) (lyB L d b) :=
  m_lyRow hN hL (bs := true) (E1 := fun o τ => NdO τ (Sz τ) L d o) (ly := lyO L d) hb.1 (fun x τ τ' k a m n f h => NdO_fr (SmN_L f k a m) h) (fun x τ k a m h => NdO_sz h) (fun D' h x hx => m_lyO hN hL hI (hb.2 x hx) D' h) (fun x hx => okO_RB hL (hb.2 x hx))
theorem m_lyI {N : Nat} (hN : 802 < N) {L : Lv} (hL : LOk L) : ∀ (d : Nat) (x : It d), okI L d x → ∀ D', 2 * d + 1 ≤ D' → LyC L (f_X12_lay N D') (fun τ => NdI τ (Sz τ) L d x) (lyI L d x) := by
  intro d
  induction d with
  | zero =>
    intro x hx D' hD
    obtain ⟨D', rfl⟩ : ∃ y, D' = y + 1 := ⟨D' - 1, by omega⟩
    exact m_lyF hL hx D'
  | succ d ih =>
    intro x hx D' hD
    cases x with
    | inl f =>
      obtain ⟨D', rfl⟩ : ∃ y, D' = y + 1 := ⟨D' - 1, by omega⟩
      exact m_lyF hL hx D'
    | inr b => exact m_lyB hN hL ih (b := b) hx D' (by omega)
