/-! blocks, the reference: measure -/
theorem sal_le {bs : Bool} : ∀ {rs : List Rs}, (∀ r, r ∈ rs → RB r) → sal bs rs ≤ 69 * (bxs rs).length := by
  intro rs
  induction rs with
  | nil => intro _; exact Nat.zero_le _
  | cons r l ih =>
    intro h
    have := ih (fun x hx => h x (List.mem_cons_of_mem _ hx))
    have := (RB_ac (bs := bs) (h r List.mem_cons_self)).2
    rw [sal, bxs_cons, List.length_append]; omega
theorem bxs_mem {rs : List Rs} {r : Rs} (h : r ∈ rs) : r.2.2.length ≤ (bxs rs).length := by
  induction rs with
  | nil => cases h
  | cons x l ih =>
    rw [bxs_cons, List.length_append]
    rcases List.mem_cons.mp h with e | e
    · rw [e]; omega
    · have := ih e; omega
theorem m_msRow {N : Nat} (hN : 802 < N) {α : Type} {L : Lv} (hL : LOk L) {E E1 : α → St → Nat → Nat → Nat → Prop} {ly : α → Rs} {bs : Bool} {D : Nat} {l : List α} (hl : l ≠ [])
    (frE : ∀ x τ τ' k a m lo hi, FrP (PMz lo hi) τ τ' → E x τ k a m → E x τ' k a m) (frE1 : ∀ x τ τ' k a m lo hi, FrP (PMz lo hi) τ τ' → (m ≤ lo ∨ hi ≤ a) → E1 x τ k a m → E1 x τ' k a m)
    (hc : ∀ D', D ≤ D' → ∀ x, x ∈ l → MsC L (f_X12_measure N D') (E x) (E1 x) (ly x)) (hrb : ∀ x, x ∈ l → RB (ly x) ∧ 1 ≤ (ly x).2.2.length) (hlen : (cmb L.gap bs (l.map ly)).2.2.length ≤ 24) :
    ∀ D', D + 1 ≤ D' → MsC L (f_X12_measure N D') (fun τ => RwI τ QT (kdn' bs) (fun x => E x τ) l (cmb L.gap bs (l.map ly))) (fun τ => RwI τ (Sz τ) (kdn' bs) (fun x => E1 x τ) l (cmb L.gap bs (l.map ly))) (cmb L.gap bs (l.map ly)) := by
  intro D' hD τ p lo hi h hhi lm
  rw [cmb_len] at hlen
  have hg : L.gap ≤ 9 := hL.2.2.1
  rcases h with ⟨x, h1, h2⟩ | ⟨h1, h2, h3, h4, h5, ps, h6, h7⟩
  · subst h1
    rw [List.map_cons, List.map_nil, cmb_1]
    exact (hc D' (by omega) x List.mem_cons_self τ p lo hi h2 hhi lm).mono (fun τ' ⟨y1, y2, y3⟩ => ⟨Or.inl ⟨x, rfl, y1⟩, y2, y3⟩)
  · obtain ⟨D', rfl⟩ : ∃ x, D' = x + 1 := ⟨D' - 1, by omega⟩
    have hp : p < 400 := by omega
    have rbm : ∀ r, r ∈ l.map ly → RB r ∧ 1 ≤ r.2.2.length := fun r hr => by
      obtain ⟨x, x1, x2⟩ := List.mem_map.mp hr
      rw [← x2]; exact hrb x x1
    have sl := sal_le (bs := bs) (rs := l.map ly) (fun r hr => (rbm r hr).1)
    have gs := gst_le (bs := bs) (rs := l.map ly) (fun r hr => (rbm r hr).1) (fun q => hl (List.map_eq_nil_iff.mp q))
    have ll := bxs_pos (rs := l.map ly) (fun r hr => (rbm r hr).2)
    rw [List.length_map] at ll
    obtain ⟨τ1, e1, w1, w2, w3, w4⟩ := m_ms59 (N := N) (hd := f_X12_measure N D') (bs := bs) hp frE frE1 l ps N lo hi τ 0 0 0 (τ.1 14 p) (fun x hx => ⟨hc D' (by omega) x hx, (hrb x hx).1, by
      have := bxs_mem (List.mem_map.mpr ⟨x, hx, rfl⟩ : ly x ∈ l.map ly)
      omega⟩) h7 h6 hhi lm h4 (by omega) (by omega) (by omega) (by omega)
    have e0 : nI (if bs = true then 0 else 0) = (0 : Int32) := by cases bs <;> rfl
    rw [e0, show nI 0 = (0 : Int32) from rfl] at e1
    have n16 : ∀ b j, b ≠ 16 → b ≠ 17 → τ1.1 b j = τ.1 b j := fun b j q1 q2 => (w2 b j (PMz_n q1 q2)).1
    rw [f_X12_measure]
    unfold f_X12_measure_b
    rw [ib_n (a := p) (by omega), decide_eq_true hp, ncl (a := p) (by omega), h4]
    simp only [grd_true]
    rw [if_neg (by cases bs <;> decide), e1, Nat.zero_add, Nat.zero_add, Nat.max_eq_right (Nat.zero_le _)]
    obtain ⟨M, hM⟩ : ∃ M, N - l.length = M + 1 := ⟨N - l.length - 1, by omega⟩
    have sm := smA_sal L.gap bs (l.map ly) (fun q => hl (List.map_eq_nil_iff.mp q))
    rw [List.length_map] at sm
    have gm : L.gap * (l.length - 1) ≤ 9 * 24 := Nat.mul_le_mul hg (by omega)
    have eg : τ1.1 2 0 = nI L.gap := by rw [n16 2 0 (by decide) (by decide)]; exact lm.2.2.1
    have en : nI L.gap * (nI l.length - 1) = nI (L.gap * (l.length - 1)) := by rw [show (1 : Int32) = nI 1 from rfl, nsub (by omega), nmul]
    rw [hM, f_X12_measure_59, if_pos rfl]
    unfold f_X12_measure_185 f_X12_measure_218
    rw [ib_n (a := p) (by omega), decide_eq_true hp, ncl (a := p) (by omega), n16 11 p (by decide) (by decide), h4, eg, en, show ib 0 8 = true from rfl]
    simp only [grd_true]
    have fin : ∀ (u v : Int32), u = nI (cmb L.gap bs (l.map ly)).1 → v = nI (cmb L.gap bs (l.map ly)).2.1 → ok (some (si (si τ1 16 p u) 17 p v)) (fun τ' => RwI τ' (Sz τ') (kdn' bs) (fun x => E1 x τ') l (cmb L.gap bs (l.map ly)) p lo hi ∧ Sz τ' p (cmb L.gap bs (l.map ly)) ∧ FrP (PMz lo hi) τ τ') := by
      intro u v hu hv
      rw [ok_some]
      have F : FrP (PMz p (p + 1)) τ1 (si (si τ1 16 p u) 17 p v) := ((FrP.refl _ _).si _ _ _ ⟨Or.inl rfl, Nat.le_refl _, by omega⟩).si _ _ _ ⟨Or.inr rfl, Nat.le_refl _, by omega⟩
      have z : Sz (si (si τ1 16 p u) 17 p v) p (cmb L.gap bs (l.map ly)) := ⟨by rw [← hu]; simp only [si_rd, reduceIte, Nat.reduceEqDiff], by rw [← hv]; simp only [si_rd, reduceIte, Nat.reduceEqDiff]⟩
      generalize si (si τ1 16 p u) 17 p v = τ2 at *
      have n2 : ∀ b j, b ≠ 16 → b ≠ 17 → τ2.1 b j = τ.1 b j := fun b j q1 q2 => by rw [(F b j (PMz_n q1 q2)).1, n16 b j q1 q2]
      refine ⟨Or.inr ⟨h1, h2, h3, by rw [n2 11 p (by decide) (by decide)]; exact h4, z, ps, ?_, AlI_imp w1 (fun x k a m _ _ q3 q4 => frE1 x τ1 τ2 k a m p (p + 1) F (by omega) q4)⟩, z, w2.trans (F.wide (fun b j q => ⟨q.1, by have := q.2; omega, by have := q.2; omega⟩))⟩
      rw [n2 14 p (by decide) (by decide)]
      exact Chn_fr h6 (fun k _ => n2 15 k (by decide) (by decide))
    cases bs with
    | true =>
      rw [show nI (kdn' true) = (1 : Int32) from rfl, if_pos (show (1 : Int32) = 1 from rfl), if_neg (show ¬ (1 : Int32) = 2 by decide)]
      refine fin _ _ ?_ ?_
      · rw [nadd, if_pos rfl, ← sm]; rfl
      · rw [show (0 : Int32) = nI 0 from rfl, nadd]; rfl
    | false =>
      rw [show nI (kdn' false) = (2 : Int32) from rfl, if_neg (show ¬ (2 : Int32) = 1 by decide), if_pos (show (2 : Int32) = 2 from rfl)]
      refine fin _ _ ?_ ?_
      · rw [show (0 : Int32) = nI 0 from rfl, nadd]; rfl
      · rw [nadd, if_neg (by decide), ← sm]; rfl
theorem m_msF {N : Nat} {L : Lv} (hL : LOk L) {f : Nat × Nat} (hf : okF L f) (D : Nat) : MsC L (f_X12_measure N (D + 1)) (fun τ => NdF τ QT L f) (fun τ => NdF τ (Sz τ) L f) (lfR L f) := by
  intro τ p lo hi ⟨h1, h2, h3, h4, h5, _⟩ hhi lm
  have h40 := hL.1
  have hs : f.1 < L.n := hf.1
  obtain ⟨_, c2, c3, _⟩ := lm.2.1 f.1 hs
  rw [f_X12_measure]
  unfold f_X12_measure_b
  rw [ib_n (a := p) (by omega), decide_eq_true (show p < 400 by omega), ncl (a := p) (by omega), h3, h4, if_pos rfl, ib_n (a := f.1) (by omega), decide_eq_true (show f.1 < 80 by omega), ncl (a := f.1) (by omega), c2, c3]
  simp only [grd_true]
  rw [ok_some]
  have F : FrP (PMz p (p + 1)) τ (si (si τ 16 p (nI (L.w f.1))) 17 p (nI (L.h f.1))) := ((FrP.refl _ _).si _ _ _ ⟨Or.inl rfl, Nat.le_refl _, by omega⟩).si _ _ _ ⟨Or.inr rfl, Nat.le_refl _, by omega⟩
  have z : Sz (si (si τ 16 p (nI (L.w f.1))) 17 p (nI (L.h f.1))) p (lfR L f) := ⟨by simp only [si_rd, reduceIte, Nat.reduceEqDiff]; rfl, by simp only [si_rd, reduceIte, Nat.reduceEqDiff]; rfl⟩
  have n2 : ∀ b j, b ≠ 16 → b ≠ 17 → (si (si τ 16 p (nI (L.w f.1))) 17 p (nI (L.h f.1))).1 b j = τ.1 b j := fun b j q1 q2 => (F b j (PMz_n q1 q2)).1
  exact ⟨⟨h1, h2, by rw [n2 11 p (by decide) (by decide)]; exact h3, by rw [n2 12 p (by decide) (by decide)]; exact h4, by rw [n2 13 p (by decide) (by decide)]; exact h5, z⟩, z, F.wide (fun b j q => ⟨q.1, by have := q.2; omega, by have := q.2; omega⟩)⟩
theorem frI0 {L : Lv} (d : Nat) : ∀ (x : It d) (τ τ' : St) (k a m lo hi : Nat), FrP (PMz lo hi) τ τ' → NdI τ QT L d x k a m → NdI τ' QT L d x k a m := fun x τ τ' k a m lo hi f h => NdI_fr d x k a m (SmN_T f k a m) h
theorem frI1 {L : Lv} (d : Nat) : ∀ (x : It d) (τ τ' : St) (k a m lo hi : Nat), FrP (PMz lo hi) τ τ' → (m ≤ lo ∨ hi ≤ a) → NdI τ (Sz τ) L d x k a m → NdI τ' (Sz τ') L d x k a m := fun x τ τ' k a m lo hi f q h => NdI_fr d x k a m (SmN_Z f q) h
theorem m_msO {N : Nat} (hN : 802 < N) {L : Lv} (hL : LOk L) {d D : Nat} (hI : ∀ (x : It d), okI L d x → (lyI L d x).2.2.length ≤ 24 → ∀ D', D ≤ D' → MsC L (f_X12_measure N D') (fun τ => NdI τ QT L d x) (fun τ => NdI τ (Sz τ) L d x) (lyI L d x)) {o : List (It d)} (ho : okO L d o) (hlen : (lyO L d o).2.2.length ≤ 24) : ∀ D', D + 1 ≤ D' → MsC L (f_X12_measure N D') (fun τ => NdO τ QT L d o) (fun τ => NdO τ (Sz τ) L d o) (lyO L d o) := by
  have hl2 := hlen
  unfold lyO at hl2
  rw [cmb_len] at hl2
  exact m_msRow hN hL (bs := false) (E := fun x τ => NdI τ QT L d x) (E1 := fun x τ => NdI τ (Sz τ) L d x) (ly := lyI L d) ho.1 (frI0 d) (frI1 d) (fun D' h x hx => hI x (ho.2 x hx) (by
    have := bxs_mem (List.mem_map.mpr ⟨x, hx, rfl⟩ : lyI L d x ∈ o.map (lyI L d))
    omega) D' h) (fun x hx => okI_RB hL d x (ho.2 x hx)) hlen
theorem m_msB {N : Nat} (hN : 802 < N) {L : Lv} (hL : LOk L) {d D : Nat} (hI : ∀ (x : It d), okI L d x → (lyI L d x).2.2.length ≤ 24 → ∀ D', D ≤ D' → MsC L (f_X12_measure N D') (fun τ => NdI τ QT L d x) (fun τ => NdI τ (Sz τ) L d x) (lyI L d x)) {b : List (List (It d))} (hb : okB L d b) (hlen : (lyB L d b).2.2.length ≤ 24) : ∀ D', D + 2 ≤ D' → MsC L (f_X12_measure N D') (fun τ => NdB τ QT L d b) (fun τ => NdB τ (Sz τ) L d b) (lyB L d b) := by
  have hl2 := hlen
  unfold lyB at hl2
  rw [cmb_len] at hl2
  exact m_msRow hN hL (bs := true) (E := fun o τ => NdO τ QT L d o) (E1 := fun o τ => NdO τ (Sz τ) L d o) (ly := lyO L d) hb.1 (fun x τ τ' k a m lo hi f h => NdO_fr (SmN_T f k a m) h) (fun x τ τ' k a m lo hi f q h => NdO_fr (SmN_Z f q) h) (fun D' h x hx => m_msO hN hL hI (hb.2 x hx) (by
    have := bxs_mem (List.mem_map.mpr ⟨x, hx, rfl⟩ : lyO L d x ∈ b.map (lyO L d))
    omega) D' h) (fun x hx => okO_RB hL (hb.2 x hx)) hlen
theorem m_msI {N : Nat} (hN : 802 < N) {L : Lv} (hL : LOk L) : ∀ (d : Nat) (x : It d), okI L d x → (lyI L d x).2.2.length ≤ 24 → ∀ D', 2 * d + 1 ≤ D' → MsC L (f_X12_measure N D') (fun τ => NdI τ QT L d x) (fun τ => NdI τ (Sz τ) L d x) (lyI L d x) := by
  intro d
  induction d with
  | zero =>
    intro x hx _ D' hD
    obtain ⟨D', rfl⟩ : ∃ y, D' = y + 1 := ⟨D' - 1, by omega⟩
    exact m_msF hL hx D'
  | succ d ih =>
    intro x hx hlen D' hD
    cases x with
    | inl f =>
      obtain ⟨D', rfl⟩ : ∃ y, D' = y + 1 := ⟨D' - 1, by omega⟩
      exact m_msF hL hx D'
    | inr b => exact m_msB hN hL ih (b := b) hx hlen D' (by omega)
