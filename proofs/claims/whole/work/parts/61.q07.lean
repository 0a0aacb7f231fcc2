/-! blocks, the reference: all laid; both alike -/
def PLw (b k a j : Nat) : Prop := a = 16 ∨ a = 17 ∨ a = 1036 ∨ (V6.contains a = true ∧ k ≤ j) ∨ ((a = 20 ∨ a = 21 ∨ a = 22) ∧ b ≤ j)
abbrev VLw : List Nat := [16, 17, 1036, 23, 24, 25, 26, 27, 28, 20, 21, 22]
theorem PLw_V {b k a j : Nat} (h : PLw b k a j) : VLw.contains a = true := by
  rcases h with h | h | h | ⟨h, _⟩ | ⟨h | h | h, _⟩
  · rw [h]; rfl
  · rw [h]; rfl
  · rw [h]; rfl
  · have key : ∀ a, a ∈ V6 → VLw.contains a = true := by decide
    exact key a (List.contains_iff_mem.mp h)
  · rw [h]; rfl
  · rw [h]; rfl
  · rw [h]; rfl
theorem m_lay53 {N : Nat} (hN : 802 < N) {L : Lv} (hL : LOk L) : ∀ (r : List Bl4) (fuel b k : Nat) (τ : St), r.length < fuel → b + r.length ≤ 12 → τ.1 1035 0 = nI (b + r.length) → (∀ j bl, r[j]? = some bl → okB L 4 bl ∧ ∃ root lo hi, τ.1 29 (b + j) = nI root ∧ hi ≤ 400 ∧ NdB τ QT L 4 bl root lo hi) → LM τ L → τ.1 1036 0 = nI k → k + lnT L r ≤ 24 → ok (f_X12_blocks_53 N fuel (nI b) τ) (fun a => a.1 = nI (b + r.length) ∧ LdM L a.2 b k r ∧ a.2.1 1036 0 = nI (k + lnT L r) ∧ FrP (PLw b k) τ a.2) := by
  intro r
  induction r with
  | nil =>
    intro fuel b k τ hf hb h35 _ _ h36 _
    obtain ⟨fuel, rfl⟩ : ∃ f, fuel = f + 1 := ⟨fuel - 1, by omega⟩
    rw [f_X12_blocks_53, h35, if_pos (nI_le (by show b + 0 ≤ b; omega) (by omega)), ok_some]
    exact ⟨rfl, trivial, h36, FrP.refl _ _⟩
  | cons bl r ih =>
    intro fuel b k τ hf hb h35 hn lm h36 hk
    obtain ⟨fuel, rfl⟩ : ∃ f, fuel = f + 1 := ⟨fuel - 1, by omega⟩
    rw [List.length_cons] at hf hb h35
    rw [lnT_cons] at hk
    obtain ⟨okb, root, lo, hi, n1, n2, n3⟩ := hn 0 bl rfl
    rw [Nat.add_zero] at n1
    have pr := NdB_p n3
    have ll : (lyB L 4 bl).2.2.length ≤ 24 := by omega
    have rbr := cmb_ok hL.2.2.1 (bs := true) (rs := bl.map (lyO L 4)) (fun x hx => by
      obtain ⟨o, o1, o2⟩ := List.mem_map.mp hx
      rw [← o2]; exact okO_RB hL (okb.2 o o1)) (fun q => okb.1 (List.map_eq_nil_iff.mp q))
    rw [f_X12_blocks_53, h35, if_neg (nI_ge (by omega) (by omega)), ib_n (a := b) (by omega), decide_eq_true (show b < 12 by omega), grd_true, ncl (a := b) (by omega), n1]
    refine ok_bo_of (m_msB hN hL (D := 9) (m_msI hN hL 4) okb ll 20 (by omega) τ root lo hi n3 n2 lm) (fun τ1 ⟨y1, y2, y3⟩ => ?_)
    have v1 : ∀ a j, a ≠ 16 → a ≠ 17 → τ1.1 a j = τ.1 a j := fun a j q1 q2 => (y3 a j (PMz_n q1 q2)).1
    rw [v1 29 b (by decide) (by decide), n1, ib_n (a := root) (by omega), decide_eq_true (show root < 400 by omega), ncl (a := root) (by omega), y2.1, y2.2]
    simp only [grd_true]
    have F2 : Fr [20, 21] τ1 (si (si τ1 20 b (nI (lyB L 4 bl).1)) 21 b (nI (lyB L 4 bl).2.1)) := ((Fr.refl _ _).si _ _ _ rfl).si _ _ _ rfl
    have P2 : FrP (PLw b k) τ1 (si (si τ1 20 b (nI (lyB L 4 bl).1)) 21 b (nI (lyB L 4 bl).2.1)) := ((FrP.refl _ _).si _ _ _ (Or.inr (Or.inr (Or.inr (Or.inr ⟨Or.inl rfl, Nat.le_refl _⟩))))).si _ _ _ (Or.inr (Or.inr (Or.inr (Or.inr ⟨Or.inr (Or.inl rfl), Nat.le_refl _⟩))))
    have w20 : (si (si τ1 20 b (nI (lyB L 4 bl).1)) 21 b (nI (lyB L 4 bl).2.1)).1 20 b = nI (lyB L 4 bl).1 := by simp only [si_rd, reduceIte, Nat.reduceEqDiff]
    have w21 : (si (si τ1 20 b (nI (lyB L 4 bl).1)) 21 b (nI (lyB L 4 bl).2.1)).1 21 b = nI (lyB L 4 bl).2.1 := by simp only [si_rd, reduceIte, Nat.reduceEqDiff]
    generalize si (si τ1 20 b (nI (lyB L 4 bl).1)) 21 b (nI (lyB L 4 bl).2.1) = τ2 at *
    have nd2 : NdB τ2 (Sz τ2) L 4 bl root lo hi := NdB_fr (fun j _ _ => ⟨by rw [F2.i 11 rfl], by rw [F2.i 12 rfl], by rw [F2.i 13 rfl], by rw [F2.i 14 rfl], fun _ => by rw [F2.i 15 rfl], fun r q => ⟨by rw [F2.i 16 rfl]; exact q.1, by rw [F2.i 17 rfl]; exact q.2⟩⟩) y1
    have lm1 : LM τ1 L := LM_fr lm (y3.toFr (V := [16, 17]) (fun a j h => PMz_V h)) rfl
    have lm2 : LM τ2 L := LM_fr lm1 F2 rfl
    have e36 : τ2.1 1036 0 = nI k := by rw [F2.i 1036 rfl, v1 1036 0 (by decide) (by decide)]; exact h36
    have lay := m_lyB hN hL (D := 9) (m_lyI hN hL 4) okb 20 (by omega) τ2 root lo hi 0 0 b k nd2 n2 lm2 e36 (by omega)
    refine ok_bo_of lay (fun τ3 ⟨z1, z2, z3⟩ => ?_)
    rw [sft_0] at z1
    rw [z2, h36, nsub (by omega), show k + (lyB L 4 bl).2.2.length - k = (lyB L 4 bl).2.2.length by omega, nI_1]
    have F4 : Fr [22] τ3 (si τ3 22 b (nI (lyB L 4 bl).2.2.length)) := (Fr.refl _ _).si _ _ _ rfl
    have P4 : FrP (PLw b k) τ3 (si τ3 22 b (nI (lyB L 4 bl).2.2.length)) := (FrP.refl _ _).si _ _ _ (Or.inr (Or.inr (Or.inr (Or.inr ⟨Or.inr (Or.inr rfl), Nat.le_refl _⟩))))
    have w22 : (si τ3 22 b (nI (lyB L 4 bl).2.2.length)).1 22 b = nI (lyB L 4 bl).2.2.length := by rw [si_rd, if_pos rfl, if_pos rfl]
    generalize si τ3 22 b (nI (lyB L 4 bl).2.2.length) = τ4 at *
    have v3 : ∀ a j, ([1036, 23, 24, 25, 26, 27, 28] : List Nat).contains a = false → τ3.1 a j = τ2.1 a j := fun a j q => (z3 a j (PLm_n q)).1
    have FF : FrP (PLw b k) τ τ4 := (((y3.wide (fun a j h => by
      rcases h with ⟨h | h, _⟩
      · exact Or.inl h
      · exact Or.inr (Or.inl h))).trans P2).trans (z3.wide (fun a j h => by
      rcases h with h | h
      · exact Or.inr (Or.inr (Or.inl h))
      · exact Or.inr (Or.inr (Or.inr (Or.inl h)))))).trans P4
    have bx4 : BxM τ4 b k (lyB L 4 bl).2.2 := BxM_fr z1 (fun j _ _ a ha => by
      have key : ∀ a, a ∈ V6 → ([22] : List Nat).contains a = false := by decide
      rw [F4.i a (key a (List.contains_iff_mem.mp ha))])
    have low : ∀ a j, ([11, 12, 13, 14, 15, 29, 1035] : List Nat).contains a = true → τ4.1 a j = τ.1 a j := fun a j ha => (FF a j (fun q => by
      have key : ∀ a, a ∈ ([11, 12, 13, 14, 15, 29, 1035] : List Nat) → VLw.contains a = false := by decide
      have := PLw_V q
      rw [key a (List.contains_iff_mem.mp ha)] at this; cases this)).1
    have nx := ih fuel (b + 1) (k + (lyB L 4 bl).2.2.length) τ4 (by omega) (by omega) (by rw [low 1035 0 rfl, h35]; congr 1; omega) (fun j x hx => by
      obtain ⟨q1, q2, q3, q4, q5, q6, q7⟩ := hn (j + 1) x hx
      exact ⟨q1, q2, q3, q4, by rw [low 29 _ rfl, show b + 1 + j = b + (j + 1) by omega]; exact q5, q6, NdB_fr (fun i _ _ => ⟨low 11 i rfl, low 12 i rfl, low 13 i rfl, low 14 i rfl, fun _ => low 15 i rfl, fun _ q => q⟩) q7⟩) (LM_fr lm (FF.toFr (V := VLw) (fun a j h => PLw_V h)) rfl) (by rw [F4.i 1036 rfl]; exact z2) (by omega)
    refine nx.mono (fun a ⟨u1, u2, u3, u4⟩ => ⟨by rw [u1, List.length_cons]; congr 1; omega, ⟨?_, ?_, ?_, ?_, u2⟩, by rw [u3, lnT_cons]; congr 1; omega, FF.trans (u4.wide (fun a j h => ?_))⟩)
    · rw [(u4 20 b (fun q => by rcases q with q | q | q | ⟨q, _⟩ | ⟨_, q⟩ <;> first | omega | cases q)).1, F4.i 20 rfl, v3 20 b rfl]; exact w20
    · rw [(u4 21 b (fun q => by rcases q with q | q | q | ⟨q, _⟩ | ⟨_, q⟩ <;> first | omega | cases q)).1, F4.i 21 rfl, v3 21 b rfl]; exact w21
    · rw [(u4 22 b (fun q => by rcases q with q | q | q | ⟨q, _⟩ | ⟨_, q⟩ <;> first | omega | cases q)).1]; exact w22
    · refine BxM_fr bx4 (fun j h1 h2 c hc => (u4 c j (fun q => ?_)).1)
      rcases q with q | q | q | ⟨_, q⟩ | ⟨q | q | q, _⟩
      · rw [q] at hc; cases hc
      · rw [q] at hc; cases hc
      · rw [q] at hc; cases hc
      · omega
      · rw [q] at hc; cases hc
      · rw [q] at hc; cases hc
      · rw [q] at hc; cases hc
    · rcases h with h | h | h | ⟨h, h'⟩ | ⟨h, h'⟩
      · exact Or.inl h
      · exact Or.inr (Or.inl h)
      · exact Or.inr (Or.inr (Or.inl h))
      · exact Or.inr (Or.inr (Or.inr (Or.inl ⟨h, by omega⟩)))
      · exact Or.inr (Or.inr (Or.inr (Or.inr ⟨h, by omega⟩)))
/-! boxes are of SIGNS -/
def bxK (L : Lv) (x : Bx) : Prop := x.1 < L.n ∧ x.2.2.2.1 < 32768 ∧ x.2.2.2.2 < 65536
theorem sft_K {L : Lv} {X Y : Int32} {l : List Bx} (h : ∀ x, x ∈ l → bxK L x) : ∀ x, x ∈ sft X Y l → bxK L x := fun x hx => by
  obtain ⟨y, y1, y2⟩ := List.mem_map.mp hx
  rw [← y2]; exact h y y1
theorem ofs_K {L : Lv} {gap : Nat} {bs : Bool} {G : Nat} : ∀ (rs : List Rs) (a : Nat), (∀ r, r ∈ rs → ∀ x, x ∈ r.2.2 → bxK L x) → ∀ x, x ∈ ofs gap bs G a rs → bxK L x := by
  intro rs
  induction rs with
  | nil => intro a _ x hx; cases hx
  | cons r l ih =>
    intro a h x hx
    rw [ofs] at hx
    rcases List.mem_append.mp hx with q | q
    · exact sft_K (h r List.mem_cons_self) x q
    · exact ih _ (fun y hy => h y (List.mem_cons_of_mem _ hy)) x q
theorem lfR_K {L : Lv} (hL : LOk L) {f : Nat × Nat} (h : okF L f) : ∀ x, x ∈ (lfR L f).2.2 → bxK L x := fun x hx => by
  obtain ⟨d1, d2, _⟩ := hL.2.1 f.1 h.1
  unfold lfR at hx
  rcases List.mem_cons.mp hx with e | e
  · rw [e]; exact ⟨h.1, by show L.w f.1 < 32768; omega, by show L.h f.1 < 65536; omega⟩
  · by_cases q : f.2 = 0
    · rw [if_pos q] at e; cases e
    · rw [if_neg q] at e
      have oo := h.2.resolve_left q
      obtain ⟨c1, c2, _⟩ := hL.2.1 (f.2 - 1) oo
      rw [List.mem_singleton.mp e]
      exact ⟨oo, by show max 1 (L.w (f.2 - 1) / 2) < 32768; omega, by show max 1 (L.h (f.2 - 1) / 2) < 65536; omega⟩
theorem lyI_K {L : Lv} (hL : LOk L) : ∀ (d : Nat) (x : It d), okI L d x → ∀ y, y ∈ (lyI L d x).2.2 → bxK L y := by
  intro d
  induction d with
  | zero => intro x h; exact lfR_K hL h
  | succ d ih =>
    intro x h
    cases x with
    | inl f => exact lfR_K hL h
    | inr b =>
      obtain ⟨h1, h2⟩ := h
      refine ofs_K _ _ (fun r hr => ?_)
      obtain ⟨o, o1, o2⟩ := List.mem_map.mp hr
      rw [← o2]
      refine ofs_K _ _ (fun r hr => ?_)
      obtain ⟨i, i1, i2⟩ := List.mem_map.mp hr
      rw [← i2]
      exact ih i ((h2 o o1).2 i i1)
theorem lyB_K {L : Lv} (hL : LOk L) {d : Nat} {b : List (List (It d))} (hb : okB L d b) : ∀ y, y ∈ (lyB L d b).2.2 → bxK L y := by
  refine ofs_K _ _ (fun r hr => ?_)
  obtain ⟨o, o1, o2⟩ := List.mem_map.mp hr
  rw [← o2]
  refine ofs_K _ _ (fun r hr => ?_)
  obtain ⟨i, i1, i2⟩ := List.mem_map.mp hr
  rw [← i2]
  exact lyI_K hL d i ((hb.2 o o1).2 i i1)
def BR (σ τ : St) (ns nb k : Nat) : Prop := σ.1 26 k = τ.1 23 k ∧ (∃ s, s < ns ∧ τ.1 23 k = nI s) ∧ σ.1 27 k = τ.1 24 k ∧ (∃ b, b < nb ∧ τ.1 24 k = nI b) ∧ σ.1 28 k = τ.1 25 k ∧ σ.1 29 k = τ.1 26 k ∧ ∃ w h, w < 32768 ∧ h < 65536 ∧ σ.1 30 k = nI (w * 65536 + h) ∧ τ.1 27 k = nI w ∧ τ.1 28 k = nI h
theorem bx_rel {L : Lv} {σ τ : St} {b nb : Nat} (hb : b < nb) : ∀ (l : List Bx) (k : Nat), BxA σ b k l → BxM τ b k l → (∀ x, x ∈ l → bxK L x) → ∀ j, k ≤ j → j < k + l.length → BR σ τ L.n nb j := by
  intro l
  induction l with
  | nil => intro k _ _ _ j h1 h2; exact absurd h2 (by show ¬ j < k + 0; omega)
  | cons x l ih =>
    intro k h1 h2 h3 j j1 j2
    rw [List.length_cons] at j2
    by_cases e : j = k
    · subst e
      obtain ⟨a1, a2, a3, a4, a5⟩ := h1.1
      obtain ⟨c1, c2, c3, c4, c5, c6⟩ := h2.1
      obtain ⟨k1, k2, k3⟩ := h3 x List.mem_cons_self
      exact ⟨a1.trans c1.symm, ⟨x.1, k1, c1⟩, a2.trans c2.symm, ⟨b, hb, c2⟩, a3.trans c3.symm, a4.trans c4.symm, x.2.2.2.1, x.2.2.2.2, k2, k3, a5, c5, c6⟩
    · exact ih (k + 1) h1.2 h2.2 (fun y hy => h3 y (List.mem_cons_of_mem _ hy)) j (by omega) (by omega)
theorem ld_rel {L : Lv} (hL : LOk L) {σ τ : St} {nb : Nat} : ∀ (r : List Bl4) (b k : Nat), b + r.length = nb → LdX L σ b k r → LdM L τ b k r → (∀ bl, bl ∈ r → okB L 4 bl ∧ (lyB L 4 bl).2.2.length ≤ 24) → (∀ j, b ≤ j → j < b + r.length → σ.1 25 j = τ.1 22 j ∧ ∃ w h, w < 32768 ∧ h < 65536 ∧ σ.1 24 j = nI (w * 65536 + h) ∧ τ.1 20 j = nI w ∧ τ.1 21 j = nI h) ∧ ∀ j, k ≤ j → j < k + lnT L r → BR σ τ L.n nb j := by
  intro r
  induction r with
  | nil => intro b k _ _ _ _; exact ⟨fun j h1 h2 => absurd h2 (by show ¬ j < b + 0; omega), fun j h1 h2 => absurd h2 (by show ¬ j < k + 0; omega)⟩
  | cons bl r ih =>
    intro b k hb h1 h2 h3
    rw [List.length_cons] at hb
    obtain ⟨a1, a2, a3, a4⟩ := h1
    obtain ⟨c1, c2, c3, c4, c5⟩ := h2
    obtain ⟨i1, i2⟩ := ih (b + 1) (k + (lyB L 4 bl).2.2.length) (by omega) a4 c5 (fun x hx => h3 x (List.mem_cons_of_mem _ hx))
    obtain ⟨ok1, len1⟩ := h3 bl List.mem_cons_self
    have rb := (cmb_ok hL.2.2.1 (bs := true) (rs := bl.map (lyO L 4)) (fun x hx => by
      obtain ⟨o, o1, o2⟩ := List.mem_map.mp hx
      rw [← o2]; exact okO_RB hL (ok1.2 o o1)) (fun q => ok1.1 (List.map_eq_nil_iff.mp q))).1
    have rb1 : (lyB L 4 bl).1 + 9 ≤ 69 * (lyB L 4 bl).2.2.length := rb.1
    have rb2 : (lyB L 4 bl).2.1 + 9 ≤ 69 * (lyB L 4 bl).2.2.length := rb.2
    refine ⟨fun j j1 j2 => ?_, fun j j1 j2 => ?_⟩
    · rw [List.length_cons] at j2
      by_cases e : j = b
      · subst e; exact ⟨a2.trans c3.symm, _, _, by omega, by omega, a1, c1, c2⟩
      · exact i1 j (by omega) (by omega)
    · rw [lnT_cons] at j2
      by_cases e : j < k + (lyB L 4 bl).2.2.length
      · exact bx_rel (by omega) _ k a3 c4 (lyB_K hL ok1) j j1 e
      · exact i2 j (by omega) (by omega)
