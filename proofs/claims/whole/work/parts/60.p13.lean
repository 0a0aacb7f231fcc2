def mSign (N : Nat) (τ : St) : Option (Int32 × St) := if τ.1 3 1 = 40 then bd (f_X12_fails 4 τ) (fun r14_ σ14 => grd (zbb r14_) (some (r14_, σ14))) else bo (f_X12_scan N τ) (fun σ12 => bd (f_X12_readSign N σ12) (fun r13_ σ13 => f_X12_readClause_172 N r13_ σ13))
theorem cl_bad {N n : Nat} {B : Nat → Nat} {p q : Nat} {σ τ σ1 τ1 : St} {k : Int32} (h1 : TokX σ1 n B q) (h2 : TokM τ1 n B q) (f : Fr VL σ σ1) (g : Fr VLM τ τ1) (kp : Kp τ τ1) : ok (bd (f_X8_refuse k σ1) (fun r5_ σ5 => grd (zbb r5_) (some (r5_, σ5)))) (fun a => ok (bd (bd (f_X12_fails k τ1) (fun r6_ σ6 => grd (zbb r6_) (some (r6_, σ6)))) (fun r13_ σ13 => f_X12_readClause_172 N r13_ σ13)) (fun c => ClPost n B p a c ∧ Fr VL σ a.2 ∧ Fr VLM τ c.2 ∧ Kp τ c.2)) ∧ ok (bd (f_X8_refuse k σ1) (fun r5_ σ5 => grd (zbb r5_) (some (r5_, σ5)))) (fun a => ok (bd (f_X12_fails k τ1) (fun r6_ σ6 => grd (zbb r6_) (some (r6_, σ6)))) (fun c => ClPost n B p a c ∧ Fr VL σ a.2 ∧ Fr VLM τ c.2 ∧ Kp τ c.2)) := by
  have g2 : Fr VCM τ1 (si (si τ1 1008 0 k) 1009 0 (τ1.1 1005 0)) := ((Fr.refl _ _).si _ _ _ rfl).si _ _ _ rfl
  have fin : ClPost n B p (0, si (si σ1 4811 0 k) 4812 0 (σ1.1 4804 0)) (0, si (si τ1 1008 0 k) 1009 0 (τ1.1 1005 0)) ∧ Fr VL σ (si (si σ1 4811 0 k) 4812 0 (σ1.1 4804 0)) ∧ Fr VLM τ (si (si τ1 1008 0 k) 1009 0 (τ1.1 1005 0)) ∧ Kp τ (si (si τ1 1008 0 k) 1009 0 (τ1.1 1005 0)) :=
    ⟨Or.inl ⟨rfl, rfl, fault_of (tok_eq h1 h2)⟩, (f.si _ _ _ rfl).si _ _ _ rfl, (g.si _ _ _ rfl).si _ _ _ rfl, kp.trans (VCM_kp g2)⟩
  unfold f_X8_refuse f_X12_fails f_X12_readClause_172
  rw [bd_some, show zbb 0 = true from rfl, grd_true, bd_some, show zbb 0 = true from rfl, grd_true, bd_some, if_pos rfl]
  repeat rw [ok_some]
  exact ⟨fin, fin⟩
theorem LX_n {σ : St} {L : Lv} (h : LX 2 σ L) : σ.1 1400 0 = nI L.n := h.1
theorem fnd_off {f g : Nat → Int64} {w : Int64} {m : Nat} (hm : m ≤ 40) (h : ∀ i, i < m → f i = g (40 + i)) : fndN f w m 0 = -1 ↔ fndN g w m 40 = -1 := by
  rcases fndN_cases f w m 0 with ⟨h1, h2⟩ | ⟨j, h1, h2, h3, h4⟩
  · rcases fndN_cases g w m 40 with ⟨k1, k2⟩ | ⟨i, k1, k2, k3, k4⟩
    · rw [h1, k1]
    · exfalso
      refine h2 (i - 40) (by omega) (by omega) ?_
      rw [h (i - 40) (by omega), show 40 + (i - 40) = i by omega]; exact k4
  · rcases fndN_cases g w m 40 with ⟨k1, k2⟩ | ⟨i, k1, k2, k3, k4⟩
    · exfalso
      exact k2 (40 + j) (by omega) (by omega) (by rw [← h j (by omega)]; exact h4)
    · rw [h3, k3]
      exact ⟨fun q => absurd q (nneg j (by omega)), fun q => absurd q (nneg i (by omega))⟩
theorem fnd_neg {f : Nat → Int64} {w : Int64} {m : Nat} (hm : m ≤ 40) : fndN f w m 0 < 0 ↔ fndN f w m 0 = -1 := by
  rcases fndN_cases f w m 0 with ⟨h1, h2⟩ | ⟨j, h1, h2, h3, h4⟩
  · rw [h1]; exact ⟨fun _ => rfl, fun _ => by decide⟩
  · rw [h3]; exact ⟨fun q => absurd q (nI_pos (by omega)), fun q => absurd q (nneg j (by omega))⟩
theorem LOk_add {L : Lv} (hL : LOk L) (hn : L.n < 40) {w h k c : Nat} {d : Nat → Nat} {nm mn : Int64} (w1 : 1 ≤ w ∧ w ≤ 60) (h1 : 1 ≤ h ∧ h ≤ 60) (k1 : k ≤ 3) (c1 : k = 1 → 1 ≤ c ∧ c ≤ 3) (c2 : k ≠ 1 → c = 0) (d1 : ∀ i, i < c → d i < 16) : LOk (LAdd L w h k c d nm mn) := by
  obtain ⟨a1, a2, a3⟩ := hL
  refine ⟨?_, ?_, a3⟩
  · show L.n + 1 ≤ 40
    omega
  · intro s hs
    have hs' : s < L.n + 1 := hs
    show (1 ≤ up L.w L.n w s ∧ up L.w L.n w s ≤ 60) ∧ (1 ≤ up L.h L.n h s ∧ up L.h L.n h s ≤ 60) ∧ up L.k L.n k s ≤ 3 ∧ (up L.k L.n k s = 1 → 1 ≤ up L.c L.n c s ∧ up L.c L.n c s ≤ 3) ∧ (up L.k L.n k s ≠ 1 → up L.c L.n c s = 0) ∧ ∀ i, i < up L.c L.n c s → up L.d L.n d s i < 16
    by_cases e : s = L.n
    · rw [e, up_is, up_is, up_is, up_is, up_is]
      exact ⟨w1, h1, k1, c1, c2, d1⟩
    · rw [up_ne _ _ e, up_ne _ _ e, up_ne _ _ e, up_ne _ _ e, up_ne _ _ e]
      exact a2 s (by omega)
theorem DX_add {σ σ' : St} {L : Lv} {b : Nat} (dx : DX σ L b) (hn : L.n < 40) (f : FrP (PXs L.n) σ σ') {w h k c : Nat} {d : Nat → Nat} {nm mn : Int64} (a1 : σ'.2 11 L.n = nm) (a2 : σ'.1 12 L.n = nI w) (a3 : σ'.1 13 L.n = nI h) (a4 : σ'.1 14 L.n = nI k) (a5 : σ'.1 15 L.n = nI c) (a6 : σ'.1 16 L.n = nI (sp d c)) (a7 : σ'.2 17 L.n = mn) : DX (si σ' 1400 0 (σ'.1 1400 0 + 1)) (LAdd L w h k c d nm mn) b := by
  have fs : Fr [1400] σ' (si σ' 1400 0 (σ'.1 1400 0 + 1)) := (Fr.refl _ _).si _ _ _ rfl
  obtain ⟨⟨b1, b2, b3, b4, b5, b6⟩, b7⟩ := dx
  refine ⟨⟨?_, ?_, ?_, ?_, ?_, ?_⟩, ?_⟩
  · show (si σ' 1400 0 (σ'.1 1400 0 + 1)).1 1400 0 = nI (L.n + 1)
    rw [si_rd, if_pos rfl, if_pos rfl, (f 1400 0 (by unfold PXs; simp)).1, show σ.1 1400 0 = nI L.n from b1, nI_1]
  · intro s hs
    have hs' : s < L.n + 1 := hs
    show (si σ' 1400 0 (σ'.1 1400 0 + 1)).2 11 s = up L.nm L.n nm s ∧ (si σ' 1400 0 (σ'.1 1400 0 + 1)).1 12 s = nI (up L.w L.n w s) ∧ (si σ' 1400 0 (σ'.1 1400 0 + 1)).1 13 s = nI (up L.h L.n h s) ∧ (si σ' 1400 0 (σ'.1 1400 0 + 1)).1 14 s = nI (up L.k L.n k s) ∧ (si σ' 1400 0 (σ'.1 1400 0 + 1)).1 15 s = nI (up L.c L.n c s) ∧ (si σ' 1400 0 (σ'.1 1400 0 + 1)).1 16 s = nI (sp (up L.d L.n d s) (up L.c L.n c s)) ∧ (si σ' 1400 0 (σ'.1 1400 0 + 1)).2 17 s = up L.mn L.n mn s
    rw [fs.l 11 rfl, fs.i 12 rfl, fs.i 13 rfl, fs.i 14 rfl, fs.i 15 rfl, fs.i 16 rfl, fs.l 17 rfl]
    by_cases e : s = L.n
    · rw [e, up_is, up_is, up_is, up_is, up_is, up_is, up_is]
      exact ⟨a1, a2, a3, a4, a5, a6, a7⟩
    · rw [up_ne _ _ e, up_ne _ _ e, up_ne _ _ e, up_ne _ _ e, up_ne _ _ e, up_ne _ _ e, up_ne _ _ e]
      have np : ∀ a, ([11, 12, 13, 14, 15, 16, 17] : List Nat).contains a = true → ¬ PXs L.n a s := by
        intro a ha h
        rcases h with h | ⟨_, h⟩
        · have h1 := List.contains_iff_mem.mp ha
          have h2 := List.contains_iff_mem.mp h
          simp at h1 h2
          omega
        · exact e h
      rw [(f 11 s (np 11 rfl)).2, (f 12 s (np 12 rfl)).1, (f 13 s (np 13 rfl)).1, (f 14 s (np 14 rfl)).1, (f 15 s (np 15 rfl)).1, (f 16 s (np 16 rfl)).1, (f 17 s (np 17 rfl)).2]
      exact b2 s (by omega)
  · show (si σ' 1400 0 (σ'.1 1400 0 + 1)).1 18 0 = nI L.gap
    rw [fs.i 18 rfl, (f 18 0 (by unfold PXs; simp)).1]; exact b3
  · show (si σ' 1400 0 (σ'.1 1400 0 + 1)).1 18 1 = nI L.sq
    rw [fs.i 18 rfl, (f 18 1 (by unfold PXs; simp)).1]; exact b4
  · show (si σ' 1400 0 (σ'.1 1400 0 + 1)).1 18 2 = nI L.lst
    rw [fs.i 18 rfl, (f 18 2 (by unfold PXs; simp)).1]; exact b5
  · show (si σ' 1400 0 (σ'.1 1400 0 + 1)).1 18 3 = nI L.ech
    rw [fs.i 18 rfl, (f 18 3 (by unfold PXs; simp)).1]; exact b6
  · rw [fs.i 1409 rfl, (f 1409 0 (by unfold PXs; simp)).1]; exact b7
theorem DM_add {τ τ' : St} {L : Lv} {b : Nat} (dm : DM τ L b) (hn : L.n < 40) (f : FrP (PMs L.n) τ τ') {w h k c : Nat} {d : Nat → Nat} {nm mn : Int64} (a0 : τ'.1 3 1 = nI (L.n + 1)) (a1 : τ'.2 4 (40 + L.n) = nm) (a2 : τ'.1 5 (40 + L.n) = nI w) (a3 : τ'.1 6 (40 + L.n) = nI h) (a4 : τ'.1 7 (40 + L.n) = nI k) (a5 : τ'.1 8 (40 + L.n) = nI c) (a6 : ∀ i, i < c → τ'.1 9 (3 * (40 + L.n) + i) = nI (d i)) (a7 : τ'.2 10 (40 + L.n) = mn) (hc : ∀ s, s < L.n → L.c s ≤ 3) : DM τ' (LAdd L w h k c d nm mn) b := by
  obtain ⟨b1, b2, b3, b4, b5, b6, b7⟩ := dm
  refine ⟨a0, ?_, ?_, ?_, ?_, ?_, ?_⟩
  · intro s hs
    have hs' : s < L.n + 1 := hs
    show τ'.2 4 (40 + s) = up L.nm L.n nm s ∧ τ'.1 5 (40 + s) = nI (up L.w L.n w s) ∧ τ'.1 6 (40 + s) = nI (up L.h L.n h s) ∧ τ'.1 7 (40 + s) = nI (up L.k L.n k s) ∧ τ'.1 8 (40 + s) = nI (up L.c L.n c s) ∧ (∀ i, i < up L.c L.n c s → τ'.1 9 (3 * (40 + s) + i) = nI (up L.d L.n d s i)) ∧ τ'.2 10 (40 + s) = up L.mn L.n mn s
    by_cases e : s = L.n
    · rw [e, up_is, up_is, up_is, up_is, up_is, up_is, up_is]
      exact ⟨a1, a2, a3, a4, a5, a6, a7⟩
    · rw [up_ne _ _ e, up_ne _ _ e, up_ne _ _ e, up_ne _ _ e, up_ne _ _ e, up_ne _ _ e, up_ne _ _ e]
      have hsn : s < L.n := by omega
      obtain ⟨c1, c2, c3, c4, c5, c6, c7⟩ := b2 s hsn
      have hcs := hc s hsn
      refine ⟨?_, ?_, ?_, ?_, ?_, fun i hi => ?_, ?_⟩
      · rw [(f 4 (40 + s) (by unfold PMs; simp; omega)).2]; exact c1
      · rw [(f 5 (40 + s) (by unfold PMs; simp; omega)).1]; exact c2
      · rw [(f 6 (40 + s) (by unfold PMs; simp; omega)).1]; exact c3
      · rw [(f 7 (40 + s) (by unfold PMs; simp; omega)).1]; exact c4
      · rw [(f 8 (40 + s) (by unfold PMs; simp; omega)).1]; exact c5
      · rw [(f 9 (3 * (40 + s) + i) (by unfold PMs; simp; omega)).1]; exact c6 i hi
      · rw [(f 10 (40 + s) (by unfold PMs; simp; omega)).2]; exact c7
  · rw [(f 2 4 (by unfold PMs; simp)).1]; exact b3
  · rw [(f 2 5 (by unfold PMs; simp)).1]; exact b4
  · rw [(f 2 6 (by unfold PMs; simp)).1]; exact b5
  · rw [(f 2 7 (by unfold PMs; simp)).1]; exact b6
  · rw [(f 1021 0 (by unfold PMs; simp)).1]; exact b7
