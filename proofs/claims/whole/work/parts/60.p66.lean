/-! all SPELLINGS of a TERM, in their order; what the class keeps of TERMS -/
def cvs (L : Lv) (T : Tv) : Nat → Nat → Nat → List (List Nat)
  | 0, _, _ => []
  | d + 1, R, S => (if isCov L T R S = true then [[]] else []) ++ (List.range L.n).flatMap (fun s => if stp L T R S s = 0 then [] else (cvs L T d (stp L T R S s) (S + L.c s)).map (fun l => s :: l))
def kds (L : Lv) (T : Tv) (l : List Nat) : List (List Nat) := if T.kd = 0 then [l] else ((List.range L.n).filter (kdB L T)).map (fun k => l ++ [k])
def idb (L : Lv) (T : Tv) : List (List Nat) := ((List.range L.n).filter (idB L T)).flatMap (fun s => [s] :: ((List.range L.n).filter (tlB L T)).map (fun o => [s, o]))
def bod (L : Lv) (T : Tv) : List (List Nat) := idb L T ++ cvs L T 12 1 0
def sps (L : Lv) (T : Tv) : List (List Nat) := (bod L T).flatMap (kds L T)
/-- a SHAPE of the SIGNS from a on is legible -/
def lgb (L : Lv) (g : Nat → Nat) (a sh : Nat) : Prop := sh < 11 ∧ nI L.lst ≤ pcS L (max (shW L g a sh) (shH L g a sh))
def hasG (L : Lv) (g : Nat → Nat) : Nat → Nat → Nat → Prop
  | 0, i, j => i = j
  | b + 1, i, j => ∃ sh, lgb L g i sh ∧ i + szS sh ≤ j ∧ hasG L g b (i + szS sh) j
abbrev gl (l : List Nat) : Nat → Nat := fun i => l.getD i 0
def Bk (L : Lv) (l : List Nat) (b : Nat) : Prop := hasG L (gl l) b 0 l.length ∧ ∀ b', hasG L (gl l) b' 0 l.length → b ≤ b'
def CntX (σ : St) (t : Nat) (L : Lv) (T : Tv) : Prop := σ.1 48 t = nI (min 100001 (sps L T).length)
def SlotP (σ : St) (q : Nat) (L : Lv) (P : List Nat → Prop) : Prop := (σ.1 51 q = 2147483647 ∧ ∀ l, ¬ P l) ∨ (∃ l, P l ∧ GL L l ∧ σ.1 51 q = nI (cst L l) ∧ σ.2 52 q = lN (cde l) ∧ ∀ l', P l' → kle L l l')
def SlotX (σ : St) (t : Nat) (L : Lv) (T : Tv) : Prop := ∀ b, b < 13 → SlotP σ (t * 13 + b) L (fun l => l ∈ sps L T ∧ Bk L l b)
def RCache (σ : St) (L : Lv) (nt : Nat) (T : Nat → Tv) : Prop := ∀ t, t < 40 → ∃ K, K < 8 ∧ σ.1 47 t = nI K ∧ (nt ≤ t → K = 0) ∧ (K.testBit 0 = true → CntX σ t L (T t)) ∧ (K.testBit 1 = true → BestX σ t L (T t)) ∧ (K.testBit 2 = true → SlotX σ t L (T t))
theorem CntX.eq {σ σ' : St} {t : Nat} {L : Lv} {T : Tv} (h : CntX σ t L T) (e : σ'.1 48 t = σ.1 48 t) : CntX σ' t L T := by
  unfold CntX; rw [e]; exact h
theorem BestX.eq {σ σ' : St} {t : Nat} {L : Lv} {T : Tv} (h : BestX σ t L T) (e : σ'.1 49 t = σ.1 49 t) (e2 : σ'.2 50 t = σ.2 50 t) : BestX σ' t L T := by
  unfold BestX; rw [e, e2]; exact h
theorem SlotP.eq {σ σ' : St} {q : Nat} {L : Lv} {P : List Nat → Prop} (h : SlotP σ q L P) (e : σ'.1 51 q = σ.1 51 q) (e2 : σ'.2 52 q = σ.2 52 q) : SlotP σ' q L P := by
  unfold SlotP; rw [e, e2]; exact h
theorem SlotX.eq {σ σ' : St} {t : Nat} {L : Lv} {T : Tv} (h : SlotX σ t L T) (e : ∀ b, b < 13 → σ'.1 51 (t * 13 + b) = σ.1 51 (t * 13 + b) ∧ σ'.2 52 (t * 13 + b) = σ.2 52 (t * 13 + b)) : SlotX σ' t L T := fun b hb => (h b hb).eq (e b hb).1 (e b hb).2
theorem RCache.fr {σ σ' : St} {L : Lv} {nt : Nat} {T : Nat → Tv} {V : List Nat} (h : RCache σ L nt T) (f : Fr V σ σ') (hv : ([47, 48, 49, 50, 51, 52] : List Nat).all (fun a => !V.contains a) = true) : RCache σ' L nt T := by
  have e := f.at hv
  intro t ht
  obtain ⟨K, a1, a2, a3, a4, a5, a6⟩ := h t ht
  refine ⟨K, a1, by rw [(e 47 (by decide)).1]; exact a2, a3, fun b => (a4 b).eq (by rw [(e 48 (by decide)).1]), fun b => (a5 b).eq (by rw [(e 49 (by decide)).1]) (by rw [(e 50 (by decide)).2]), fun b => (a6 b).eq (fun b _ => ⟨by rw [(e 51 (by decide)).1], by rw [(e 52 (by decide)).2]⟩)⟩
theorem RCache.zero {σ : St} {L : Lv} {nt : Nat} {T : Nat → Tv} (h : ∀ j, j < 40 → σ.1 47 j = 0) : RCache σ L nt T := fun t ht =>
  ⟨0, by omega, by rw [h t ht]; rfl, fun _ => rfl, fun h => by simp at h, fun h => by simp at h, fun h => by simp at h⟩
theorem RCache.term {σ : St} {L : Lv} {nt : Nat} {T : Nat → Tv} (h : RCache σ L nt T) (v : Tv) : RCache σ L (nt + 1) (up T nt v) := fun t ht => by
  obtain ⟨K, a1, a2, a3, a4, a5, a6⟩ := h t ht
  by_cases e : t = nt
  · have k0 := a3 (by omega)
    subst k0
    exact ⟨0, by omega, a2, fun _ => rfl, fun h => by simp at h, fun h => by simp at h, fun h => by simp at h⟩
  · rw [up_ne _ _ e]
    exact ⟨K, a1, a2, fun h => a3 (by omega), a4, a5, a6⟩
abbrev VBest : List Nat := [47, 8601, 8602, 8603, 8604, 8605, 8606, 53, 54, 49, 50]
theorem bit8_a : ∀ K, K < 8 → ∀ b, b < 3 → K ||| 2 ^ b < 8 := by decide +kernel
theorem bit8 (K : Nat) (hK : K < 8) (b : Nat) (hb : b < 3) : K ||| 2 ^ b < 8 ∧ ∀ j, j < 3 → ((K ||| 2 ^ b).testBit j = true → j ≠ b → K.testBit j = true) := ⟨bit8_a K hK b hb, fun j _ h1 h2 => by
  rcases or_bit.mp h1 with h | h
  · exact h
  · exact absurd h h2⟩
theorem x_findBest {N : Nat} (hN : 802 < N) {σ : St} {L : Lv} (hL : LOk L) {nt t : Nat} {T : Nat → Tv} (hT : TOk nt T) (hx : LX 1 σ L) (tx : TX σ nt T) (rc : RCache σ L nt T) (ht : t < nt) : ok (f_X2_findBest N (nI t) σ) (fun σ' => RCache σ' L nt T ∧ BestX σ' t L (T t) ∧ Fr VBest σ σ') := by
  have h40 := hT.1
  obtain ⟨K, k1, k2, k3, k4, k5, k6⟩ := rc t (by omega)
  have tv : TvOk (T t) := hT.2 t ht
  have h8 := tv.2.1
  have nw := x_isNew (b := 1) (show t < 40 by omega) k1 (by omega) k2
  unfold f_X2_findBest
  rw [show (2 : Int32) = nI (2 ^ 1) from rfl, nw, bd_some]
  cases hb : K.testBit 1 with
  | true =>
    rw [if_pos (show b2 (!true) = 0 from rfl), ok_some]
    have e0 : K ||| 2 ^ 1 = K := by
      apply Nat.eq_of_testBit_eq
      intro i
      rw [Nat.testBit_or, Nat.testBit_two_pow]
      by_cases e : 1 = i
      · subst e; rw [hb]; rfl
      · rw [decide_eq_false e, Bool.or_false]
    have f0 : Fr [47] σ (si σ 47 t (nI (K ||| 2 ^ 1))) := (Fr.refl _ _).si _ _ _ rfl
    have same : ∀ j, (si σ 47 t (nI (K ||| 2 ^ 1))).1 47 j = σ.1 47 j := fun j => by
      rw [si_rd, if_pos rfl, e0]
      by_cases e : j = t
      · rw [if_pos e, e, k2]
      · rw [if_neg e]
    refine ⟨fun t' h' => ?_, (k5 hb).eq (by rw [f0.i 49 rfl]) (by rw [f0.l 50 rfl]), f0.wide rfl⟩
    obtain ⟨K', a1, a2, a3, a4, a5, a6⟩ := rc t' h'
    exact ⟨K', a1, by rw [same]; exact a2, a3, fun b => (a4 b).eq (by rw [f0.i 48 rfl]), fun b => (a5 b).eq (by rw [f0.i 49 rfl]) (by rw [f0.l 50 rfl]), fun b => (a6 b).eq (fun b _ => ⟨by rw [f0.i 51 rfl], by rw [f0.l 52 rfl]⟩)⟩
  | false =>
    rw [if_neg (show ¬ b2 (!false) = 0 by decide)]
    have f0 : Fr [47] σ (si σ 47 t (nI (K ||| 2 ^ 1))) := (Fr.refl _ _).si _ _ _ rfl
    refine ok_bo_of (x_look (Or.inl rfl) (LX_fr (Or.inl rfl) hx f0 rfl) (tx.fr f0 rfl) h40 ht) (fun σ1 ⟨sx, f1⟩ => ?_)
    refine ok_bo_of (x_fill (r0 := 53) (rn0 := 13) (N := N) (x := 2147483647) (σ := σ1) (by omega) (by omega)) (fun σ2 ⟨z, f2⟩ => ?_)
    rw [show ib 0 13 = true from rfl, grd_true, grd_true]
    have sx2 := SPX_fr sx f2 rfl
    rw [sx2.2.2.2.2.2.2.2]
    have f3 : Fr [53, 54] σ2 (sl (si σ2 53 0 0) 54 0 0) := ((Fr.refl _ _).si _ _ _ rfl).sl _ _ _ rfl
    have sx3 := SPX_fr sx2 f3 rfl
    have tab : Tab L (T t) (sl (si σ2 53 0 0) 54 0 0) 0 0 := fun q hq => by
      by_cases e : q = 0
      · subst e
        refine Or.inr ⟨[], Or.inl ⟨rfl, rfl⟩, ⟨Nat.zero_le _, fun s hs => (nomatch hs)⟩, ?_, ?_, fun l' h' => ?_⟩
        · rw [sl_1, si_rd, if_pos rfl, if_pos rfl]; rfl
        · rw [sl_rd, if_pos rfl, if_pos rfl]; rfl
        · rcases h' with ⟨h1, _⟩ | ⟨l', s', m, h1, h2, h3, h4, h5, h6⟩
          · rw [h1]; exact kle_refl _ _
          · have := atB_c hL h3 h4; omega
      · refine Or.inl ⟨?_, fun l h => ?_⟩
        · rw [sl_1, si_rd, if_pos rfl, if_neg e]; exact z q hq
        · rcases h with ⟨_, h⟩ | ⟨l', s', m, h1, h2, h3, h4, h5, h6⟩
          · exact e h
          · omega
    obtain ⟨σ4, e4, sx4, tb4, f4⟩ := x_fb55 (N := N) (t := nI t) hN hL tv (T t).n N 0 _ (by omega) (by omega) (by omega) sx3 tab (Fr.refl _ _)
    have e4' : f_X2_findBest_55 N N (nI t) (nI (T t).n) 0 (sl (si σ2 53 0 0) 54 0 0) = f_X2_findBest_73 N N (nI t) (nI (T t).n) 0 σ4 := e4
    rw [e4']
    refine (x_fb73 (N := N) hN hL tv (show t < 40 by omega) L.n N 0 σ4 (by omega) (by have := hL.1; omega) (by omega) sx4 ((tb4 (T t).n (by omega)).iff (fun l => (TP_all hL (Nat.le_refl _) l).trans ⟨Or.inl, fun h => h.elim id (fun ⟨x, h, _⟩ => absurd h (by omega))⟩)) ((tb4 ((T t).n + 1) (by omega)).iff (fun l => ⟨fun h => ?_, False.elim⟩)) (Fr.refl _ _)).mono (fun σ' ⟨y1, y2, y3⟩ => ?_)
    · rcases h with ⟨_, h⟩ | ⟨l', s', m, h1, h2, h3, h4, h5, h6⟩
      · omega
      · have := atB_c hL h3 h4; omega
    · have F14 : Fr [8601, 8602, 8603, 8604, 8605, 8606, 53, 54] (si σ 47 t (nI (K ||| 2 ^ 1))) σ4 := (((f1.wide rfl).trans (f2.wide rfl)).trans (f3.wide rfl)).trans (f4.wide rfl)
      have FF : Fr [8601, 8602, 8603, 8604, 8605, 8606, 53, 54, 49, 50] (si σ 47 t (nI (K ||| 2 ^ 1))) σ' := (F14.wide rfl).trans (y3.wide rfl)
      refine ⟨fun t' h' => ?_, y1, (f0.wide rfl).trans (FF.wide rfl)⟩
      by_cases e : t' = t
      · subst e
        have b8 := bit8 K k1 1 (by omega)
        refine ⟨K ||| 2 ^ 1, b8.1, ?_, fun h => absurd h (by omega), fun b => ?_, fun _ => y1, fun b => ?_⟩
        · rw [FF.i 47 rfl, si_rd, if_pos rfl, if_pos rfl]
        · exact (k4 (b8.2 0 (by omega) b (by omega))).eq (by rw [FF.i 48 rfl, f0.i 48 rfl])
        · exact (k6 (b8.2 2 (by omega) b (by omega))).eq (fun b _ => ⟨by rw [FF.i 51 rfl, f0.i 51 rfl], by rw [FF.l 52 rfl, f0.l 52 rfl]⟩)
      · obtain ⟨K', a1, a2, a3, a4, a5, a6⟩ := rc t' h'
        refine ⟨K', a1, ?_, a3, fun b => ?_, fun b => ?_, fun b => ?_⟩
        · rw [FF.i 47 rfl, si_rd, if_pos rfl, if_neg e]; exact a2
        · exact (a4 b).eq (by rw [FF.i 48 rfl, f0.i 48 rfl])
        · exact (a5 b).eq (by rw [(y2 t' e).1, F14.i 49 rfl, f0.i 49 rfl]) (by rw [(y2 t' e).2, F14.l 50 rfl, f0.l 50 rfl])
        · exact (a6 b).eq (fun b _ => ⟨by rw [FF.i 51 rfl, f0.i 51 rfl], by rw [FF.l 52 rfl, f0.l 52 rfl]⟩)
