def tyM (t : Nat) : ArrayType := match t with
  | 0 => .int
  | 1 => .long
  | 2 => .byte
  | _ => .boolean
section MKM
variable {p : Program} {l : Launch} {e : Env} {R : Room} {s : State} {m : MethodId} {args : Array Value} {below : List Frame} {meth : Method} {c : Code} {H H0 : Heap} {locs : List Loc} {cells slots : Nat} {Q : State → Prop}
variable {g : XG} {cc : ByteArray} {pc : Nat} {ls : Array Slot} {rest : List Value} {A : Nat → Prop} {ws : va_W}
theorem kn_any {n : Int32} {N t : Nat} (ht : t < 4) (hx : p.tables.exec = Jvm.exec) (hb : c.code = cc) (hts : ∀ w ∈ lw_g, w.before args s = true) (hK : va_K g.D xcl (xty g.cA) s) (hP : va_P g.D xcl ws H) (hD : va_D A ws) (hS : va_S A H0 H locs) (hA : ∀ q, H0.size ≤ q → A q) (hn : ¬ n < 0) (hN : n.toNatClampNeg = N) (hby : N * 8 ≤ 536870912) (hc : cells + 1 ≤ R.cells) (hs : slots + N ≤ R.slots) (hdg : decode cc pc = .ok (.newarray (tyM t), 2))
    (kk : ∀ (q : Nat) (H1 : Heap), va_P g.D xcl (ws ++ [(q, .inl (g.cA t, N, if t = 1 then .inr (.inl (fun _ => 0)) else .inl (fun _ => 0)))]) H1 → va_D A (ws ++ [(q, .inl (g.cA t, N, if t = 1 then .inr (.inl (fun _ => 0)) else .inl (fun _ => 0)))]) → va_S A H0 H1 locs → W p l e R s m args below meth c H1 locs (cells + 1) (slots + N) Q (F0 m (pc + 2) ls (.ref q :: rest))) : W p l e R s m args below meth c H locs cells slots Q (F0 m pc ls (.int n :: rest)) := by
  match t, ht, hdg, kk with
  | 0, _, hdg, kk => exact kn_i hx hb hts hK hP hD hS hA hn hN (by omega) hc hs hdg kk
  | 1, _, hdg, kk => exact kn_l hx hb hts hK hP hD hS hA hn hN hby hc hs hdg kk
  | 2, _, hdg, kk => exact kn_b hx hb hts hK hP hD hS hA hn hN (by omega) hc hs hdg kk
  | 3, _, hdg, kk => exact kn_z hx hb hts hK hP hD hS hA hn hN (by omega) hc hs hdg kk
  | t + 4, ht, _, _ => exact absurd ht (by omega)
/-- one row of the reference made and put into its field -/
theorem mkM {n : Int32} {N t k ix i : Nat} {z : Int32} {q : Nat → Nat} (hx : p.tables.exec = Jvm.exec) (hb : c.code = cc) (hts : ∀ w ∈ lw_g, w.before args s = true) (hown : s.vm.findClass RX12 = some m.cls) (hin : meth.name = "<init>") (hK : va_K g.D xcl (xty g.cA) s) (hP : va_P g.D xcl (wM g.cA q i z) H) (hD : va_D A (wM g.cA q i z)) (hS : va_S A H0 H locs) (hA : ∀ q, H0.size ≤ q → A q)
    (ht : t < 4) (hn : ¬ n < 0) (hN : n.toNatClampNeg = N) (hby : N * 8 ≤ 536870912) (hk : KM_f0[k]? = some (2, i + 1)) (hE : KM[i + 1]? = some (.inr (t, N))) (hl : Cond.fieldLink RX12 ix (TX12 k).1 (TX12 k).2.1 (TX12 k).2.2.1 ∈ lw_g) (hdecl : (TX12 k).1 = RX12) (hnr : ∀ a, narrow (tyX12 k) (.ref a) = .ref a) (hfit : ∀ a, fits (tyX12 k) (.ref a) = true) (hc : cells + 1 ≤ R.cells) (hs : slots + N ≤ R.slots) (hd1 : decode cc pc = .ok (.newarray (tyM t), 2)) (hd2 : decode cc (pc + 2) = .ok (.putfield ix, 3))
    (kk : ∀ (q' : Nat → Nat) (H1 : Heap) (locs1 : List Loc), q' 0 = q 0 → va_P g.D xcl (wM g.cA q' (i + 1) z) H1 → va_D A (wM g.cA q' (i + 1) z) → va_S A H0 H1 locs1 → W p l e R s m args below meth c H1 locs1 (cells + 1) (slots + N) Q (F0 m (pc + 5) ls rest)) : W p l e R s m args below meth c H locs cells slots Q (F0 m pc ls (.int n :: .ref (q 0) :: rest)) := by
  have hk3 : k < 103 := xlt hk
  refine kn_any (t := t) ht hx hb hts hK hP hD hS hA hn hN hby hc hs hd1 (fun a H1 hP1 hD1 hS1 => ?_)
  have hEE : eM g.cA (i + 1) = .inl (g.cA t, N, if t = 1 then .inr (.inl (fun _ => 0)) else .inl (fun _ => 0)) := by
    unfold eM; rw [hE]
  exact kp_f (ci := 12) (k := k) (q0 := 0) (fs := (List.range 103).map (fM q i z)) (C := RX12) (T := TX12) (N := 103) (ty0 := tyX12) hx hb hts hown hin hK hP1 hD1 hS1 rfl igX12 tyX12_ok nmX12 hl hk3 rfl hdecl (hnr a) (hfit a) (by rw [List.length_map, List.length_range]; exact hk3) (fM_step hk) (wM_step (t := t) (N := N) hk hEE) hd2 (fun H2 locs2 hP2 hD2 hS2 => kk _ H2 locs2 (if_neg (by omega)) hP2 hD2 hS2)
theorem mkZ {ix i : Nat} {z z' : Int32} {q : Nat → Nat} (hx : p.tables.exec = Jvm.exec) (hb : c.code = cc) (hts : ∀ w ∈ lw_g, w.before args s = true) (hown : s.vm.findClass RX12 = some m.cls) (hin : meth.name = "<init>") (hK : va_K g.D xcl (xty g.cA) s) (hP : va_P g.D xcl (wM g.cA q i z) H) (hD : va_D A (wM g.cA q i z)) (hS : va_S A H0 H locs)
    (hl : Cond.fieldLink RX12 ix (TX12 9).1 (TX12 9).2.1 (TX12 9).2.2.1 ∈ lw_g) (hd : decode cc pc = .ok (.putfield ix, 3))
    (kk : ∀ (H1 : Heap) (locs1 : List Loc), va_P g.D xcl (wM g.cA q i z') H1 → va_D A (wM g.cA q i z') → va_S A H0 H1 locs1 → W p l e R s m args below meth c H1 locs1 cells slots Q (F0 m (pc + 3) ls rest)) : W p l e R s m args below meth c H locs cells slots Q (F0 m pc ls (.int z' :: .ref (q 0) :: rest)) := by
  exact kp_f (ci := 12) (k := 9) (q0 := 0) (fs := (List.range 103).map (fM q i z)) (C := RX12) (T := TX12) (N := 103) (ty0 := tyX12) hx hb hts hown hin hK hP hD hS rfl igX12 tyX12_ok nmX12 hl (by omega) rfl rfl rfl rfl (by rw [List.length_map, List.length_range]; omega) fM_z rfl hd kk
end MKM
def σM0 : St := si (fun _ _ => 0, fun _ _ => 0) (xv 0 9) 0 (-1)
theorem σM0_1 (k : Nat) (h : k < 1000) : σM0.1 k = fun _ => 0 := si_ne _ _ _ (by unfold xv; omega)
theorem kM_a : ∀ i, i < 69 → ∀ e ∈ (KM[i + 1]?).toList, (Sum.isRight e) = true := by decide +kernel
theorem kM_len : KM.length = 70 := by decide
theorem wM_end (cA : Nat → ClassId) (q : Nat → Nat) : wM cA q 69 (-1) = xws KM cA q σM0 := by
  apply List.ext_getElem?
  intro k
  rw [xws_get]
  match k with
  | 0 =>
    show some (q 0, (.inr (12, (List.range 103).map (fM q 69 (-1))) : va_E)) = some (q 0, .inr (12, KM_f0.mapIdx (fun j f => xfv q σM0 0 j f)))
    refine congrArg (fun l => some (q 0, (.inr (12, l) : va_E))) ?_
    apply List.ext_getElem?
    intro j
    rw [List.getElem?_map, List.getElem?_mapIdx]
    by_cases hj : j < 103
    · rw [List.getElem?_range hj, Option.map_some]
      cases hf : KM_f0[j]? with
      | none => exact absurd (List.getElem?_eq_none_iff.mp hf) (by show ¬ 103 ≤ j; omega)
      | some f =>
        rw [Option.map_some]
        refine congrArg some ?_
        unfold fM
        rw [hf]
        obtain ⟨t, i⟩ := f
        have hc := kM_k j hj (t, i) (by rw [hf]; exact List.mem_singleton.mpr rfl)
        rcases hc with h | h | ⟨h, h1, h2⟩
        · have : t = 0 := h
          subst this
          show (if j = 9 then Value.int (-1) else .int 0) = .int (σM0.1 (xv 0 j) 0)
          by_cases e : j = 9
          · subst e; rw [if_pos rfl]; rfl
          · rw [if_neg e, show σM0.1 (xv 0 j) = fun _ => 0 from si_ne _ _ _ (by unfold xv; omega)]
        · have : t = 1 := h
          subst this
          rfl
        · have : t = 2 := h
          subst this
          show (if i ≤ 69 then Value.ref (q i) else .null) = .ref (q i)
          rw [if_pos h2]
    · rw [List.getElem?_eq_none (by rw [List.length_range]; omega), List.getElem?_eq_none (by show 103 ≤ j; omega)]; rfl
  | k + 1 =>
    show ((List.range 69).map (fun i => (q (i + 1), eM cA (i + 1))))[k]? = _
    rw [List.getElem?_map]
    by_cases hk : k < 69
    · rw [List.getElem?_range hk, Option.map_some]
      cases hf : KM[k + 1]? with
      | none => exact absurd (List.getElem?_eq_none_iff.mp hf) (by rw [kM_len]; omega)
      | some f =>
        have hr := kM_a k hk f (by rw [hf]; exact List.mem_singleton.mpr rfl)
        rw [Option.map_some]
        cases f with
        | inl a => cases hr
        | inr b =>
          obtain ⟨t, N⟩ := b
          unfold eM
          rw [hf]
          show some (q (k + 1), (Sum.inl (cA t, N, if t = 1 then .inr (.inl (fun _ => 0)) else .inl (fun _ => 0)) : va_E)) = some (q (k + 1), .inl (cA t, N, if t = 1 then .inr (.inl (σM0.2 (k + 1))) else .inl (σM0.1 (k + 1))))
          rw [σM0_1 (k + 1) (by omega)]
          rfl
    · rw [List.getElem?_eq_none (by rw [List.length_range]; omega), List.getElem?_eq_none (by rw [kM_len]; omega)]; rfl
