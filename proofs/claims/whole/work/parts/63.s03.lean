/-! a call of a system of cells out of a wider place -/
theorem xcs_q {A : Nat → Prop} {g : XG} {U : State} {H : Heap} (q : Nat → Nat) (h : xcs A g U H) : xcs A (g.1, g.2.1, q, g.2.2.2) U H := h
section KCV
variable {p : Program} {l : Launch} {e : Env} {R : Room} {s : State} {m : MethodId} {args : Array Value} {below : List Frame} {meth : Method} {c : Code} {H : Heap} {locs : List Loc} {cells slots : Nat} {Q : State → Prop}
variable {K : List Lk} {g : XG} {own : String} {cc : ByteArray} {nL : Nat} {σ : St} {pc : Nat} {ls : Array Slot} {rest : List Value} {A : Nat → Prop}
theorem kc_V {y : MethodName} {bytes : ByteArray} {maxL n ix ci : Nat} {ret : Option FieldType} {rm : Room} {As : List Value} {res : Option Value} {σ' : St} {fts : List (Nat × Nat)} {st0 : List Value} (hx : p.tables.exec = Jvm.exec) (hb : c.code = cc) (hml : c.maxLocals = nL) (hown : s.vm.findClass own = some m.cls) (hts : ∀ w ∈ lw_g, w.before args s = true) (hK : va_K g.D xcl (xty g.cA) s) (hcs : xcs A g s s.heap) (hok : xok K) (hD : xD K g.q) (hsub : ∀ a, xA K g.q a → A a) (hP : va_P g.D xcl (xws K g.cA g.q σ) H) (hS : va_S A s.heap H locs)
    (hM : xM l K g y bytes maxL ret rm (.ref (g.q 0) :: As) σ res σ') (hf : xMf y bytes maxL ret n) (hv : xMv y) (hl : Cond.methodLink own ix y ∈ lw_g)
    (hrc : rm.cells = 0 ∧ rm.slots = 0) (hR : rm.frames + 1 ≤ R.frames ∧ 8 + (maxL + 11) + rm.locals ≤ R.locals) (hcl : cells ≤ R.cells ∧ slots ≤ R.slots) (hk : K[0]? = some (.inl (ci, fts))) (hc : xcl[ci]?.map (fun q => q.1) = some y.cls) (hls : ls.size = nL) (hn : As.length = n) (hst : st0 = As.reverse ++ .ref (g.q 0) :: rest) (hroom : (rest.map fun v => v.category).sum ≤ 8) (hdg : decode cc pc = .ok (.invokevirtual ix, 3))
    (kk : ∀ (H1 : Heap) (locs1 : List Loc), va_P g.D xcl (xws K g.cA g.q σ') H1 → H.size ≤ H1.size → (∀ a : Nat, a < H.size → ¬ xA K g.q a → H1[a]? = H[a]?) → va_S A s.heap H1 locs1 → W p l e R s m args below meth c H1 locs1 cells slots Q (F0 m (pc + 3) ls (res.toList ++ rest))) : W p l e R s m args below meth c H locs cells slots Q (F0 m pc ls st0) := by
  obtain ⟨q0, hq0, hq1⟩ : ∃ q0 : vw_C, xcl[ci]? = some q0 ∧ q0.1 = y.cls := by
    cases h : xcl[ci]? with
    | none => rw [h] at hc; cases hc
    | some q0 => rw [h] at hc; exact ⟨q0, rfl, Option.some.inj hc⟩
  have hg : GoodIn lw_g (wsV own ix y.cls y (.code y bytes maxL ret :: lw_g)) := fun w hw => by
    rcases List.mem_append.mp hw with h | h
    · simp only [List.mem_cons, List.not_mem_nil, or_false] at h
      rcases h with rfl | rfl | rfl | rfl
      · exact ⟨hl, lw_g_good _ hl⟩
      · exact ⟨hv.1, lw_g_good _ hv.1⟩
      · exact ⟨hv.2, lw_g_good _ hv.2⟩
      · exact ⟨hf.2.1, lw_g_good _ hf.2.1⟩
    · exact xgood hf w h
  have cw := cwV (R := R) (s := s) (args := args) (own := own) (C := y.cls) (index := ix) (y := y) (bytes := bytes) (maxL := maxL) (ret := ret) (ws := .code y bytes maxL ret :: lw_g) (rm := rm) (mc := 0) (ms := 0) n hts hg rfl hrc.1 hrc.2 ⟨rfl, hf.2.2⟩ hR
  have hrecv := va_recv (s := s) hK hP hq0 (xobj hk)
  rw [hq1] at hrecv
  have hpre : ∀ U : State, U.heap = H → s.WarmedH U.vm → xPre K g (.ref (g.q 0) :: As) σ (Value.ref (g.q 0) :: As).toArray U := fun U hU hw =>
    ⟨rfl, by rw [hU]; exact hP, va_K.moved hw.alike hK, hD, hok, by rw [hU]; exact ((hcs.kept hS.2.1).narrow hsub).warm hw⟩
  have hr := va_runV (cells := cells) (slots := slots) (locs := locs) (l := l) (e := e) (below := below) (meth := meth) (As := As) (rest := rest) (g := F0 m pc ls st0) ⟨hx, hb, hml, hown, hts⟩ hM cw ⟨xblind K g _ σ, hrecv, hpre⟩ rfl hn hls hst (lv_room hroom) hdg hcl
  intro T hT X
  obtain ⟨v, st₀, t, T', L, h0, X', hL, e1, e2, ⟨hv, hp, hz, hk2⟩, st⟩ := hr T hT X
  cases hv
  rw [h0] at hz hk2
  obtain ⟨t2, a1, b1⟩ := kk T'.heap (locs ++ L) (by rw [e1]; exact hp) (by rw [e1]; exact hz) (fun a h1 h2 => by rw [e1]; exact hk2 a h1 h2) ⟨Nat.le_trans hS.1 (by rw [e1]; exact hz), fun q h1 h2 => by
      rw [e1, hk2 q (Nat.lt_of_lt_of_le h1 hS.1) (fun z => h2 (hsub q z))]; exact hS.2.1 q h1 h2, fun q hq => by
      rcases List.mem_append.mp hq with h | h
      · exact hS.2.2 q h
      · exact hsub _ (hL q h)⟩ T' rfl X'
  exact ⟨t2, st t2 a1, b1⟩
end KCV
/-! the reference's cells while they are made: n arrays are there -/
def fM (q : Nat → Nat) (n : Nat) (z : Int32) (k : Nat) : Value := match KM_f0[k]? with
  | some (0, _) => if k = 9 then .int z else .int 0
  | some (1, _) => .long 0
  | some (_, i) => if i ≤ n then .ref (q i) else .null
  | none => .null
def eM (cA : Nat → ClassId) (i : Nat) : va_E := match KM[i]? with
  | some (.inr (t, m)) => .inl (cA t, m, if t = 1 then .inr (.inl (fun _ => 0)) else .inl (fun _ => 0))
  | _ => .inr (0, [])
def wM (cA : Nat → ClassId) (q : Nat → Nat) (n : Nat) (z : Int32) : va_W := (q 0, .inr (12, (List.range 103).map (fM q n z))) :: (List.range n).map (fun i => (q (i + 1), eM cA (i + 1)))
theorem kM_inj : ∀ j, j < 103 → ∀ k, k < 103 → ∀ i ∈ (KM_f0[j]?).toList, ∀ i' ∈ (KM_f0[k]?).toList, i.1 = 2 → i = i' → j = k := by decide +kernel
theorem kM_k : ∀ j, j < 103 → ∀ i ∈ (KM_f0[j]?).toList, i.1 = 0 ∨ i.1 = 1 ∨ (i.1 = 2 ∧ 1 ≤ i.2 ∧ i.2 ≤ 69) := by decide +kernel
theorem fM_step {q : Nat → Nat} {n k a : Nat} {z : Int32} (hk : KM_f0[k]? = some (2, n + 1)) : ((List.range 103).map (fM q n z)).set k (.ref a) = (List.range 103).map (fM (fun i => if i = n + 1 then a else q i) (n + 1) z) := by
  apply List.ext_getElem?
  intro j
  have hk3 : k < 103 := xlt hk
  rw [List.getElem?_set, List.getElem?_map, List.getElem?_map]
  by_cases hj : j < 103
  · rw [List.getElem?_range hj, Option.map_some, Option.map_some]
    by_cases e : k = j
    · subst e
      rw [if_pos rfl, if_pos (by rw [List.length_map, List.length_range]; exact hk3)]
      unfold fM
      rw [hk]
      show _ = some (if n + 1 ≤ n + 1 then Value.ref (if n + 1 = n + 1 then a else q (n + 1)) else Value.null)
      rw [if_pos (Nat.le_refl _), if_pos rfl]
    · rw [if_neg e]
      congr 1
      unfold fM
      cases hf : KM_f0[j]? with
      | none => rfl
      | some f =>
        obtain ⟨t, i⟩ := f
        have hc := kM_k j hj (t, i) (by rw [hf]; exact List.mem_singleton.mpr rfl)
        rcases hc with h | h | ⟨h, h1, h2⟩
        · have : t = 0 := h
          subst this; rfl
        · have : t = 1 := h
          subst this; rfl
        · have : t = 2 := h
          subst this
          have hne : i ≠ n + 1 := fun e2 => e (kM_inj k hk3 j hj (2, n + 1) (by rw [hk]; exact List.mem_singleton.mpr rfl) (2, i) (by rw [hf]; exact List.mem_singleton.mpr rfl) rfl (by rw [e2]))
          show (if i ≤ n then Value.ref (q i) else Value.null) = (if i ≤ n + 1 then Value.ref (if i = n + 1 then a else q i) else Value.null)
          rw [if_neg hne]
          by_cases hi : i ≤ n
          · rw [if_pos hi, if_pos (by omega)]
          · rw [if_neg hi, if_neg (by omega)]
  · rw [List.getElem?_eq_none (by rw [List.length_range]; omega), if_neg (by omega)]; rfl
theorem fM_z {q : Nat → Nat} {n : Nat} {z z' : Int32} : ((List.range 103).map (fM q n z)).set 9 (.int z') = (List.range 103).map (fM q n z') := by
  apply List.ext_getElem?
  intro j
  rw [List.getElem?_set, List.getElem?_map, List.getElem?_map]
  by_cases hj : j < 103
  · rw [List.getElem?_range hj, Option.map_some, Option.map_some]
    by_cases e : 9 = j
    · subst e
      rw [if_pos rfl, if_pos (by rw [List.length_map, List.length_range]; omega)]
      rfl
    · rw [if_neg e]
      congr 1
      unfold fM
      rw [if_neg (Ne.symm e), if_neg (Ne.symm e)]
  · rw [List.getElem?_eq_none (by rw [List.length_range]; omega), if_neg (by omega)]; rfl
theorem wM_step {cA : Nat → ClassId} {q : Nat → Nat} {n k a t N : Nat} {z : Int32} {E : va_E} (hk : KM_f0[k]? = some (2, n + 1)) (hE : eM cA (n + 1) = E) : ((wM cA q n z ++ [(a, E)]).set 0 (q 0, .inr (12, (List.range 103).map (fM (fun i => if i = n + 1 then a else q i) (n + 1) z)))) = wM cA (fun i => if i = n + 1 then a else q i) (n + 1) z := by
  unfold wM
  rw [List.cons_append, List.set_cons_zero, List.range_succ (n := n), List.map_append]
  dsimp only
  rw [if_neg (show ¬ 0 = n + 1 from by omega)]
  refine congrArg (fun l : va_W => _ :: l) ?_
  refine congr (congrArg (fun (a b : va_W) => a ++ b) ?_) ?_
  · apply List.map_congr_left
    intro i hi
    have := List.mem_range.mp hi
    rw [if_neg (by omega)]
  · show _ = [((if n + 1 = n + 1 then a else q (n + 1)), eM cA (n + 1))]
    rw [if_pos rfl, hE]
