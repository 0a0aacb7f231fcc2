/-! the law's own place: the script, both systems' cells -/
abbrev gq (g : XG) (q : Nat → Nat) : XG := (g.1, g.2.1, q, g.2.2.2)
def LA (g : XG) (qx qm : Nat → Nat) (b L : Nat) (xs : Nat → Int32) (p : Program) (s : State) (m : MethodId) (c : Code) : Prop := p.tables.exec = Jvm.exec ∧ c.code = code ∧ c.maxLocals = 4 ∧ s.vm.findClass R_law = some m.cls ∧ (∀ w ∈ lw_g, w.before #[Value.ref b] s = true) ∧ va_K g.D xcl (xty g.cA) s ∧ xcs (fun q => s.heap.size ≤ q) g s s.heap ∧ xD KX qx ∧ xD KM qm ∧ (∀ a, xA KX qx a → s.heap.size ≤ a) ∧ (∀ a, xA KM qm a → s.heap.size ≤ a) ∧ (∀ a, xA KX qx a → xA KM qm a → False) ∧ va_X b L xs s s.heap ∧ b < s.heap.size
def LWd (g : XG) (qx qm : Nat → Nat) (s : State) (σ τ : St) (H : Heap) (locs : List Loc) : Prop := va_P g.D xcl (xws KX g.cA qx σ) H ∧ va_P g.D xcl (xws KM g.cA qm τ) H ∧ va_S (fun q => s.heap.size ≤ q) s.heap H locs
theorem lw_other {D : va_G} {K1 K2 : List Lk} {cA : Nat → ClassId} {q1 q2 : Nat → Nat} {τ : St} {H H1 : Heap} (h : va_P D xcl (xws K2 cA q2 τ) H) (hk : ∀ a : Nat, a < H.size → ¬ xA K1 q1 a → H1[a]? = H[a]?) (hd : ∀ a, xA K1 q1 a → xA K2 q2 a → False) : va_P D xcl (xws K2 cA q2 τ) H1 := by
  refine h.kept (fun k q hq => hk _ (h k q hq).lt (fun h1 => hd _ h1 ?_))
  rw [xws_get] at hq
  cases e : K2[k]? with
  | none => rw [e] at hq; cases hq
  | some x => rw [e] at hq; cases hq; exact ⟨k, xlt e, rfl⟩
section LAWB
variable {p : Program} {l : Launch} {e : Env} {s : State} {m : MethodId} {below : List Frame} {meth : Method} {c : Code} {H : Heap} {locs : List Loc} {cells slots : Nat} {Q : State → Prop}
variable {g : XG} {qx qm : Nat → Nat} {b L i : Nat} {xs : Nat → Int32} {x3 : Int32} {ls : Array Slot} {σ τ : St} {pc : Nat} {rest : List Value}
theorem lcX {y : MethodName} {bytes : ByteArray} {maxL n ix : Nat} {ret : Option FieldType} {rm : Room} {As : List Value} {res : Option Value} {σ' : St} {st0 : List Value} (C : LA g qx qm b L xs p s m c) (w : LWd g qx qm s σ τ H locs)
    (hM : xM l KX (gq g qx) y bytes maxL ret rm (.ref (qx 0) :: As) σ res σ') (hf : xMf y bytes maxL ret n) (hv : xMv y) (hl : Cond.methodLink R_law ix y ∈ lw_g)
    (hrc : rm.cells = 0 ∧ rm.slots = 0) (hR : rm.frames + 1 ≤ room_1.frames ∧ 8 + (maxL + 11) + rm.locals ≤ room_1.locals) (hcl : cells ≤ room_1.cells ∧ slots ≤ room_1.slots) (hc : y.cls = RX11) (hls : ls.size = 4) (hn : As.length = n) (hst : st0 = As.reverse ++ .ref (qx 0) :: rest) (hroom : (rest.map fun v => v.category).sum ≤ 8) (hdg : decode code pc = .ok (.invokevirtual ix, 3))
    (kk : ∀ (H1 : Heap) (locs1 : List Loc), LWd g qx qm s σ' τ H1 locs1 → W p l e room_1 s m #[Value.ref b] below meth c H1 locs1 cells slots Q (F0 m (pc + 3) ls (res.toList ++ rest))) : W p l e room_1 s m #[Value.ref b] below meth c H locs cells slots Q (F0 m pc ls st0) := by
  obtain ⟨hx, hb, hml, hown, hts, hK, hcs, hDx, hDm, hsx, hsm, hdis, hX, hbl⟩ := C
  exact kc_V (K := KX) (g := gq g qx) (As := As) (rest := rest) hx hb hml hown hts hK hcs KX_ok hDx hsx w.1 w.2.2 hM hf hv hl hrc hR hcl KX_0 (by rw [hc]; rfl) hls hn hst hroom hdg (fun H1 locs1 hP1 hz1 hk1 hS1 => kk H1 locs1 ⟨hP1, lw_other w.2.1 hk1 hdis, hS1⟩)
theorem lcM {y : MethodName} {bytes : ByteArray} {maxL n ix : Nat} {ret : Option FieldType} {rm : Room} {As : List Value} {res : Option Value} {τ' : St} {st0 : List Value} (C : LA g qx qm b L xs p s m c) (w : LWd g qx qm s σ τ H locs)
    (hM : xM l KM (gq g qm) y bytes maxL ret rm (.ref (qm 0) :: As) τ res τ') (hf : xMf y bytes maxL ret n) (hv : xMv y) (hl : Cond.methodLink R_law ix y ∈ lw_g)
    (hrc : rm.cells = 0 ∧ rm.slots = 0) (hR : rm.frames + 1 ≤ room_1.frames ∧ 8 + (maxL + 11) + rm.locals ≤ room_1.locals) (hcl : cells ≤ room_1.cells ∧ slots ≤ room_1.slots) (hc : y.cls = RX12) (hls : ls.size = 4) (hn : As.length = n) (hst : st0 = As.reverse ++ .ref (qm 0) :: rest) (hroom : (rest.map fun v => v.category).sum ≤ 8) (hdg : decode code pc = .ok (.invokevirtual ix, 3))
    (kk : ∀ (H1 : Heap) (locs1 : List Loc), LWd g qx qm s σ τ' H1 locs1 → W p l e room_1 s m #[Value.ref b] below meth c H1 locs1 cells slots Q (F0 m (pc + 3) ls (res.toList ++ rest))) : W p l e room_1 s m #[Value.ref b] below meth c H locs cells slots Q (F0 m pc ls st0) := by
  obtain ⟨hx, hb, hml, hown, hts, hK, hcs, hDx, hDm, hsx, hsm, hdis, hX, hbl⟩ := C
  exact kc_V (K := KM) (g := gq g qm) (As := As) (rest := rest) hx hb hml hown hts hK hcs KM_ok hDm hsm w.2.1 w.2.2 hM hf hv hl hrc hR hcl KM_0 (by rw [hc]; rfl) hls hn hst hroom hdg (fun H1 locs1 hP1 hz1 hk1 hS1 => kk H1 locs1 ⟨lw_other w.1 hk1 (fun a h1 h2 => hdis a h2 h1), hP1, hS1⟩)
/-- script[i + k] -/
theorem lsld {k : Nat} {kn : Int} (C : LA g qx qm b L xs p s m c) (hS : va_S (fun q => s.heap.size ≤ q) s.heap H locs) (hl : lv_has ls 4 [(0, .ref b), (1, .ref (qx 0)), (2, .ref (qm 0)), (3, .int x3)]) (hi : i + 6 ≤ L) (hL : L ≤ 3072) (hx3 : x3 = nI i) (hk : Int32.ofInt kn = nI k) (hk6 : k < 6) (d0 : decode code pc = .ok (.aload_n 0, 1)) (d1 : decode code (pc + 1) = .ok (.iload_n 3, 1)) (d2 : decode code (pc + 1 + 1) = .ok (.iconst kn, 1)) (d3 : decode code (pc + 1 + 1 + 1) = .ok (.iadd, 1)) (d4 : decode code (pc + 1 + 1 + 1 + 1) = .ok (.iaload, 1))
    (kk : W p l e room_1 s m #[Value.ref b] below meth c H locs cells slots Q (F0 m (pc + 1 + 1 + 1 + 1 + 1) ls (.int (xs (i + k)) :: rest))) : W p l e room_1 s m #[Value.ref b] below meth c H locs cells slots Q (F0 m pc ls rest) := by
  obtain ⟨hx, hb, hml, hown, hts, hK, hcs, hDx, hDm, hsx, hsm, hdis, hX, hbl⟩ := C
  have e0 : x3 + nI k = nI (i + k) := by rw [hx3]; exact nadd i k
  have e1 : (x3 + nI k).toNatClampNeg = i + k := by rw [e0]; exact ncl (by omega)
  have hin : vp_in (x3 + nI k) L := by rw [e0]; exact vp_in_nI (by omega) (by omega)
  refine lv_aload_n hx hb d0 rfl (lv_at hl 0 rfl) ?_
  refine lv_iload_n hx hb d1 rfl (lv_at hl 3 rfl) ?_
  refine lv_iconst (v := nI k) hx hb d2 hk ?_
  refine lv_iadd hx hb d3 ?_
  refine va_sld (A := fun q => s.heap.size ≤ q) hx hb hX hbl (Nat.not_le.mpr hbl) hS hin d4 ?_
  rw [e1]
  exact kk
end LAWB
