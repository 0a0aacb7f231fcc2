set_option maxRecDepth 20000 in
theorem xoi_i : Cond.instanceMethod Lib.objectInit ∈ lw_g := lw_c1 27 rfl rfl
set_option maxRecDepth 20000 in
theorem xoi_c : Cond.code Lib.objectInit ⟨#[0xb1]⟩ 1 none ∈ lw_g := lw_c1 28 rfl rfl
set_option maxRecDepth 20000 in
theorem xac_int : Cond.arrayClass .int ∈ lw_g := lw_c1 162 rfl rfl
set_option maxRecDepth 20000 in
theorem xac_long : Cond.arrayClass .long ∈ lw_g := lw_c1 161 rfl rfl
set_option maxRecDepth 20000 in
theorem xac_byte : Cond.arrayClass .byte ∈ lw_g := lw_c1 96 rfl rfl
set_option maxRecDepth 20000 in
theorem xac_boolean : Cond.arrayClass .boolean ∈ lw_g := lw_c8 16 rfl rfl
set_option maxRecDepth 20000 in
theorem mi_X0_init : Cond.instanceMethod yX0_init ∈ lw_g := lw_c1 166 rfl rfl
set_option maxRecDepth 20000 in
theorem mi_X1_init : Cond.instanceMethod yX1_init ∈ lw_g := lw_c1 195 rfl rfl
set_option maxRecDepth 20000 in
theorem mi_X2_init : Cond.instanceMethod yX2_init ∈ lw_g := lw_c2 107 rfl rfl
set_option maxRecDepth 20000 in
theorem mi_X3_init : Cond.instanceMethod yX3_init ∈ lw_g := lw_c2 76 rfl rfl
set_option maxRecDepth 20000 in
theorem mi_X4_init : Cond.instanceMethod yX4_init ∈ lw_g := lw_c2 210 rfl rfl
set_option maxRecDepth 20000 in
theorem mi_X5_init : Cond.instanceMethod yX5_init ∈ lw_g := lw_c2 156 rfl rfl
set_option maxRecDepth 20000 in
theorem mi_X6_init : Cond.instanceMethod yX6_init ∈ lw_g := lw_c1 100 rfl rfl
set_option maxRecDepth 20000 in
theorem mi_X7_init : Cond.instanceMethod yX7_init ∈ lw_g := lw_c2 44 rfl rfl
set_option maxRecDepth 20000 in
theorem mi_X8_init : Cond.instanceMethod yX8_init ∈ lw_g := lw_c1 32 rfl rfl
set_option maxRecDepth 20000 in
theorem mi_X9_init : Cond.instanceMethod yX9_init ∈ lw_g := lw_c2 13 rfl rfl
set_option maxRecDepth 20000 in
theorem mi_X10_init : Cond.instanceMethod yX10_init ∈ lw_g := lw_c3 10 rfl rfl
set_option maxRecDepth 20000 in
theorem mi_X11_init : Cond.instanceMethod yX11_init ∈ lw_g := lw_c1 24 rfl rfl
set_option maxRecDepth 20000 in
theorem mi_X12_init : Cond.instanceMethod yX12_init ∈ lw_g := lw_c6 176 rfl rfl
set_option maxRecDepth 20000 in
theorem ki_X11 : Cond.instantiable RX11 13 ∈ lw_g := lw_c1 22 rfl rfl
set_option maxRecDepth 20000 in
theorem kx_X11_7 : Cond.classLink RX11 7 RX8 ∈ lw_g := lw_c1 29 rfl rfl
set_option maxRecDepth 20000 in
theorem ki_X8 : Cond.instantiable RX8 13 ∈ lw_g := lw_c1 30 rfl rfl
set_option maxRecDepth 20000 in
theorem kx_X11_16 : Cond.classLink RX11 16 RX6 ∈ lw_g := lw_c1 97 rfl rfl
set_option maxRecDepth 20000 in
theorem ki_X6 : Cond.instantiable RX6 10 ∈ lw_g := lw_c1 98 rfl rfl
set_option maxRecDepth 20000 in
theorem kx_X11_26 : Cond.classLink RX11 26 RX0 ∈ lw_g := lw_c1 163 rfl rfl
set_option maxRecDepth 20000 in
theorem ki_X0 : Cond.instantiable RX0 7 ∈ lw_g := lw_c1 164 rfl rfl
set_option maxRecDepth 20000 in
theorem kx_X11_35 : Cond.classLink RX11 35 RX1 ∈ lw_g := lw_c1 192 rfl rfl
set_option maxRecDepth 20000 in
theorem ki_X1 : Cond.instantiable RX1 15 ∈ lw_g := lw_c1 193 rfl rfl
set_option maxRecDepth 20000 in
theorem kx_X11_44 : Cond.classLink RX11 44 RX9 ∈ lw_g := lw_c2 10 rfl rfl
set_option maxRecDepth 20000 in
theorem ki_X9 : Cond.instantiable RX9 5 ∈ lw_g := lw_c2 11 rfl rfl
set_option maxRecDepth 20000 in
theorem kx_X11_51 : Cond.classLink RX11 51 RX7 ∈ lw_g := lw_c2 41 rfl rfl
set_option maxRecDepth 20000 in
theorem ki_X7 : Cond.instantiable RX7 8 ∈ lw_g := lw_c2 42 rfl rfl
set_option maxRecDepth 20000 in
theorem kx_X11_60 : Cond.classLink RX11 60 RX3 ∈ lw_g := lw_c2 73 rfl rfl
set_option maxRecDepth 20000 in
theorem ki_X3 : Cond.instantiable RX3 7 ∈ lw_g := lw_c2 74 rfl rfl
set_option maxRecDepth 20000 in
theorem kx_X11_67 : Cond.classLink RX11 67 RX2 ∈ lw_g := lw_c2 104 rfl rfl
set_option maxRecDepth 20000 in
theorem ki_X2 : Cond.instantiable RX2 14 ∈ lw_g := lw_c2 105 rfl rfl
set_option maxRecDepth 20000 in
theorem kx_X11_76 : Cond.classLink RX11 76 RX5 ∈ lw_g := lw_c2 153 rfl rfl
set_option maxRecDepth 20000 in
theorem ki_X5 : Cond.instantiable RX5 14 ∈ lw_g := lw_c2 154 rfl rfl
set_option maxRecDepth 20000 in
theorem kx_X11_85 : Cond.classLink RX11 85 RX4 ∈ lw_g := lw_c2 207 rfl rfl
set_option maxRecDepth 20000 in
theorem ki_X4 : Cond.instantiable RX4 9 ∈ lw_g := lw_c2 208 rfl rfl
set_option maxRecDepth 20000 in
theorem kx_X11_94 : Cond.classLink RX11 94 RX10 ∈ lw_g := lw_c3 7 rfl rfl
set_option maxRecDepth 20000 in
theorem ki_X10 : Cond.instantiable RX10 7 ∈ lw_g := lw_c3 8 rfl rfl
set_option maxRecDepth 20000 in
theorem ki_X12 : Cond.instantiable RX12 103 ∈ lw_g := lw_c6 174 rfl rfl
theorem xcs.narrow {A B : Nat → Prop} {g : XG} {U : State} {H : Heap} (h : xcs A g U H) (hAB : ∀ q, B q → A q) : xcs B g U H :=
  ⟨fun i e he => ⟨(h.1 i e he).1.narrow hAB, (h.1 i e he).2.narrow hAB⟩, h.2.1.narrow hAB, h.2.2.1, h.2.2.2.1, h.2.2.2.2.1.narrow hAB, h.2.2.2.2.2.narrow hAB⟩
theorem xD_of {A : Nat → Prop} {K : List Lk} {cA : Nat → ClassId} {q : Nat → Nat} {σ : St} (h : va_D A (xws K cA q σ)) : xD K q := fun i j hi hj e => by
  have hi' : (xws K cA q σ)[i]? = some (q i, xen cA q σ i K[i]) := xws_at (List.getElem?_eq_getElem hi)
  have hj' : (xws K cA q σ)[j]? = some (q j, xen cA q σ j K[j]) := xws_at (List.getElem?_eq_getElem hj)
  exact h.1 i j _ _ hi' hj' e
theorem xA_of {A : Nat → Prop} {K : List Lk} {cA : Nat → ClassId} {q : Nat → Nat} {σ : St} (h : va_D A (xws K cA q σ)) : ∀ a, xA K q a → A a := fun a ⟨o, ho, e⟩ => by
  have ho' : (xws K cA q σ)[o]? = some (q o, xen cA q σ o K[o]) := xws_at (List.getElem?_eq_getElem ho)
  have := h.2 o _ ho'
  rw [← e]; exact this
section KN
variable {p : Program} {l : Launch} {e : Env} {R : Room} {s : State} {m : MethodId} {args : Array Value} {below : List Frame} {meth : Method} {c : Code} {H H0 : Heap} {locs : List Loc} {cells slots : Nat} {Q : State → Prop}
variable {g : XG} {cc : ByteArray} {pc : Nat} {ls : Array Slot} {rest : List Value} {A : Nat → Prop} {ws : va_W}
theorem kn_i {n : Int32} {N : Nat} (hx : p.tables.exec = Jvm.exec) (hb : c.code = cc) (hts : ∀ w ∈ lw_g, w.before args s = true) (hK : va_K g.D xcl (xty g.cA) s) (hP : va_P g.D xcl ws H) (hD : va_D A ws) (hS : va_S A H0 H locs) (hA : ∀ q, H0.size ≤ q → A q) (hn : ¬ n < 0) (hN : n.toNatClampNeg = N) (hby : N * 4 ≤ 536870912) (hc : cells + 1 ≤ R.cells) (hs : slots + N ≤ R.slots) (hdg : decode cc pc = .ok (.newarray .int, 2))
    (kk : ∀ (q : Nat) (H1 : Heap), va_P g.D xcl (ws ++ [(q, .inl (g.cA 0, N, .inl (fun _ => 0)))]) H1 → va_D A (ws ++ [(q, .inl (g.cA 0, N, .inl (fun _ => 0)))]) → va_S A H0 H1 locs → W p l e R s m args below meth c H1 locs (cells + 1) (slots + N) Q (F0 m (pc + 2) ls (.ref q :: rest))) : W p l e R s m args below meth c H locs cells slots Q (F0 m pc ls (.int n :: rest)) := by
  refine va_newa (a0 := (N, .inl (fun _ => 0))) (atype := .int) hx hb (hts _ xac_int) rfl hK hP hD hS hA (fun _ => rfl) hn hN hby hc hs hdg (fun q cB H1 hK1 hP1 hD1 hS1 => ?_)
  have h1 : s.vm.findClass ("[" ++ (FieldType.int).toString) = some cB := (hK1.2 4 _ rfl).2
  have h2 : s.vm.findClass ("[" ++ (FieldType.int).toString) = some (g.cA 0) := (hK.2 0 _ rfl).2
  cases h1.symm.trans h2
  exact kk q H1 hP1 hD1 hS1
theorem kn_l {n : Int32} {N : Nat} (hx : p.tables.exec = Jvm.exec) (hb : c.code = cc) (hts : ∀ w ∈ lw_g, w.before args s = true) (hK : va_K g.D xcl (xty g.cA) s) (hP : va_P g.D xcl ws H) (hD : va_D A ws) (hS : va_S A H0 H locs) (hA : ∀ q, H0.size ≤ q → A q) (hn : ¬ n < 0) (hN : n.toNatClampNeg = N) (hby : N * 8 ≤ 536870912) (hc : cells + 1 ≤ R.cells) (hs : slots + N ≤ R.slots) (hdg : decode cc pc = .ok (.newarray .long, 2))
    (kk : ∀ (q : Nat) (H1 : Heap), va_P g.D xcl (ws ++ [(q, .inl (g.cA 1, N, .inr (.inl (fun _ => 0))))]) H1 → va_D A (ws ++ [(q, .inl (g.cA 1, N, .inr (.inl (fun _ => 0))))]) → va_S A H0 H1 locs → W p l e R s m args below meth c H1 locs (cells + 1) (slots + N) Q (F0 m (pc + 2) ls (.ref q :: rest))) : W p l e R s m args below meth c H locs cells slots Q (F0 m pc ls (.int n :: rest)) := by
  refine va_newa (a0 := (N, .inr (.inl (fun _ => 0)))) (atype := .long) hx hb (hts _ xac_long) rfl hK hP hD hS hA (fun _ => rfl) hn hN hby hc hs hdg (fun q cB H1 hK1 hP1 hD1 hS1 => ?_)
  have h1 : s.vm.findClass ("[" ++ (FieldType.long).toString) = some cB := (hK1.2 4 _ rfl).2
  have h2 : s.vm.findClass ("[" ++ (FieldType.long).toString) = some (g.cA 1) := (hK.2 1 _ rfl).2
  cases h1.symm.trans h2
  exact kk q H1 hP1 hD1 hS1
theorem kn_b {n : Int32} {N : Nat} (hx : p.tables.exec = Jvm.exec) (hb : c.code = cc) (hts : ∀ w ∈ lw_g, w.before args s = true) (hK : va_K g.D xcl (xty g.cA) s) (hP : va_P g.D xcl ws H) (hD : va_D A ws) (hS : va_S A H0 H locs) (hA : ∀ q, H0.size ≤ q → A q) (hn : ¬ n < 0) (hN : n.toNatClampNeg = N) (hby : N * 1 ≤ 536870912) (hc : cells + 1 ≤ R.cells) (hs : slots + N ≤ R.slots) (hdg : decode cc pc = .ok (.newarray .byte, 2))
    (kk : ∀ (q : Nat) (H1 : Heap), va_P g.D xcl (ws ++ [(q, .inl (g.cA 2, N, .inl (fun _ => 0)))]) H1 → va_D A (ws ++ [(q, .inl (g.cA 2, N, .inl (fun _ => 0)))]) → va_S A H0 H1 locs → W p l e R s m args below meth c H1 locs (cells + 1) (slots + N) Q (F0 m (pc + 2) ls (.ref q :: rest))) : W p l e R s m args below meth c H locs cells slots Q (F0 m pc ls (.int n :: rest)) := by
  refine va_newa (a0 := (N, .inl (fun _ => 0))) (atype := .byte) hx hb (hts _ xac_byte) rfl hK hP hD hS hA (fun _ => rfl) hn hN hby hc hs hdg (fun q cB H1 hK1 hP1 hD1 hS1 => ?_)
  have h1 : s.vm.findClass ("[" ++ (FieldType.byte).toString) = some cB := (hK1.2 4 _ rfl).2
  have h2 : s.vm.findClass ("[" ++ (FieldType.byte).toString) = some (g.cA 2) := (hK.2 2 _ rfl).2
  cases h1.symm.trans h2
  exact kk q H1 hP1 hD1 hS1
theorem kn_z {n : Int32} {N : Nat} (hx : p.tables.exec = Jvm.exec) (hb : c.code = cc) (hts : ∀ w ∈ lw_g, w.before args s = true) (hK : va_K g.D xcl (xty g.cA) s) (hP : va_P g.D xcl ws H) (hD : va_D A ws) (hS : va_S A H0 H locs) (hA : ∀ q, H0.size ≤ q → A q) (hn : ¬ n < 0) (hN : n.toNatClampNeg = N) (hby : N * 1 ≤ 536870912) (hc : cells + 1 ≤ R.cells) (hs : slots + N ≤ R.slots) (hdg : decode cc pc = .ok (.newarray .boolean, 2))
    (kk : ∀ (q : Nat) (H1 : Heap), va_P g.D xcl (ws ++ [(q, .inl (g.cA 3, N, .inl (fun _ => 0)))]) H1 → va_D A (ws ++ [(q, .inl (g.cA 3, N, .inl (fun _ => 0)))]) → va_S A H0 H1 locs → W p l e R s m args below meth c H1 locs (cells + 1) (slots + N) Q (F0 m (pc + 2) ls (.ref q :: rest))) : W p l e R s m args below meth c H locs cells slots Q (F0 m pc ls (.int n :: rest)) := by
  refine va_newa (a0 := (N, .inl (fun _ => 0))) (atype := .boolean) hx hb (hts _ xac_boolean) rfl hK hP hD hS hA (fun _ => rfl) hn hN hby hc hs hdg (fun q cB H1 hK1 hP1 hD1 hS1 => ?_)
  have h1 : s.vm.findClass ("[" ++ (FieldType.boolean).toString) = some cB := (hK1.2 4 _ rfl).2
  have h2 : s.vm.findClass ("[" ++ (FieldType.boolean).toString) = some (g.cA 3) := (hK.2 3 _ rfl).2
  cases h1.symm.trans h2
  exact kk q H1 hP1 hD1 hS1
/-- putfield of a constructor, final fields and others -/
theorem kp_f {own : String} {a ix ci k q0 : Nat} {C : String} {T : u_T} {N : Nat} {ty0 : Nat → FieldType} {fs fs' : List Value} {v : Value} {ws' : va_W} (hx : p.tables.exec = Jvm.exec) (hb : c.code = cc) (hts : ∀ w ∈ lw_g, w.before args s = true) (hown : s.vm.findClass own = some m.cls) (hin2 : meth.name = "<init>") (hK : va_K g.D xcl (xty g.cA) s) (hP : va_P g.D xcl ws H) (hD : va_D A ws) (hS : va_S A H0 H locs) (hc : xcl[ci]? = some (C, T, N)) (hin : ∀ w ∈ u_ws C T N, w ∈ lw_g) (hty : ∀ k, k < N → parseFieldDescriptor (T k).2.2.1 = some (ty0 k)) (hnm : ∀ a, a < N → ∀ b, b < N → a ≠ b → (T a).2.1 ≠ (T b).2.1)
    (hl : Cond.fieldLink own ix (T k).1 (T k).2.1 (T k).2.2.1 ∈ lw_g) (hk : k < N) (he : ws[q0]? = some (a, .inr (ci, fs))) (hdecl : (T k).1 = own) (hn : narrow (ty0 k) v = v) (hfit : fits (ty0 k) v = true) (hlen : k < fs.length) (hset : fs.set k v = fs') (hws : ws.set q0 (a, .inr (ci, fs')) = ws') (hdg : decode cc pc = .ok (.putfield ix, 3))
    (kk : ∀ (H1 : Heap) (locs1 : List Loc), va_P g.D xcl ws' H1 → va_D A ws' → va_S A H0 H1 locs1 → W p l e R s m args below meth c H1 locs1 cells slots Q (F0 m (pc + 3) ls rest)) : W p l e R s m args below meth c H locs cells slots Q (F0 m pc ls (v :: .ref a :: rest)) := by
  subst hset; subst hws
  cases hf : (T k).2.2.2 with
  | true => exact va_putF hx hb hts hin ty0 hty hnm hown hK hP hD hS q0 he hc k hk (hts _ hl) (fun _ h9 => h9) hf hin2 hdecl (hty k hk) hn hfit hlen hdg kk
  | false => exact va_put hx hb hts hin ty0 hty hnm hown hK hP hD hS q0 he hc k hk (hts _ hl) (fun _ h9 => h9) hf (hty k hk) hn hfit hlen hdg kk
end KN
section KC
variable {p : Program} {l : Launch} {e : Env} {R : Room} {s : State} {m : MethodId} {args : Array Value} {below : List Frame} {meth : Method} {c : Code} {H : Heap} {locs : List Loc} {cells slots : Nat} {Q : State → Prop}
variable {g : XG} {own : String} {cc : ByteArray} {nL pc : Nat} {ls : Array Slot} {rest : List Value} {A : Nat → Prop} {ws ws' : va_W}
/-- a static row copied into a row of a world -/
theorem kcp_t {k q1 a n2 ix : Nat} {en : String × String × List Int32} {sp dp n : Int32} {f : Nat → Int32} (hx : p.tables.exec = Jvm.exec) (hb : c.code = cc) (hml : c.maxLocals = nL) (hown : s.vm.findClass own = some m.cls) (hts : ∀ w ∈ lw_g, w.before args s = true) (hK : va_K g.D xcl (xty g.cA) s) (hP : va_P g.D xcl ws H) (hD : va_D A ws) (hS : va_S A s.heap H locs) (hcs : xcs A g s s.heap) (hi : xst[k]? = some en) (ha1 : ws[q1]? = some (a, .inl (g.cA 0, n2, .inl f))) (hg : cpb sp dp n en.2.2.length n2 = true) (hl : Cond.methodLink own ix ⟨"java/lang/System", "arraycopy", "(Ljava/lang/Object;ILjava/lang/Object;II)V"⟩ ∈ lw_g) (hfr : 1 ≤ R.frames) (hlo : 60 ≤ R.locals) (hls : ls.size = nL) (hroom : (rest.map fun v => v.category).sum ≤ 8) (hws : ws.set q1 (a, .inl (g.cA 0, n2, .inl (va_cpy (fun j => en.2.2.getD j 0) f sp.toNatClampNeg dp.toNatClampNeg n.toNatClampNeg))) = ws') (hdg : decode cc pc = .ok (.invokestatic ix, 3))
    (kk : ∀ (H1 : Heap) (locs1 : List Loc), va_P g.D xcl ws' H1 → va_D A ws' → va_S A s.heap H1 locs1 → W p l e R s m args below meth c H1 locs1 cells slots Q (F0 m (pc + 3) ls rest)) : W p l e R s m args below meth c H locs cells slots Q (F0 m pc ls (.int n :: .int dp :: .ref a :: .int sp :: .ref (g.ts k) :: rest)) := by
  subst hws
  obtain ⟨a1, a2, a3, a4, a5⟩ := of_decide_eq_true hg
  have nn : ∀ z : Int32, ¬ z < 0 → z.toInt = (z.toNatClampNeg : Int) := by
    intro z hz
    have hz0 : (0 : Int) ≤ z.toInt := by
      have := Int32.not_lt.mp hz
      simpa using Int32.le_iff_toInt_le.mp this
    show z.toInt = ((z.toInt.toNat : Nat) : Int)
    omega
  have hlt : nativeFrameWords "java/lang/System" "arraycopy" 5 + 11 ≤ 52 := by decide +kernel
  intro T hT X
  obtain ⟨scr, hs1, hs2, hs3, hs4, -, hs5, hs7⟩ := (hcs.1 k en hi).2
  have hc0 : H[g.ts k]? = some scr := by rw [hS.2.1 _ (Array.getElem?_eq_some_iff.mp hs1).1 hs7]; exact hs1
  have hc1 : H[a]? = some (vp_cell (g.cA 0) (n2, .inl f)) := hP q1 _ ha1
  obtain ⟨hs6, k0, hk0, cm0, hkk0⟩ := hs2
  obtain ⟨-, k1, hk1, cm1, hkk1⟩ := (hK.2 0 (g.cA 0, .int) rfl).1 n2 (fun j => .int (f j))
  obtain ⟨vm', X', step⟩ := X.arraycopy hx hown (hts _ hl) (hts _ xacn) (hts _ xacs) (hts _ xaci) (src := g.ts k) (dst := a) (cs := scr) (cd := vp_cell (g.cA 0) (n2, .inl f)) (srcPos := sp) (destPos := dp) (n := n) (by rw [hT]; exact hc0) (by rw [hT]; exact hc1)
    hs6 (fun _ h => by cases h) hs3 (fun h => by cases h) hk0 hk1 hkk0 hkk1 (by simp [refKind]) a1 a2 a3
    (by rw [nn sp a1, nn n a3]; omega)
    (by rw [nn dp a2, nn n a3]; show ¬ _ > ((arrV (g.cA 0) n2 (fun j => .int (f j))).slots.size : Int); rw [arrV_size]; omega)
    (fun vm₁ _ i hi => by
      have e : scr.slots.getD (sp.toNatClampNeg + i) .null = .int (en.2.2.getD (sp.toNatClampNeg + i) 0) := by
        rw [Array.getD_eq_getD_getElem?, hs5 _ (by omega)]
        rfl
      refine ⟨?_, ?_⟩
      · rw [e]
        rfl
      · rw [e]
        exact trivial)
    (g := F0 m pc ls (.int n :: .int dp :: .ref a :: .int sp :: .ref (g.ts k) :: rest)) rfl (by rw [hml]; exact hls) (rest := rest) rfl (by rw [hb]; exact hdg) hfr (by show 2 * 0 + _ + _ ≤ _; omega)
  have e1 : copied scr (vp_cell (g.cA 0) (n2, .inl f)) sp dp n = vp_cell (g.cA 0) (n2, .inl (va_cpy (fun j => en.2.2.getD j 0) f sp.toNatClampNeg dp.toNatClampNeg n.toNatClampNeg)) := va_copiedX (fun z => .int z) scr (g.cA 0) (fun j => en.2.2.getD j 0) f hs5 a4
  rw [e1] at X' step
  have hl2 : a < H.size := (Array.getElem?_eq_some_iff.mp hc1).1
  have hheap : ((T.setVm vm').setCell a (vp_cell (g.cA 0) (n2, .inl (va_cpy (fun j => en.2.2.getD j 0) f sp.toNatClampNeg dp.toNatClampNeg n.toNatClampNeg)))).heap = H.setIfInBounds a (vp_cell (g.cA 0) (n2, .inl (va_cpy (fun j => en.2.2.getD j 0) f sp.toNatClampNeg dp.toNatClampNeg n.toNatClampNeg))) := by rw [← hT]; rfl
  have oq : ∀ q : Nat, q ≠ a → (H.setIfInBounds a (vp_cell (g.cA 0) (n2, .inl (va_cpy (fun j => en.2.2.getD j 0) f sp.toNatClampNeg dp.toNatClampNeg n.toNatClampNeg))))[q]? = H[q]? := fun q hq => by simp [Array.getElem?_setIfInBounds, Ne.symm hq]
  obtain ⟨t, b1, b2⟩ := kk _ _ (hP.set hD ha1 (show (H.setIfInBounds a _)[a]? = some _ by simp [Array.getElem?_setIfInBounds, hl2]) oq) (hD.set ha1) ⟨by simp; exact hS.1, fun q g1 g2 => by
      rw [oq q (fun e => g2 (by rw [e]; exact hD.2 q1 _ ha1))]
      exact hS.2.1 q g1 g2, fun q hq => by
      rcases List.mem_append.mp hq with h | h
      · exact hS.2.2 q h
      · obtain ⟨z, -, hz⟩ := List.mem_map.mp h
        rw [← hz]
        exact hD.2 q1 _ ha1⟩ _ hheap X'
  exact ⟨t, step t b1, b2⟩
/-- a call on a system of cells, from code that has more cells than these -/
theorem lc_V {K : List Lk} {σ σ' : St} {y : MethodName} {bytes : ByteArray} {maxL n ix o ci : Nat} {ret : Option FieldType} {rm : Room} {As : List Value} {res : Option Value} {fts : List (Nat × Nat)} {st0 : List Value} (hx : p.tables.exec = Jvm.exec) (hb : c.code = cc) (hml : c.maxLocals = nL) (hown : s.vm.findClass own = some m.cls) (hts : ∀ w ∈ lw_g, w.before args s = true) (hK : va_K g.D xcl (xty g.cA) s) (hxD : xD K g.q) (hok : xok K) (hcs : xcs (xA K g.q) g s H) (hP : va_P g.D xcl (xws K g.cA g.q σ) H) (hS : va_S A s.heap H locs) (hA0 : ∀ a, xA K g.q a → A a)
    (hM : xM l K g y bytes maxL ret rm (.ref (g.q o) :: As) σ res σ') (hf : xMf y bytes maxL ret n) (hv : xMv y) (hl : Cond.methodLink own ix y ∈ lw_g) (hrc : rm.cells = 0 ∧ rm.slots = 0) (hR : rm.frames + 1 ≤ R.frames ∧ 8 + (maxL + 11) + rm.locals ≤ R.locals) (hk : K[o]? = some (.inl (ci, fts))) (hc : xcl[ci]?.map (fun q => q.1) = some y.cls) (hls : ls.size = nL) (hn : As.length = n) (hst : st0 = As.reverse ++ .ref (g.q o) :: rest) (hroom : (rest.map fun v => v.category).sum ≤ 8) (hdg : decode cc pc = .ok (.invokevirtual ix, 3)) (hcell : cells + 0 ≤ R.cells ∧ slots + 0 ≤ R.slots)
    (kk : ∀ (H1 : Heap) (locs1 : List Loc), va_P g.D xcl (xws K g.cA g.q σ') H1 → H.size ≤ H1.size → (∀ a, a < H.size → ¬ xA K g.q a → H1[a]? = H[a]?) → va_S A s.heap H1 locs1 → W p l e R s m args below meth c H1 locs1 cells slots Q (F0 m (pc + 3) ls (res.toList ++ rest))) : W p l e R s m args below meth c H locs cells slots Q (F0 m pc ls st0) := by
  obtain ⟨q0, hq0, hq1⟩ : ∃ q0 : vw_C, xcl[ci]? = some q0 ∧ q0.1 = y.cls := by
    cases h : xcl[ci]? with
    | none => rw [h] at hc; cases hc
    | some q0 => rw [h] at hc; exact ⟨q0, rfl, Option.some.inj hc⟩
  have hg : GoodIn lw_g (wsV own ix y.cls y (.code y bytes maxL ret :: lw_g)) := fun w hw => by
    rcases List.mem_append.mp hw with h | h
    · simp only [List.mem_cons, List.not_mem_nil, or_false] at h
      rcases h with rfl | rfl | rfl | rfl
      · exact ⟨hl, lw_g_good _ hl⟩
      · exact ⟨hv.1, lw_g_good _ hv.1⟩
      · exact ⟨hv.2, lw_g_good _ hv.2⟩
      · exact ⟨hf.2.1, lw_g_good _ hf.2.1⟩
    · exact xgood hf w h
  have cw := cwV (R := R) (s := s) (args := args) (own := own) (C := y.cls) (index := ix) (y := y) (bytes := bytes) (maxL := maxL) (ret := ret) (ws := .code y bytes maxL ret :: lw_g) (rm := rm) (mc := 0) (ms := 0) n hts hg rfl hrc.1 hrc.2 ⟨rfl, hf.2.2⟩ hR
  have hrecv := va_recv (s := s) hK hP hq0 (xobj hk)
  rw [hq1] at hrecv
  have hr := va_runV (p := p) (l := l) (e := e) (below := below) (meth := meth) (locs := locs) (cells := cells) (slots := slots) (As := As) (rest := rest) (g := F0 m pc ls st0) ⟨hx, hb, hml, hown, hts⟩ hM cw ⟨xblind K g _ σ, hrecv, fun U hU hw => ⟨rfl, by rw [hU]; exact hP, va_K.moved hw.alike hK, hxD, hok, by rw [hU]; exact hcs.warm hw⟩⟩ rfl hn hls hst (lv_room hroom) hdg hcell
  intro T hT X
  obtain ⟨v, st₀, t, T', L, h0, X', hL, e1, e2, ⟨hv2, hp, hz, hk2⟩, st⟩ := hr T hT X
  cases hv2
  rw [h0] at hz hk2
  obtain ⟨t2, a1, b1⟩ := kk T'.heap (locs ++ L) (by rw [e1]; exact hp) (by rw [e1]; exact hz) (fun a h1 h2 => by rw [e1]; exact hk2 a h1 h2) ⟨Nat.le_trans hS.1 (by rw [e1]; exact hz), fun q h1 h2 => by
      rw [e1, hk2 q (Nat.lt_of_lt_of_le h1 hS.1) (fun z => h2 (hA0 q z))]; exact hS.2.1 q h1 h2, fun q hq => by
      rcases List.mem_append.mp hq with h | h
      · exact hS.2.2 q h
      · exact hA0 _ (hL q h)⟩ T' rfl X'
  exact ⟨t2, st t2 a1, b1⟩
end KC

theorem dX8_init_0 : decode cX8_init 0 = .ok (.aload_n 0, 1) := by decide +kernel
theorem dX8_init_1 : decode cX8_init 1 = .ok (.invokespecial 3, 3) := by decide +kernel
theorem dX8_init_4 : decode cX8_init 4 = .ok (.aload_n 0, 1) := by decide +kernel
theorem dX8_init_5 : decode cX8_init 5 = .ok (.sipush 800, 3) := by decide +kernel
theorem dX8_init_8 : decode cX8_init 8 = .ok (.newarray .byte, 2) := by decide +kernel
theorem dX8_init_10 : decode cX8_init 10 = .ok (.putfield 11, 3) := by decide +kernel
theorem dX8_init_13 : decode cX8_init 13 = .ok (.aload_n 0, 1) := by decide +kernel
theorem dX8_init_14 : decode cX8_init 14 = .ok (.iconst (-1), 1) := by decide +kernel
theorem dX8_init_15 : decode cX8_init 15 = .ok (.putfield 15, 3) := by decide +kernel
theorem dX8_init_18 : decode cX8_init 18 = .ok (.return_, 1) := by decide +kernel
set_option maxHeartbeats 4000000 in
set_option maxRecDepth 100000 in
theorem k_X8_init {l : Launch} {g : XG} (h0 sz : Nat) : Met l yX8_init (.code yX8_init cX8_init 1 none :: lw_g) { frames := 1, cells := 1, slots := 800, locals := 60 } (va_Pc [.ref h0] (fun U => U.heap.size = sz ∧ va_P g.D xcl [(h0, .inr (8, [.null, .int 0, .int 0, .int 0, .int 0, .int 0, .long 0, .int 0, .int 0, .int 0, .int 0, .int 0, .int 0]))] U.heap ∧ va_K g.D xcl (xty g.cA) U ∧ va_D (fun _ => True) [(h0, .inr (8, [.null, .int 0, .int 0, .int 0, .int 0, .int 0, .long 0, .int 0, .int 0, .int 0, .int 0, .int 0, .int 0]))] ∧ xcs (va_A [(h0, .inr (8, [.null, .int 0, .int 0, .int 0, .int 0, .int 0, .long 0, .int 0, .int 0, .int 0, .int 0, .int 0, .int 0]))] sz) g U U.heap)) (va_Qv (fun _ : Unit => True) (fun _ t => ∃ (q1 : Nat), va_P g.D xcl [(h0, .inr (8, [.ref q1, .int 0, .int 0, .int 0, .int 0, .int 0, .long 0, .int 0, .int 0, .int 0, .int 0, .int 0, .int (-1)])), (q1, .inl (g.cA 2, 800, .inl (fun _ => 0)))] t.heap ∧ va_D (va_A [(h0, .inr (8, [.null, .int 0, .int 0, .int 0, .int 0, .int 0, .long 0, .int 0, .int 0, .int 0, .int 0, .int 0, .int 0]))] sz) [(h0, .inr (8, [.ref q1, .int 0, .int 0, .int 0, .int 0, .int 0, .long 0, .int 0, .int 0, .int 0, .int 0, .int 0, .int (-1)])), (q1, .inl (g.cA 2, 800, .inl (fun _ => 0)))]) (va_A [(h0, .inr (8, [.null, .int 0, .int 0, .int 0, .int 0, .int 0, .long 0, .int 0, .int 0, .int 0, .int 0, .int 0, .int 0]))] sz)) 1 800 (va_A [(h0, .inr (8, [.null, .int 0, .int 0, .int 0, .int 0, .int 0, .long 0, .int 0, .int 0, .int 0, .int 0, .int 0, .int 0]))] sz) := by
  refine Met.ofW (cc := cX8_init) (maxL := 1) (ret := none) pn_X8 rfl ?_
  intro p e s m args below meth c s₁ B hml hv
  obtain ⟨rfl, hsz, hP, hK, hD0, hcs⟩ := hv
  have hx := B.exec
  have hb := B.bytes
  have hr := B.returns
  have hts1 := atoms_spec (ws := .code yX8_init cX8_init 1 none :: lw_g) B.pre
  have hts : ∀ w ∈ lw_g, w.before _ s = true := fun w hw => hts1 w (List.mem_cons_of_mem _ hw)
  have hown : s.vm.findClass RX8 = some m.cls := findClass_of_methodNamed B.named
  have hlocks := B.notSynchronized
  have hin : meth.name = "<init>" := (name_of_methodNamed B.named B.method).1
  subst hsz
  have hD := hD0.self (sz := s.heap.size)
  generalize hAe : va_A [(h0, .inr (8, [.null, .int 0, .int 0, .int 0, .int 0, .int 0, .long 0, .int 0, .int 0, .int 0, .int 0, .int 0, .int 0]))] s.heap.size = A at hD hcs ⊢
  have hA : ∀ q : Nat, s.heap.size ≤ q → A q := fun q h => by rw [← hAe]; exact Or.inr h
  have hS : va_S A s.heap s.heap [] := va_S.rf
  have hP : va_P g.D xcl [(h0, .inr (8, [.null, .int 0, .int 0, .int 0, .int 0, .int 0, .long 0, .int 0, .int 0, .int 0, .int 0, .int 0, .int 0]))] s.heap := hP
  have hl := lv_entry ([.ref h0]) (n := 1) (Nat.le_of_ble_eq_true rfl)
  rw [lg_entry_eq]
  generalize (lg_sl ([.ref h0]) ++ List.replicate (1 - (lg_sl ([.ref h0])).length) Slot.unset).toArray = ls at hl ⊢
  have hl : lv_has ls 1 [(0, .ref h0)] := hl
  refine lv_aload_n hx hb dX8_init_0 rfl (lv_at hl 0 rfl) ?_
  refine W.objInit hx hb hown (hts _ ml_X8_3) (hts _ xoi_i) (hts _ xoi_c) rfl (by rw [hml]; exact hl.1) rfl dX8_init_1 (Nat.le_of_ble_eq_true rfl) (Nat.le_of_ble_eq_true rfl) ?_
  refine W.eq (g2 := F0 m 4 ls []) rfl ?_
  refine lv_aload_n hx hb dX8_init_4 rfl (lv_at hl 0 rfl) ?_
  refine lv_sipush (v := 800) hx hb dX8_init_5 rfl ?_
  refine kn_b (N := 800) hx hb hts hK hP hD hS hA (by decide) rfl (Nat.le_of_ble_eq_true rfl) (Nat.le_of_ble_eq_true rfl) (Nat.le_of_ble_eq_true rfl) dX8_init_8 (fun q1 H hP hD hS => ?_)
  refine W.widen (k := 1) (n := 800) (Nat.le_of_ble_eq_true rfl) (Nat.le_of_ble_eq_true rfl) ?_
  have hP : va_P g.D xcl [(h0, .inr (8, [.null, .int 0, .int 0, .int 0, .int 0, .int 0, .long 0, .int 0, .int 0, .int 0, .int 0, .int 0, .int 0])), (q1, .inl (g.cA 2, 800, .inl (fun _ => 0)))] H := hP
  have hD : va_D A [(h0, .inr (8, [.null, .int 0, .int 0, .int 0, .int 0, .int 0, .long 0, .int 0, .int 0, .int 0, .int 0, .int 0, .int 0])), (q1, .inl (g.cA 2, 800, .inl (fun _ => 0)))] := hD
  refine kp_f (ci := 8) (k := 0) (q0 := 0) (ws' := [(h0, .inr (8, [.ref q1, .int 0, .int 0, .int 0, .int 0, .int 0, .long 0, .int 0, .int 0, .int 0, .int 0, .int 0, .int 0])), (q1, .inl (g.cA 2, 800, .inl (fun _ => 0)))]) hx hb hts hown hin hK hP hD hS rfl igX8 tyX8_ok nmX8 fl_8_11 (Nat.le_of_ble_eq_true rfl) rfl rfl rfl rfl (Nat.le_of_ble_eq_true rfl) rfl rfl dX8_init_10 (fun H locs hP hD hS => ?_)
  refine lv_aload_n hx hb dX8_init_13 rfl (lv_at hl 0 rfl) ?_
  refine lv_iconst (v := (-1)) hx hb dX8_init_14 rfl ?_
  refine kp_f (ci := 8) (k := 12) (q0 := 0) (ws' := [(h0, .inr (8, [.ref q1, .int 0, .int 0, .int 0, .int 0, .int 0, .long 0, .int 0, .int 0, .int 0, .int 0, .int 0, .int (-1)])), (q1, .inl (g.cA 2, 800, .inl (fun _ => 0)))]) hx hb hts hown hin hK hP hD hS rfl igX8 tyX8_ok nmX8 fl_8_15 (Nat.le_of_ble_eq_true rfl) rfl rfl rfl rfl (Nat.le_of_ble_eq_true rfl) rfl rfl dX8_init_15 (fun H locs hP hD hS => ?_)
  exact W.vret hx hb hr (fun t ht hW => ⟨⟨(), rfl, trivial, q1, by rw [ht]; exact hP, hD⟩, hS.F ht⟩) hS.2.2 dX8_init_18
theorem dX6_init_0 : decode cX6_init 0 = .ok (.aload_n 0, 1) := by decide +kernel
theorem dX6_init_1 : decode cX6_init 1 = .ok (.invokespecial 3, 3) := by decide +kernel
theorem dX6_init_4 : decode cX6_init 4 = .ok (.aload_n 0, 1) := by decide +kernel
theorem dX6_init_5 : decode cX6_init 5 = .ok (.bipush 40, 2) := by decide +kernel
theorem dX6_init_7 : decode cX6_init 7 = .ok (.newarray .long, 2) := by decide +kernel
theorem dX6_init_9 : decode cX6_init 9 = .ok (.putfield 11, 3) := by decide +kernel
theorem dX6_init_12 : decode cX6_init 12 = .ok (.aload_n 0, 1) := by decide +kernel
theorem dX6_init_13 : decode cX6_init 13 = .ok (.bipush 40, 2) := by decide +kernel
theorem dX6_init_15 : decode cX6_init 15 = .ok (.newarray .int, 2) := by decide +kernel
theorem dX6_init_17 : decode cX6_init 17 = .ok (.putfield 15, 3) := by decide +kernel
theorem dX6_init_20 : decode cX6_init 20 = .ok (.aload_n 0, 1) := by decide +kernel
theorem dX6_init_21 : decode cX6_init 21 = .ok (.bipush 40, 2) := by decide +kernel
theorem dX6_init_23 : decode cX6_init 23 = .ok (.newarray .int, 2) := by decide +kernel
theorem dX6_init_25 : decode cX6_init 25 = .ok (.putfield 19, 3) := by decide +kernel
theorem dX6_init_28 : decode cX6_init 28 = .ok (.aload_n 0, 1) := by decide +kernel
theorem dX6_init_29 : decode cX6_init 29 = .ok (.bipush 40, 2) := by decide +kernel
theorem dX6_init_31 : decode cX6_init 31 = .ok (.newarray .int, 2) := by decide +kernel
theorem dX6_init_33 : decode cX6_init 33 = .ok (.putfield 22, 3) := by decide +kernel
theorem dX6_init_36 : decode cX6_init 36 = .ok (.aload_n 0, 1) := by decide +kernel
theorem dX6_init_37 : decode cX6_init 37 = .ok (.bipush 40, 2) := by decide +kernel
theorem dX6_init_39 : decode cX6_init 39 = .ok (.newarray .int, 2) := by decide +kernel
theorem dX6_init_41 : decode cX6_init 41 = .ok (.putfield 25, 3) := by decide +kernel
theorem dX6_init_44 : decode cX6_init 44 = .ok (.aload_n 0, 1) := by decide +kernel
theorem dX6_init_45 : decode cX6_init 45 = .ok (.bipush 40, 2) := by decide +kernel
theorem dX6_init_47 : decode cX6_init 47 = .ok (.newarray .int, 2) := by decide +kernel
theorem dX6_init_49 : decode cX6_init 49 = .ok (.putfield 28, 3) := by decide +kernel
theorem dX6_init_52 : decode cX6_init 52 = .ok (.aload_n 0, 1) := by decide +kernel
theorem dX6_init_53 : decode cX6_init 53 = .ok (.bipush 40, 2) := by decide +kernel
theorem dX6_init_55 : decode cX6_init 55 = .ok (.newarray .long, 2) := by decide +kernel
theorem dX6_init_57 : decode cX6_init 57 = .ok (.putfield 31, 3) := by decide +kernel
theorem dX6_init_60 : decode cX6_init 60 = .ok (.aload_n 0, 1) := by decide +kernel
theorem dX6_init_61 : decode cX6_init 61 = .ok (.iconst 4, 1) := by decide +kernel
theorem dX6_init_62 : decode cX6_init 62 = .ok (.newarray .int, 2) := by decide +kernel
theorem dX6_init_64 : decode cX6_init 64 = .ok (.putfield 34, 3) := by decide +kernel
theorem dX6_init_67 : decode cX6_init 67 = .ok (.getstatic 37, 3) := by decide +kernel
theorem dX6_init_70 : decode cX6_init 70 = .ok (.iconst 0, 1) := by decide +kernel
theorem dX6_init_71 : decode cX6_init 71 = .ok (.aload_n 0, 1) := by decide +kernel
theorem dX6_init_72 : decode cX6_init 72 = .ok (.getfield 34, 3) := by decide +kernel
theorem dX6_init_75 : decode cX6_init 75 = .ok (.iconst 0, 1) := by decide +kernel
theorem dX6_init_76 : decode cX6_init 76 = .ok (.iconst 4, 1) := by decide +kernel
theorem dX6_init_77 : decode cX6_init 77 = .ok (.invokestatic 40, 3) := by decide +kernel
theorem dX6_init_80 : decode cX6_init 80 = .ok (.return_, 1) := by decide +kernel
set_option maxHeartbeats 4000000 in
set_option maxRecDepth 100000 in
theorem k_X6_init {l : Launch} {g : XG} (h0 sz : Nat) : Met l yX6_init (.code yX6_init cX6_init 1 none :: lw_g) { frames := 1, cells := 8, slots := 284, locals := 60 } (va_Pc [.ref h0] (fun U => U.heap.size = sz ∧ va_P g.D xcl [(h0, .inr (6, [.int 0, .null, .null, .null, .null, .null, .null, .null, .null, .int 0]))] U.heap ∧ va_K g.D xcl (xty g.cA) U ∧ va_D (fun _ => True) [(h0, .inr (6, [.int 0, .null, .null, .null, .null, .null, .null, .null, .null, .int 0]))] ∧ xcs (va_A [(h0, .inr (6, [.int 0, .null, .null, .null, .null, .null, .null, .null, .null, .int 0]))] sz) g U U.heap)) (va_Qv (fun _ : Unit => True) (fun _ t => ∃ (q1 q2 q3 q4 q5 q6 q7 q8 : Nat), va_P g.D xcl [(h0, .inr (6, [.int 0, .ref q1, .ref q2, .ref q3, .ref q4, .ref q5, .ref q6, .ref q7, .ref q8, .int 0])), (q1, .inl (g.cA 1, 40, .inr (.inl (fun _ => 0)))), (q2, .inl (g.cA 0, 40, .inl (fun _ => 0))), (q3, .inl (g.cA 0, 40, .inl (fun _ => 0))), (q4, .inl (g.cA 0, 40, .inl (fun _ => 0))), (q5, .inl (g.cA 0, 40, .inl (fun _ => 0))), (q6, .inl (g.cA 0, 40, .inl (fun _ => 0))), (q7, .inl (g.cA 1, 40, .inr (.inl (fun _ => 0)))), (q8, .inl (g.cA 0, 4, .inl (va_cpy (fun j => st_0.getD j 0) (fun _ => 0) 0 0 4)))] t.heap ∧ va_D (va_A [(h0, .inr (6, [.int 0, .null, .null, .null, .null, .null, .null, .null, .null, .int 0]))] sz) [(h0, .inr (6, [.int 0, .ref q1, .ref q2, .ref q3, .ref q4, .ref q5, .ref q6, .ref q7, .ref q8, .int 0])), (q1, .inl (g.cA 1, 40, .inr (.inl (fun _ => 0)))), (q2, .inl (g.cA 0, 40, .inl (fun _ => 0))), (q3, .inl (g.cA 0, 40, .inl (fun _ => 0))), (q4, .inl (g.cA 0, 40, .inl (fun _ => 0))), (q5, .inl (g.cA 0, 40, .inl (fun _ => 0))), (q6, .inl (g.cA 0, 40, .inl (fun _ => 0))), (q7, .inl (g.cA 1, 40, .inr (.inl (fun _ => 0)))), (q8, .inl (g.cA 0, 4, .inl (va_cpy (fun j => st_0.getD j 0) (fun _ => 0) 0 0 4)))]) (va_A [(h0, .inr (6, [.int 0, .null, .null, .null, .null, .null, .null, .null, .null, .int 0]))] sz)) 8 284 (va_A [(h0, .inr (6, [.int 0, .null, .null, .null, .null, .null, .null, .null, .null, .int 0]))] sz) := by
  refine Met.ofW (cc := cX6_init) (maxL := 1) (ret := none) pn_X6 rfl ?_
  intro p e s m args below meth c s₁ B hml hv
  obtain ⟨rfl, hsz, hP, hK, hD0, hcs⟩ := hv
  have hx := B.exec
  have hb := B.bytes
  have hr := B.returns
  have hts1 := atoms_spec (ws := .code yX6_init cX6_init 1 none :: lw_g) B.pre
  have hts : ∀ w ∈ lw_g, w.before _ s = true := fun w hw => hts1 w (List.mem_cons_of_mem _ hw)
  have hown : s.vm.findClass RX6 = some m.cls := findClass_of_methodNamed B.named
  have hlocks := B.notSynchronized
  have hin : meth.name = "<init>" := (name_of_methodNamed B.named B.method).1
  subst hsz
  have hD := hD0.self (sz := s.heap.size)
  generalize hAe : va_A [(h0, .inr (6, [.int 0, .null, .null, .null, .null, .null, .null, .null, .null, .int 0]))] s.heap.size = A at hD hcs ⊢
  have hA : ∀ q : Nat, s.heap.size ≤ q → A q := fun q h => by rw [← hAe]; exact Or.inr h
  have hS : va_S A s.heap s.heap [] := va_S.rf
  have hP : va_P g.D xcl [(h0, .inr (6, [.int 0, .null, .null, .null, .null, .null, .null, .null, .null, .int 0]))] s.heap := hP
  have hl := lv_entry ([.ref h0]) (n := 1) (Nat.le_of_ble_eq_true rfl)
  rw [lg_entry_eq]
  generalize (lg_sl ([.ref h0]) ++ List.replicate (1 - (lg_sl ([.ref h0])).length) Slot.unset).toArray = ls at hl ⊢
  have hl : lv_has ls 1 [(0, .ref h0)] := hl
  refine lv_aload_n hx hb dX6_init_0 rfl (lv_at hl 0 rfl) ?_
  refine W.objInit hx hb hown (hts _ ml_X6_3) (hts _ xoi_i) (hts _ xoi_c) rfl (by rw [hml]; exact hl.1) rfl dX6_init_1 (Nat.le_of_ble_eq_true rfl) (Nat.le_of_ble_eq_true rfl) ?_
  refine W.eq (g2 := F0 m 4 ls []) rfl ?_
  refine lv_aload_n hx hb dX6_init_4 rfl (lv_at hl 0 rfl) ?_
  refine lv_bipush (v := 40) hx hb dX6_init_5 rfl ?_
  refine kn_l (N := 40) hx hb hts hK hP hD hS hA (by decide) rfl (Nat.le_of_ble_eq_true rfl) (Nat.le_of_ble_eq_true rfl) (Nat.le_of_ble_eq_true rfl) dX6_init_7 (fun q1 H hP hD hS => ?_)
  refine W.widen (k := 1) (n := 40) (Nat.le_of_ble_eq_true rfl) (Nat.le_of_ble_eq_true rfl) ?_
  have hP : va_P g.D xcl [(h0, .inr (6, [.int 0, .null, .null, .null, .null, .null, .null, .null, .null, .int 0])), (q1, .inl (g.cA 1, 40, .inr (.inl (fun _ => 0))))] H := hP
  have hD : va_D A [(h0, .inr (6, [.int 0, .null, .null, .null, .null, .null, .null, .null, .null, .int 0])), (q1, .inl (g.cA 1, 40, .inr (.inl (fun _ => 0))))] := hD
  refine kp_f (ci := 6) (k := 1) (q0 := 0) (ws' := [(h0, .inr (6, [.int 0, .ref q1, .null, .null, .null, .null, .null, .null, .null, .int 0])), (q1, .inl (g.cA 1, 40, .inr (.inl (fun _ => 0))))]) hx hb hts hown hin hK hP hD hS rfl igX6 tyX6_ok nmX6 fl_6_11 (Nat.le_of_ble_eq_true rfl) rfl rfl rfl rfl (Nat.le_of_ble_eq_true rfl) rfl rfl dX6_init_9 (fun H locs hP hD hS => ?_)
  refine lv_aload_n hx hb dX6_init_12 rfl (lv_at hl 0 rfl) ?_
  refine lv_bipush (v := 40) hx hb dX6_init_13 rfl ?_
  refine kn_i (N := 40) hx hb hts hK hP hD hS hA (by decide) rfl (Nat.le_of_ble_eq_true rfl) (Nat.le_of_ble_eq_true rfl) (Nat.le_of_ble_eq_true rfl) dX6_init_15 (fun q2 H hP hD hS => ?_)
  refine W.widen (k := 2) (n := 80) (Nat.le_of_ble_eq_true rfl) (Nat.le_of_ble_eq_true rfl) ?_
  have hP : va_P g.D xcl [(h0, .inr (6, [.int 0, .ref q1, .null, .null, .null, .null, .null, .null, .null, .int 0])), (q1, .inl (g.cA 1, 40, .inr (.inl (fun _ => 0)))), (q2, .inl (g.cA 0, 40, .inl (fun _ => 0)))] H := hP
  have hD : va_D A [(h0, .inr (6, [.int 0, .ref q1, .null, .null, .null, .null, .null, .null, .null, .int 0])), (q1, .inl (g.cA 1, 40, .inr (.inl (fun _ => 0)))), (q2, .inl (g.cA 0, 40, .inl (fun _ => 0)))] := hD
  refine kp_f (ci := 6) (k := 2) (q0 := 0) (ws' := [(h0, .inr (6, [.int 0, .ref q1, .ref q2, .null, .null, .null, .null, .null, .null, .int 0])), (q1, .inl (g.cA 1, 40, .inr (.inl (fun _ => 0)))), (q2, .inl (g.cA 0, 40, .inl (fun _ => 0)))]) hx hb hts hown hin hK hP hD hS rfl igX6 tyX6_ok nmX6 fl_6_15 (Nat.le_of_ble_eq_true rfl) rfl rfl rfl rfl (Nat.le_of_ble_eq_true rfl) rfl rfl dX6_init_17 (fun H locs hP hD hS => ?_)
  refine lv_aload_n hx hb dX6_init_20 rfl (lv_at hl 0 rfl) ?_
  refine lv_bipush (v := 40) hx hb dX6_init_21 rfl ?_
  refine kn_i (N := 40) hx hb hts hK hP hD hS hA (by decide) rfl (Nat.le_of_ble_eq_true rfl) (Nat.le_of_ble_eq_true rfl) (Nat.le_of_ble_eq_true rfl) dX6_init_23 (fun q3 H hP hD hS => ?_)
  refine W.widen (k := 3) (n := 120) (Nat.le_of_ble_eq_true rfl) (Nat.le_of_ble_eq_true rfl) ?_
  have hP : va_P g.D xcl [(h0, .inr (6, [.int 0, .ref q1, .ref q2, .null, .null, .null, .null, .null, .null, .int 0])), (q1, .inl (g.cA 1, 40, .inr (.inl (fun _ => 0)))), (q2, .inl (g.cA 0, 40, .inl (fun _ => 0))), (q3, .inl (g.cA 0, 40, .inl (fun _ => 0)))] H := hP
  have hD : va_D A [(h0, .inr (6, [.int 0, .ref q1, .ref q2, .null, .null, .null, .null, .null, .null, .int 0])), (q1, .inl (g.cA 1, 40, .inr (.inl (fun _ => 0)))), (q2, .inl (g.cA 0, 40, .inl (fun _ => 0))), (q3, .inl (g.cA 0, 40, .inl (fun _ => 0)))] := hD
  refine kp_f (ci := 6) (k := 3) (q0 := 0) (ws' := [(h0, .inr (6, [.int 0, .ref q1, .ref q2, .ref q3, .null, .null, .null, .null, .null, .int 0])), (q1, .inl (g.cA 1, 40, .inr (.inl (fun _ => 0)))), (q2, .inl (g.cA 0, 40, .inl (fun _ => 0))), (q3, .inl (g.cA 0, 40, .inl (fun _ => 0)))]) hx hb hts hown hin hK hP hD hS rfl igX6 tyX6_ok nmX6 fl_6_19 (Nat.le_of_ble_eq_true rfl) rfl rfl rfl rfl (Nat.le_of_ble_eq_true rfl) rfl rfl dX6_init_25 (fun H locs hP hD hS => ?_)
  refine lv_aload_n hx hb dX6_init_28 rfl (lv_at hl 0 rfl) ?_
  refine lv_bipush (v := 40) hx hb dX6_init_29 rfl ?_
  refine kn_i (N := 40) hx hb hts hK hP hD hS hA (by decide) rfl (Nat.le_of_ble_eq_true rfl) (Nat.le_of_ble_eq_true rfl) (Nat.le_of_ble_eq_true rfl) dX6_init_31 (fun q4 H hP hD hS => ?_)
  refine W.widen (k := 4) (n := 160) (Nat.le_of_ble_eq_true rfl) (Nat.le_of_ble_eq_true rfl) ?_
  have hP : va_P g.D xcl [(h0, .inr (6, [.int 0, .ref q1, .ref q2, .ref q3, .null, .null, .null, .null, .null, .int 0])), (q1, .inl (g.cA 1, 40, .inr (.inl (fun _ => 0)))), (q2, .inl (g.cA 0, 40, .inl (fun _ => 0))), (q3, .inl (g.cA 0, 40, .inl (fun _ => 0))), (q4, .inl (g.cA 0, 40, .inl (fun _ => 0)))] H := hP
  have hD : va_D A [(h0, .inr (6, [.int 0, .ref q1, .ref q2, .ref q3, .null, .null, .null, .null, .null, .int 0])), (q1, .inl (g.cA 1, 40, .inr (.inl (fun _ => 0)))), (q2, .inl (g.cA 0, 40, .inl (fun _ => 0))), (q3, .inl (g.cA 0, 40, .inl (fun _ => 0))), (q4, .inl (g.cA 0, 40, .inl (fun _ => 0)))] := hD
  refine kp_f (ci := 6) (k := 4) (q0 := 0) (ws' := [(h0, .inr (6, [.int 0, .ref q1, .ref q2, .ref q3, .ref q4, .null, .null, .null, .null, .int 0])), (q1, .inl (g.cA 1, 40, .inr (.inl (fun _ => 0)))), (q2, .inl (g.cA 0, 40, .inl (fun _ => 0))), (q3, .inl (g.cA 0, 40, .inl (fun _ => 0))), (q4, .inl (g.cA 0, 40, .inl (fun _ => 0)))]) hx hb hts hown hin hK hP hD hS rfl igX6 tyX6_ok nmX6 fl_6_22 (Nat.le_of_ble_eq_true rfl) rfl rfl rfl rfl (Nat.le_of_ble_eq_true rfl) rfl rfl dX6_init_33 (fun H locs hP hD hS => ?_)
  refine lv_aload_n hx hb dX6_init_36 rfl (lv_at hl 0 rfl) ?_
  refine lv_bipush (v := 40) hx hb dX6_init_37 rfl ?_
  refine kn_i (N := 40) hx hb hts hK hP hD hS hA (by decide) rfl (Nat.le_of_ble_eq_true rfl) (Nat.le_of_ble_eq_true rfl) (Nat.le_of_ble_eq_true rfl) dX6_init_39 (fun q5 H hP hD hS => ?_)
  refine W.widen (k := 5) (n := 200) (Nat.le_of_ble_eq_true rfl) (Nat.le_of_ble_eq_true rfl) ?_
  have hP : va_P g.D xcl [(h0, .inr (6, [.int 0, .ref q1, .ref q2, .ref q3, .ref q4, .null, .null, .null, .null, .int 0])), (q1, .inl (g.cA 1, 40, .inr (.inl (fun _ => 0)))), (q2, .inl (g.cA 0, 40, .inl (fun _ => 0))), (q3, .inl (g.cA 0, 40, .inl (fun _ => 0))), (q4, .inl (g.cA 0, 40, .inl (fun _ => 0))), (q5, .inl (g.cA 0, 40, .inl (fun _ => 0)))] H := hP
  have hD : va_D A [(h0, .inr (6, [.int 0, .ref q1, .ref q2, .ref q3, .ref q4, .null, .null, .null, .null, .int 0])), (q1, .inl (g.cA 1, 40, .inr (.inl (fun _ => 0)))), (q2, .inl (g.cA 0, 40, .inl (fun _ => 0))), (q3, .inl (g.cA 0, 40, .inl (fun _ => 0))), (q4, .inl (g.cA 0, 40, .inl (fun _ => 0))), (q5, .inl (g.cA 0, 40, .inl (fun _ => 0)))] := hD
  refine kp_f (ci := 6) (k := 5) (q0 := 0) (ws' := [(h0, .inr (6, [.int 0, .ref q1, .ref q2, .ref q3, .ref q4, .ref q5, .null, .null, .null, .int 0])), (q1, .inl (g.cA 1, 40, .inr (.inl (fun _ => 0)))), (q2, .inl (g.cA 0, 40, .inl (fun _ => 0))), (q3, .inl (g.cA 0, 40, .inl (fun _ => 0))), (q4, .inl (g.cA 0, 40, .inl (fun _ => 0))), (q5, .inl (g.cA 0, 40, .inl (fun _ => 0)))]) hx hb hts hown hin hK hP hD hS rfl igX6 tyX6_ok nmX6 fl_6_25 (Nat.le_of_ble_eq_true rfl) rfl rfl rfl rfl (Nat.le_of_ble_eq_true rfl) rfl rfl dX6_init_41 (fun H locs hP hD hS => ?_)
  refine lv_aload_n hx hb dX6_init_44 rfl (lv_at hl 0 rfl) ?_
  refine lv_bipush (v := 40) hx hb dX6_init_45 rfl ?_
  refine kn_i (N := 40) hx hb hts hK hP hD hS hA (by decide) rfl (Nat.le_of_ble_eq_true rfl) (Nat.le_of_ble_eq_true rfl) (Nat.le_of_ble_eq_true rfl) dX6_init_47 (fun q6 H hP hD hS => ?_)
  refine W.widen (k := 6) (n := 240) (Nat.le_of_ble_eq_true rfl) (Nat.le_of_ble_eq_true rfl) ?_
  have hP : va_P g.D xcl [(h0, .inr (6, [.int 0, .ref q1, .ref q2, .ref q3, .ref q4, .ref q5, .null, .null, .null, .int 0])), (q1, .inl (g.cA 1, 40, .inr (.inl (fun _ => 0)))), (q2, .inl (g.cA 0, 40, .inl (fun _ => 0))), (q3, .inl (g.cA 0, 40, .inl (fun _ => 0))), (q4, .inl (g.cA 0, 40, .inl (fun _ => 0))), (q5, .inl (g.cA 0, 40, .inl (fun _ => 0))), (q6, .inl (g.cA 0, 40, .inl (fun _ => 0)))] H := hP
  have hD : va_D A [(h0, .inr (6, [.int 0, .ref q1, .ref q2, .ref q3, .ref q4, .ref q5, .null, .null, .null, .int 0])), (q1, .inl (g.cA 1, 40, .inr (.inl (fun _ => 0)))), (q2, .inl (g.cA 0, 40, .inl (fun _ => 0))), (q3, .inl (g.cA 0, 40, .inl (fun _ => 0))), (q4, .inl (g.cA 0, 40, .inl (fun _ => 0))), (q5, .inl (g.cA 0, 40, .inl (fun _ => 0))), (q6, .inl (g.cA 0, 40, .inl (fun _ => 0)))] := hD
  refine kp_f (ci := 6) (k := 6) (q0 := 0) (ws' := [(h0, .inr (6, [.int 0, .ref q1, .ref q2, .ref q3, .ref q4, .ref q5, .ref q6, .null, .null, .int 0])), (q1, .inl (g.cA 1, 40, .inr (.inl (fun _ => 0)))), (q2, .inl (g.cA 0, 40, .inl (fun _ => 0))), (q3, .inl (g.cA 0, 40, .inl (fun _ => 0))), (q4, .inl (g.cA 0, 40, .inl (fun _ => 0))), (q5, .inl (g.cA 0, 40, .inl (fun _ => 0))), (q6, .inl (g.cA 0, 40, .inl (fun _ => 0)))]) hx hb hts hown hin hK hP hD hS rfl igX6 tyX6_ok nmX6 fl_6_28 (Nat.le_of_ble_eq_true rfl) rfl rfl rfl rfl (Nat.le_of_ble_eq_true rfl) rfl rfl dX6_init_49 (fun H locs hP hD hS => ?_)
  refine lv_aload_n hx hb dX6_init_52 rfl (lv_at hl 0 rfl) ?_
  refine lv_bipush (v := 40) hx hb dX6_init_53 rfl ?_
  refine kn_l (N := 40) hx hb hts hK hP hD hS hA (by decide) rfl (Nat.le_of_ble_eq_true rfl) (Nat.le_of_ble_eq_true rfl) (Nat.le_of_ble_eq_true rfl) dX6_init_55 (fun q7 H hP hD hS => ?_)
  refine W.widen (k := 7) (n := 280) (Nat.le_of_ble_eq_true rfl) (Nat.le_of_ble_eq_true rfl) ?_
  have hP : va_P g.D xcl [(h0, .inr (6, [.int 0, .ref q1, .ref q2, .ref q3, .ref q4, .ref q5, .ref q6, .null, .null, .int 0])), (q1, .inl (g.cA 1, 40, .inr (.inl (fun _ => 0)))), (q2, .inl (g.cA 0, 40, .inl (fun _ => 0))), (q3, .inl (g.cA 0, 40, .inl (fun _ => 0))), (q4, .inl (g.cA 0, 40, .inl (fun _ => 0))), (q5, .inl (g.cA 0, 40, .inl (fun _ => 0))), (q6, .inl (g.cA 0, 40, .inl (fun _ => 0))), (q7, .inl (g.cA 1, 40, .inr (.inl (fun _ => 0))))] H := hP
  have hD : va_D A [(h0, .inr (6, [.int 0, .ref q1, .ref q2, .ref q3, .ref q4, .ref q5, .ref q6, .null, .null, .int 0])), (q1, .inl (g.cA 1, 40, .inr (.inl (fun _ => 0)))), (q2, .inl (g.cA 0, 40, .inl (fun _ => 0))), (q3, .inl (g.cA 0, 40, .inl (fun _ => 0))), (q4, .inl (g.cA 0, 40, .inl (fun _ => 0))), (q5, .inl (g.cA 0, 40, .inl (fun _ => 0))), (q6, .inl (g.cA 0, 40, .inl (fun _ => 0))), (q7, .inl (g.cA 1, 40, .inr (.inl (fun _ => 0))))] := hD
  refine kp_f (ci := 6) (k := 7) (q0 := 0) (ws' := [(h0, .inr (6, [.int 0, .ref q1, .ref q2, .ref q3, .ref q4, .ref q5, .ref q6, .ref q7, .null, .int 0])), (q1, .inl (g.cA 1, 40, .inr (.inl (fun _ => 0)))), (q2, .inl (g.cA 0, 40, .inl (fun _ => 0))), (q3, .inl (g.cA 0, 40, .inl (fun _ => 0))), (q4, .inl (g.cA 0, 40, .inl (fun _ => 0))), (q5, .inl (g.cA 0, 40, .inl (fun _ => 0))), (q6, .inl (g.cA 0, 40, .inl (fun _ => 0))), (q7, .inl (g.cA 1, 40, .inr (.inl (fun _ => 0))))]) hx hb hts hown hin hK hP hD hS rfl igX6 tyX6_ok nmX6 fl_6_31 (Nat.le_of_ble_eq_true rfl) rfl rfl rfl rfl (Nat.le_of_ble_eq_true rfl) rfl rfl dX6_init_57 (fun H locs hP hD hS => ?_)
  refine lv_aload_n hx hb dX6_init_60 rfl (lv_at hl 0 rfl) ?_
  refine lv_iconst (v := 4) hx hb dX6_init_61 rfl ?_
  refine kn_i (N := 4) hx hb hts hK hP hD hS hA (by decide) rfl (Nat.le_of_ble_eq_true rfl) (Nat.le_of_ble_eq_true rfl) (Nat.le_of_ble_eq_true rfl) dX6_init_62 (fun q8 H hP hD hS => ?_)
  refine W.widen (k := 8) (n := 284) (Nat.le_of_ble_eq_true rfl) (Nat.le_of_ble_eq_true rfl) ?_
  have hP : va_P g.D xcl [(h0, .inr (6, [.int 0, .ref q1, .ref q2, .ref q3, .ref q4, .ref q5, .ref q6, .ref q7, .null, .int 0])), (q1, .inl (g.cA 1, 40, .inr (.inl (fun _ => 0)))), (q2, .inl (g.cA 0, 40, .inl (fun _ => 0))), (q3, .inl (g.cA 0, 40, .inl (fun _ => 0))), (q4, .inl (g.cA 0, 40, .inl (fun _ => 0))), (q5, .inl (g.cA 0, 40, .inl (fun _ => 0))), (q6, .inl (g.cA 0, 40, .inl (fun _ => 0))), (q7, .inl (g.cA 1, 40, .inr (.inl (fun _ => 0)))), (q8, .inl (g.cA 0, 4, .inl (fun _ => 0)))] H := hP
  have hD : va_D A [(h0, .inr (6, [.int 0, .ref q1, .ref q2, .ref q3, .ref q4, .ref q5, .ref q6, .ref q7, .null, .int 0])), (q1, .inl (g.cA 1, 40, .inr (.inl (fun _ => 0)))), (q2, .inl (g.cA 0, 40, .inl (fun _ => 0))), (q3, .inl (g.cA 0, 40, .inl (fun _ => 0))), (q4, .inl (g.cA 0, 40, .inl (fun _ => 0))), (q5, .inl (g.cA 0, 40, .inl (fun _ => 0))), (q6, .inl (g.cA 0, 40, .inl (fun _ => 0))), (q7, .inl (g.cA 1, 40, .inr (.inl (fun _ => 0)))), (q8, .inl (g.cA 0, 4, .inl (fun _ => 0)))] := hD
  refine kp_f (ci := 6) (k := 8) (q0 := 0) (ws' := [(h0, .inr (6, [.int 0, .ref q1, .ref q2, .ref q3, .ref q4, .ref q5, .ref q6, .ref q7, .ref q8, .int 0])), (q1, .inl (g.cA 1, 40, .inr (.inl (fun _ => 0)))), (q2, .inl (g.cA 0, 40, .inl (fun _ => 0))), (q3, .inl (g.cA 0, 40, .inl (fun _ => 0))), (q4, .inl (g.cA 0, 40, .inl (fun _ => 0))), (q5, .inl (g.cA 0, 40, .inl (fun _ => 0))), (q6, .inl (g.cA 0, 40, .inl (fun _ => 0))), (q7, .inl (g.cA 1, 40, .inr (.inl (fun _ => 0)))), (q8, .inl (g.cA 0, 4, .inl (fun _ => 0)))]) hx hb hts hown hin hK hP hD hS rfl igX6 tyX6_ok nmX6 fl_6_34 (Nat.le_of_ble_eq_true rfl) rfl rfl rfl rfl (Nat.le_of_ble_eq_true rfl) rfl rfl dX6_init_64 (fun H locs hP hD hS => ?_)
  refine va_gets hx hb (hcs.1 0 _ xst_0).1 hS hown (hts _ fs_X6_37) (fun _ h9 => h9) dX6_init_67 ?_
  refine lv_iconst (v := 0) hx hb dX6_init_70 rfl ?_
  refine lv_aload_n hx hb dX6_init_71 rfl (lv_at hl 0 rfl) ?_
  refine va_get (D := g.D) (ci := 6) (v := .ref q8) (C := RX6) (T := TX6) (N := 10) hx hb hts igX6 hown hK hP 0 rfl rfl 8 (Nat.le_of_ble_eq_true rfl) (hts _ fl_6_34) (fun _ h9 => h9) rfl dX6_init_72 ?_
  refine lv_iconst (v := 0) hx hb dX6_init_75 rfl ?_
  refine lv_iconst (v := 4) hx hb dX6_init_76 rfl ?_
  refine kcp_t (q1 := 8) (ws' := [(h0, .inr (6, [.int 0, .ref q1, .ref q2, .ref q3, .ref q4, .ref q5, .ref q6, .ref q7, .ref q8, .int 0])), (q1, .inl (g.cA 1, 40, .inr (.inl (fun _ => 0)))), (q2, .inl (g.cA 0, 40, .inl (fun _ => 0))), (q3, .inl (g.cA 0, 40, .inl (fun _ => 0))), (q4, .inl (g.cA 0, 40, .inl (fun _ => 0))), (q5, .inl (g.cA 0, 40, .inl (fun _ => 0))), (q6, .inl (g.cA 0, 40, .inl (fun _ => 0))), (q7, .inl (g.cA 1, 40, .inr (.inl (fun _ => 0)))), (q8, .inl (g.cA 0, 4, .inl (va_cpy (fun j => st_0.getD j 0) (fun _ => 0) 0 0 4)))]) hx hb hml hown hts hK hP hD hS hcs xst_0 rfl (by decide) ml_X6_40 (Nat.le_of_ble_eq_true rfl) (Nat.le_of_ble_eq_true rfl) hl.1 (Nat.le_of_ble_eq_true rfl) rfl dX6_init_77 (fun H locs hP hD hS => ?_)
  exact W.vret hx hb hr (fun t ht hW => ⟨⟨(), rfl, trivial, q1, q2, q3, q4, q5, q6, q7, q8, by rw [ht]; exact hP, hD⟩, hS.F ht⟩) hS.2.2 dX6_init_80
theorem dX0_init_0 : decode cX0_init 0 = .ok (.aload_n 0, 1) := by decide +kernel
theorem dX0_init_1 : decode cX0_init 1 = .ok (.invokespecial 3, 3) := by decide +kernel
theorem dX0_init_4 : decode cX0_init 4 = .ok (.aload_n 0, 1) := by decide +kernel
theorem dX0_init_5 : decode cX0_init 5 = .ok (.sipush 240, 3) := by decide +kernel
theorem dX0_init_8 : decode cX0_init 8 = .ok (.newarray .int, 2) := by decide +kernel
theorem dX0_init_10 : decode cX0_init 10 = .ok (.putfield 11, 3) := by decide +kernel
theorem dX0_init_13 : decode cX0_init 13 = .ok (.aload_n 0, 1) := by decide +kernel
theorem dX0_init_14 : decode cX0_init 14 = .ok (.aload_n 1, 1) := by decide +kernel
theorem dX0_init_15 : decode cX0_init 15 = .ok (.putfield 15, 3) := by decide +kernel
theorem dX0_init_18 : decode cX0_init 18 = .ok (.return_, 1) := by decide +kernel
set_option maxHeartbeats 4000000 in
set_option maxRecDepth 100000 in
theorem k_X0_init {l : Launch} {g : XG} (h0 sz a0 : Nat) : Met l yX0_init (.code yX0_init cX0_init 2 none :: lw_g) { frames := 1, cells := 1, slots := 240, locals := 60 } (va_Pc [.ref h0, .ref a0] (fun U => U.heap.size = sz ∧ va_P g.D xcl [(h0, .inr (0, [.null, .null, .int 0, .int 0, .int 0, .int 0, .int 0]))] U.heap ∧ va_K g.D xcl (xty g.cA) U ∧ va_D (fun _ => True) [(h0, .inr (0, [.null, .null, .int 0, .int 0, .int 0, .int 0, .int 0]))] ∧ xcs (va_A [(h0, .inr (0, [.null, .null, .int 0, .int 0, .int 0, .int 0, .int 0]))] sz) g U U.heap)) (va_Qv (fun _ : Unit => True) (fun _ t => ∃ (q1 : Nat), va_P g.D xcl [(h0, .inr (0, [.ref a0, .ref q1, .int 0, .int 0, .int 0, .int 0, .int 0])), (q1, .inl (g.cA 0, 240, .inl (fun _ => 0)))] t.heap ∧ va_D (va_A [(h0, .inr (0, [.null, .null, .int 0, .int 0, .int 0, .int 0, .int 0]))] sz) [(h0, .inr (0, [.ref a0, .ref q1, .int 0, .int 0, .int 0, .int 0, .int 0])), (q1, .inl (g.cA 0, 240, .inl (fun _ => 0)))]) (va_A [(h0, .inr (0, [.null, .null, .int 0, .int 0, .int 0, .int 0, .int 0]))] sz)) 1 240 (va_A [(h0, .inr (0, [.null, .null, .int 0, .int 0, .int 0, .int 0, .int 0]))] sz) := by
  refine Met.ofW (cc := cX0_init) (maxL := 2) (ret := none) pn_X0 rfl ?_
  intro p e s m args below meth c s₁ B hml hv
  obtain ⟨rfl, hsz, hP, hK, hD0, hcs⟩ := hv
  have hx := B.exec
  have hb := B.bytes
  have hr := B.returns
  have hts1 := atoms_spec (ws := .code yX0_init cX0_init 2 none :: lw_g) B.pre
  have hts : ∀ w ∈ lw_g, w.before _ s = true := fun w hw => hts1 w (List.mem_cons_of_mem _ hw)
  have hown : s.vm.findClass RX0 = some m.cls := findClass_of_methodNamed B.named
  have hlocks := B.notSynchronized
  have hin : meth.name = "<init>" := (name_of_methodNamed B.named B.method).1
  subst hsz
  have hD := hD0.self (sz := s.heap.size)
  generalize hAe : va_A [(h0, .inr (0, [.null, .null, .int 0, .int 0, .int 0, .int 0, .int 0]))] s.heap.size = A at hD hcs ⊢
  have hA : ∀ q : Nat, s.heap.size ≤ q → A q := fun q h => by rw [← hAe]; exact Or.inr h
  have hS : va_S A s.heap s.heap [] := va_S.rf
  have hP : va_P g.D xcl [(h0, .inr (0, [.null, .null, .int 0, .int 0, .int 0, .int 0, .int 0]))] s.heap := hP
  have hl := lv_entry ([.ref h0, .ref a0]) (n := 2) (Nat.le_of_ble_eq_true rfl)
  rw [lg_entry_eq]
  generalize (lg_sl ([.ref h0, .ref a0]) ++ List.replicate (2 - (lg_sl ([.ref h0, .ref a0])).length) Slot.unset).toArray = ls at hl ⊢
  have hl : lv_has ls 2 [(0, .ref h0), (1, .ref a0)] := hl
  refine lv_aload_n hx hb dX0_init_0 rfl (lv_at hl 0 rfl) ?_
  refine W.objInit hx hb hown (hts _ ml_X0_3) (hts _ xoi_i) (hts _ xoi_c) rfl (by rw [hml]; exact hl.1) rfl dX0_init_1 (Nat.le_of_ble_eq_true rfl) (Nat.le_of_ble_eq_true rfl) ?_
  refine W.eq (g2 := F0 m 4 ls []) rfl ?_
  refine lv_aload_n hx hb dX0_init_4 rfl (lv_at hl 0 rfl) ?_
  refine lv_sipush (v := 240) hx hb dX0_init_5 rfl ?_
  refine kn_i (N := 240) hx hb hts hK hP hD hS hA (by decide) rfl (Nat.le_of_ble_eq_true rfl) (Nat.le_of_ble_eq_true rfl) (Nat.le_of_ble_eq_true rfl) dX0_init_8 (fun q1 H hP hD hS => ?_)
  refine W.widen (k := 1) (n := 240) (Nat.le_of_ble_eq_true rfl) (Nat.le_of_ble_eq_true rfl) ?_
  have hP : va_P g.D xcl [(h0, .inr (0, [.null, .null, .int 0, .int 0, .int 0, .int 0, .int 0])), (q1, .inl (g.cA 0, 240, .inl (fun _ => 0)))] H := hP
  have hD : va_D A [(h0, .inr (0, [.null, .null, .int 0, .int 0, .int 0, .int 0, .int 0])), (q1, .inl (g.cA 0, 240, .inl (fun _ => 0)))] := hD
  refine kp_f (ci := 0) (k := 1) (q0 := 0) (ws' := [(h0, .inr (0, [.null, .ref q1, .int 0, .int 0, .int 0, .int 0, .int 0])), (q1, .inl (g.cA 0, 240, .inl (fun _ => 0)))]) hx hb hts hown hin hK hP hD hS rfl igX0 tyX0_ok nmX0 fl_0_11 (Nat.le_of_ble_eq_true rfl) rfl rfl rfl rfl (Nat.le_of_ble_eq_true rfl) rfl rfl dX0_init_10 (fun H locs hP hD hS => ?_)
  refine lv_aload_n hx hb dX0_init_13 rfl (lv_at hl 0 rfl) ?_
  refine lv_aload_n hx hb dX0_init_14 rfl (lv_at hl 1 rfl) ?_
  refine kp_f (ci := 0) (k := 0) (q0 := 0) (ws' := [(h0, .inr (0, [.ref a0, .ref q1, .int 0, .int 0, .int 0, .int 0, .int 0])), (q1, .inl (g.cA 0, 240, .inl (fun _ => 0)))]) hx hb hts hown hin hK hP hD hS rfl igX0 tyX0_ok nmX0 fl_0_15 (Nat.le_of_ble_eq_true rfl) rfl rfl rfl rfl (Nat.le_of_ble_eq_true rfl) rfl rfl dX0_init_15 (fun H locs hP hD hS => ?_)
  exact W.vret hx hb hr (fun t ht hW => ⟨⟨(), rfl, trivial, q1, by rw [ht]; exact hP, hD⟩, hS.F ht⟩) hS.2.2 dX0_init_18
theorem dX1_init_0 : decode cX1_init 0 = .ok (.aload_n 0, 1) := by decide +kernel
theorem dX1_init_1 : decode cX1_init 1 = .ok (.invokespecial 3, 3) := by decide +kernel
theorem dX1_init_4 : decode cX1_init 4 = .ok (.aload_n 0, 1) := by decide +kernel
theorem dX1_init_5 : decode cX1_init 5 = .ok (.bipush 12, 2) := by decide +kernel
theorem dX1_init_7 : decode cX1_init 7 = .ok (.newarray .int, 2) := by decide +kernel
theorem dX1_init_9 : decode cX1_init 9 = .ok (.putfield 11, 3) := by decide +kernel
theorem dX1_init_12 : decode cX1_init 12 = .ok (.aload_n 0, 1) := by decide +kernel
theorem dX1_init_13 : decode cX1_init 13 = .ok (.bipush 12, 2) := by decide +kernel
theorem dX1_init_15 : decode cX1_init 15 = .ok (.newarray .int, 2) := by decide +kernel
theorem dX1_init_17 : decode cX1_init 17 = .ok (.putfield 17, 3) := by decide +kernel
theorem dX1_init_20 : decode cX1_init 20 = .ok (.aload_n 0, 1) := by decide +kernel
theorem dX1_init_21 : decode cX1_init 21 = .ok (.bipush 24, 2) := by decide +kernel
theorem dX1_init_23 : decode cX1_init 23 = .ok (.newarray .int, 2) := by decide +kernel
theorem dX1_init_25 : decode cX1_init 25 = .ok (.putfield 20, 3) := by decide +kernel
theorem dX1_init_28 : decode cX1_init 28 = .ok (.aload_n 0, 1) := by decide +kernel
theorem dX1_init_29 : decode cX1_init 29 = .ok (.bipush 24, 2) := by decide +kernel
theorem dX1_init_31 : decode cX1_init 31 = .ok (.newarray .int, 2) := by decide +kernel
theorem dX1_init_33 : decode cX1_init 33 = .ok (.putfield 23, 3) := by decide +kernel
theorem dX1_init_36 : decode cX1_init 36 = .ok (.aload_n 0, 1) := by decide +kernel
theorem dX1_init_37 : decode cX1_init 37 = .ok (.bipush 24, 2) := by decide +kernel
theorem dX1_init_39 : decode cX1_init 39 = .ok (.newarray .int, 2) := by decide +kernel
theorem dX1_init_41 : decode cX1_init 41 = .ok (.putfield 26, 3) := by decide +kernel
theorem dX1_init_44 : decode cX1_init 44 = .ok (.aload_n 0, 1) := by decide +kernel
theorem dX1_init_45 : decode cX1_init 45 = .ok (.bipush 24, 2) := by decide +kernel
theorem dX1_init_47 : decode cX1_init 47 = .ok (.newarray .int, 2) := by decide +kernel
theorem dX1_init_49 : decode cX1_init 49 = .ok (.putfield 29, 3) := by decide +kernel
theorem dX1_init_52 : decode cX1_init 52 = .ok (.aload_n 0, 1) := by decide +kernel
theorem dX1_init_53 : decode cX1_init 53 = .ok (.bipush 24, 2) := by decide +kernel
theorem dX1_init_55 : decode cX1_init 55 = .ok (.newarray .int, 2) := by decide +kernel
theorem dX1_init_57 : decode cX1_init 57 = .ok (.putfield 32, 3) := by decide +kernel
theorem dX1_init_60 : decode cX1_init 60 = .ok (.aload_n 0, 1) := by decide +kernel
theorem dX1_init_61 : decode cX1_init 61 = .ok (.bipush 24, 2) := by decide +kernel
theorem dX1_init_63 : decode cX1_init 63 = .ok (.newarray .int, 2) := by decide +kernel
theorem dX1_init_65 : decode cX1_init 65 = .ok (.putfield 35, 3) := by decide +kernel
theorem dX1_init_68 : decode cX1_init 68 = .ok (.aload_n 0, 1) := by decide +kernel
theorem dX1_init_69 : decode cX1_init 69 = .ok (.bipush 24, 2) := by decide +kernel
theorem dX1_init_71 : decode cX1_init 71 = .ok (.newarray .int, 2) := by decide +kernel
theorem dX1_init_73 : decode cX1_init 73 = .ok (.putfield 38, 3) := by decide +kernel
theorem dX1_init_76 : decode cX1_init 76 = .ok (.aload_n 0, 1) := by decide +kernel
theorem dX1_init_77 : decode cX1_init 77 = .ok (.aload_n 1, 1) := by decide +kernel
theorem dX1_init_78 : decode cX1_init 78 = .ok (.putfield 41, 3) := by decide +kernel
theorem dX1_init_81 : decode cX1_init 81 = .ok (.aload_n 0, 1) := by decide +kernel
theorem dX1_init_82 : decode cX1_init 82 = .ok (.aload_n 2, 1) := by decide +kernel
theorem dX1_init_83 : decode cX1_init 83 = .ok (.putfield 45, 3) := by decide +kernel
theorem dX1_init_86 : decode cX1_init 86 = .ok (.return_, 1) := by decide +kernel
set_option maxHeartbeats 4000000 in
set_option maxRecDepth 100000 in
theorem k_X1_init {l : Launch} {g : XG} (h0 sz a0 a1 : Nat) : Met l yX1_init (.code yX1_init cX1_init 3 none :: lw_g) { frames := 1, cells := 9, slots := 192, locals := 60 } (va_Pc [.ref h0, .ref a0, .ref a1] (fun U => U.heap.size = sz ∧ va_P g.D xcl [(h0, .inr (1, [.null, .null, .int 0, .null, .null, .int 0, .null, .null, .null, .null, .null, .null, .null, .int 0, .int 0]))] U.heap ∧ va_K g.D xcl (xty g.cA) U ∧ va_D (fun _ => True) [(h0, .inr (1, [.null, .null, .int 0, .null, .null, .int 0, .null, .null, .null, .null, .null, .null, .null, .int 0, .int 0]))] ∧ xcs (va_A [(h0, .inr (1, [.null, .null, .int 0, .null, .null, .int 0, .null, .null, .null, .null, .null, .null, .null, .int 0, .int 0]))] sz) g U U.heap)) (va_Qv (fun _ : Unit => True) (fun _ t => ∃ (q1 q2 q3 q4 q5 q6 q7 q8 q9 : Nat), va_P g.D xcl [(h0, .inr (1, [.ref a0, .ref a1, .int 0, .ref q1, .ref q2, .int 0, .ref q3, .ref q4, .ref q5, .ref q6, .ref q7, .ref q8, .ref q9, .int 0, .int 0])), (q1, .inl (g.cA 0, 12, .inl (fun _ => 0))), (q2, .inl (g.cA 0, 12, .inl (fun _ => 0))), (q3, .inl (g.cA 0, 24, .inl (fun _ => 0))), (q4, .inl (g.cA 0, 24, .inl (fun _ => 0))), (q5, .inl (g.cA 0, 24, .inl (fun _ => 0))), (q6, .inl (g.cA 0, 24, .inl (fun _ => 0))), (q7, .inl (g.cA 0, 24, .inl (fun _ => 0))), (q8, .inl (g.cA 0, 24, .inl (fun _ => 0))), (q9, .inl (g.cA 0, 24, .inl (fun _ => 0)))] t.heap ∧ va_D (va_A [(h0, .inr (1, [.null, .null, .int 0, .null, .null, .int 0, .null, .null, .null, .null, .null, .null, .null, .int 0, .int 0]))] sz) [(h0, .inr (1, [.ref a0, .ref a1, .int 0, .ref q1, .ref q2, .int 0, .ref q3, .ref q4, .ref q5, .ref q6, .ref q7, .ref q8, .ref q9, .int 0, .int 0])), (q1, .inl (g.cA 0, 12, .inl (fun _ => 0))), (q2, .inl (g.cA 0, 12, .inl (fun _ => 0))), (q3, .inl (g.cA 0, 24, .inl (fun _ => 0))), (q4, .inl (g.cA 0, 24, .inl (fun _ => 0))), (q5, .inl (g.cA 0, 24, .inl (fun _ => 0))), (q6, .inl (g.cA 0, 24, .inl (fun _ => 0))), (q7, .inl (g.cA 0, 24, .inl (fun _ => 0))), (q8, .inl (g.cA 0, 24, .inl (fun _ => 0))), (q9, .inl (g.cA 0, 24, .inl (fun _ => 0)))]) (va_A [(h0, .inr (1, [.null, .null, .int 0, .null, .null, .int 0, .null, .null, .null, .null, .null, .null, .null, .int 0, .int 0]))] sz)) 9 192 (va_A [(h0, .inr (1, [.null, .null, .int 0, .null, .null, .int 0, .null, .null, .null, .null, .null, .null, .null, .int 0, .int 0]))] sz) := by
  refine Met.ofW (cc := cX1_init) (maxL := 3) (ret := none) pn_X1 rfl ?_
  intro p e s m args below meth c s₁ B hml hv
  obtain ⟨rfl, hsz, hP, hK, hD0, hcs⟩ := hv
  have hx := B.exec
  have hb := B.bytes
  have hr := B.returns
  have hts1 := atoms_spec (ws := .code yX1_init cX1_init 3 none :: lw_g) B.pre
  have hts : ∀ w ∈ lw_g, w.before _ s = true := fun w hw => hts1 w (List.mem_cons_of_mem _ hw)
  have hown : s.vm.findClass RX1 = some m.cls := findClass_of_methodNamed B.named
  have hlocks := B.notSynchronized
  have hin : meth.name = "<init>" := (name_of_methodNamed B.named B.method).1
  subst hsz
  have hD := hD0.self (sz := s.heap.size)
  generalize hAe : va_A [(h0, .inr (1, [.null, .null, .int 0, .null, .null, .int 0, .null, .null, .null, .null, .null, .null, .null, .int 0, .int 0]))] s.heap.size = A at hD hcs ⊢
  have hA : ∀ q : Nat, s.heap.size ≤ q → A q := fun q h => by rw [← hAe]; exact Or.inr h
  have hS : va_S A s.heap s.heap [] := va_S.rf
  have hP : va_P g.D xcl [(h0, .inr (1, [.null, .null, .int 0, .null, .null, .int 0, .null, .null, .null, .null, .null, .null, .null, .int 0, .int 0]))] s.heap := hP
  have hl := lv_entry ([.ref h0, .ref a0, .ref a1]) (n := 3) (Nat.le_of_ble_eq_true rfl)
  rw [lg_entry_eq]
  generalize (lg_sl ([.ref h0, .ref a0, .ref a1]) ++ List.replicate (3 - (lg_sl ([.ref h0, .ref a0, .ref a1])).length) Slot.unset).toArray = ls at hl ⊢
  have hl : lv_has ls 3 [(0, .ref h0), (1, .ref a0), (2, .ref a1)] := hl
  refine lv_aload_n hx hb dX1_init_0 rfl (lv_at hl 0 rfl) ?_
  refine W.objInit hx hb hown (hts _ ml_X1_3) (hts _ xoi_i) (hts _ xoi_c) rfl (by rw [hml]; exact hl.1) rfl dX1_init_1 (Nat.le_of_ble_eq_true rfl) (Nat.le_of_ble_eq_true rfl) ?_
  refine W.eq (g2 := F0 m 4 ls []) rfl ?_
  refine lv_aload_n hx hb dX1_init_4 rfl (lv_at hl 0 rfl) ?_
  refine lv_bipush (v := 12) hx hb dX1_init_5 rfl ?_
  refine kn_i (N := 12) hx hb hts hK hP hD hS hA (by decide) rfl (Nat.le_of_ble_eq_true rfl) (Nat.le_of_ble_eq_true rfl) (Nat.le_of_ble_eq_true rfl) dX1_init_7 (fun q1 H hP hD hS => ?_)
  refine W.widen (k := 1) (n := 12) (Nat.le_of_ble_eq_true rfl) (Nat.le_of_ble_eq_true rfl) ?_
  have hP : va_P g.D xcl [(h0, .inr (1, [.null, .null, .int 0, .null, .null, .int 0, .null, .null, .null, .null, .null, .null, .null, .int 0, .int 0])), (q1, .inl (g.cA 0, 12, .inl (fun _ => 0)))] H := hP
  have hD : va_D A [(h0, .inr (1, [.null, .null, .int 0, .null, .null, .int 0, .null, .null, .null, .null, .null, .null, .null, .int 0, .int 0])), (q1, .inl (g.cA 0, 12, .inl (fun _ => 0)))] := hD
  refine kp_f (ci := 1) (k := 3) (q0 := 0) (ws' := [(h0, .inr (1, [.null, .null, .int 0, .ref q1, .null, .int 0, .null, .null, .null, .null, .null, .null, .null, .int 0, .int 0])), (q1, .inl (g.cA 0, 12, .inl (fun _ => 0)))]) hx hb hts hown hin hK hP hD hS rfl igX1 tyX1_ok nmX1 fl_1_11 (Nat.le_of_ble_eq_true rfl) rfl rfl rfl rfl (Nat.le_of_ble_eq_true rfl) rfl rfl dX1_init_9 (fun H locs hP hD hS => ?_)
  refine lv_aload_n hx hb dX1_init_12 rfl (lv_at hl 0 rfl) ?_
  refine lv_bipush (v := 12) hx hb dX1_init_13 rfl ?_
  refine kn_i (N := 12) hx hb hts hK hP hD hS hA (by decide) rfl (Nat.le_of_ble_eq_true rfl) (Nat.le_of_ble_eq_true rfl) (Nat.le_of_ble_eq_true rfl) dX1_init_15 (fun q2 H hP hD hS => ?_)
  refine W.widen (k := 2) (n := 24) (Nat.le_of_ble_eq_true rfl) (Nat.le_of_ble_eq_true rfl) ?_
  have hP : va_P g.D xcl [(h0, .inr (1, [.null, .null, .int 0, .ref q1, .null, .int 0, .null, .null, .null, .null, .null, .null, .null, .int 0, .int 0])), (q1, .inl (g.cA 0, 12, .inl (fun _ => 0))), (q2, .inl (g.cA 0, 12, .inl (fun _ => 0)))] H := hP
  have hD : va_D A [(h0, .inr (1, [.null, .null, .int 0, .ref q1, .null, .int 0, .null, .null, .null, .null, .null, .null, .null, .int 0, .int 0])), (q1, .inl (g.cA 0, 12, .inl (fun _ => 0))), (q2, .inl (g.cA 0, 12, .inl (fun _ => 0)))] := hD
  refine kp_f (ci := 1) (k := 4) (q0 := 0) (ws' := [(h0, .inr (1, [.null, .null, .int 0, .ref q1, .ref q2, .int 0, .null, .null, .null, .null, .null, .null, .null, .int 0, .int 0])), (q1, .inl (g.cA 0, 12, .inl (fun _ => 0))), (q2, .inl (g.cA 0, 12, .inl (fun _ => 0)))]) hx hb hts hown hin hK hP hD hS rfl igX1 tyX1_ok nmX1 fl_1_17 (Nat.le_of_ble_eq_true rfl) rfl rfl rfl rfl (Nat.le_of_ble_eq_true rfl) rfl rfl dX1_init_17 (fun H locs hP hD hS => ?_)
  refine lv_aload_n hx hb dX1_init_20 rfl (lv_at hl 0 rfl) ?_
  refine lv_bipush (v := 24) hx hb dX1_init_21 rfl ?_
  refine kn_i (N := 24) hx hb hts hK hP hD hS hA (by decide) rfl (Nat.le_of_ble_eq_true rfl) (Nat.le_of_ble_eq_true rfl) (Nat.le_of_ble_eq_true rfl) dX1_init_23 (fun q3 H hP hD hS => ?_)
  refine W.widen (k := 3) (n := 48) (Nat.le_of_ble_eq_true rfl) (Nat.le_of_ble_eq_true rfl) ?_
  have hP : va_P g.D xcl [(h0, .inr (1, [.null, .null, .int 0, .ref q1, .ref q2, .int 0, .null, .null, .null, .null, .null, .null, .null, .int 0, .int 0])), (q1, .inl (g.cA 0, 12, .inl (fun _ => 0))), (q2, .inl (g.cA 0, 12, .inl (fun _ => 0))), (q3, .inl (g.cA 0, 24, .inl (fun _ => 0)))] H := hP
  have hD : va_D A [(h0, .inr (1, [.null, .null, .int 0, .ref q1, .ref q2, .int 0, .null, .null, .null, .null, .null, .null, .null, .int 0, .int 0])), (q1, .inl (g.cA 0, 12, .inl (fun _ => 0))), (q2, .inl (g.cA 0, 12, .inl (fun _ => 0))), (q3, .inl (g.cA 0, 24, .inl (fun _ => 0)))] := hD
  refine kp_f (ci := 1) (k := 6) (q0 := 0) (ws' := [(h0, .inr (1, [.null, .null, .int 0, .ref q1, .ref q2, .int 0, .ref q3, .null, .null, .null, .null, .null, .null, .int 0, .int 0])), (q1, .inl (g.cA 0, 12, .inl (fun _ => 0))), (q2, .inl (g.cA 0, 12, .inl (fun _ => 0))), (q3, .inl (g.cA 0, 24, .inl (fun _ => 0)))]) hx hb hts hown hin hK hP hD hS rfl igX1 tyX1_ok nmX1 fl_1_20 (Nat.le_of_ble_eq_true rfl) rfl rfl rfl rfl (Nat.le_of_ble_eq_true rfl) rfl rfl dX1_init_25 (fun H locs hP hD hS => ?_)
  refine lv_aload_n hx hb dX1_init_28 rfl (lv_at hl 0 rfl) ?_
  refine lv_bipush (v := 24) hx hb dX1_init_29 rfl ?_
  refine kn_i (N := 24) hx hb hts hK hP hD hS hA (by decide) rfl (Nat.le_of_ble_eq_true rfl) (Nat.le_of_ble_eq_true rfl) (Nat.le_of_ble_eq_true rfl) dX1_init_31 (fun q4 H hP hD hS => ?_)
  refine W.widen (k := 4) (n := 72) (Nat.le_of_ble_eq_true rfl) (Nat.le_of_ble_eq_true rfl) ?_
  have hP : va_P g.D xcl [(h0, .inr (1, [.null, .null, .int 0, .ref q1, .ref q2, .int 0, .ref q3, .null, .null, .null, .null, .null, .null, .int 0, .int 0])), (q1, .inl (g.cA 0, 12, .inl (fun _ => 0))), (q2, .inl (g.cA 0, 12, .inl (fun _ => 0))), (q3, .inl (g.cA 0, 24, .inl (fun _ => 0))), (q4, .inl (g.cA 0, 24, .inl (fun _ => 0)))] H := hP
  have hD : va_D A [(h0, .inr (1, [.null, .null, .int 0, .ref q1, .ref q2, .int 0, .ref q3, .null, .null, .null, .null, .null, .null, .int 0, .int 0])), (q1, .inl (g.cA 0, 12, .inl (fun _ => 0))), (q2, .inl (g.cA 0, 12, .inl (fun _ => 0))), (q3, .inl (g.cA 0, 24, .inl (fun _ => 0))), (q4, .inl (g.cA 0, 24, .inl (fun _ => 0)))] := hD
  refine kp_f (ci := 1) (k := 7) (q0 := 0) (ws' := [(h0, .inr (1, [.null, .null, .int 0, .ref q1, .ref q2, .int 0, .ref q3, .ref q4, .null, .null, .null, .null, .null, .int 0, .int 0])), (q1, .inl (g.cA 0, 12, .inl (fun _ => 0))), (q2, .inl (g.cA 0, 12, .inl (fun _ => 0))), (q3, .inl (g.cA 0, 24, .inl (fun _ => 0))), (q4, .inl (g.cA 0, 24, .inl (fun _ => 0)))]) hx hb hts hown hin hK hP hD hS rfl igX1 tyX1_ok nmX1 fl_1_23 (Nat.le_of_ble_eq_true rfl) rfl rfl rfl rfl (Nat.le_of_ble_eq_true rfl) rfl rfl dX1_init_33 (fun H locs hP hD hS => ?_)
  refine lv_aload_n hx hb dX1_init_36 rfl (lv_at hl 0 rfl) ?_
  refine lv_bipush (v := 24) hx hb dX1_init_37 rfl ?_
  refine kn_i (N := 24) hx hb hts hK hP hD hS hA (by decide) rfl (Nat.le_of_ble_eq_true rfl) (Nat.le_of_ble_eq_true rfl) (Nat.le_of_ble_eq_true rfl) dX1_init_39 (fun q5 H hP hD hS => ?_)
  refine W.widen (k := 5) (n := 96) (Nat.le_of_ble_eq_true rfl) (Nat.le_of_ble_eq_true rfl) ?_
  have hP : va_P g.D xcl [(h0, .inr (1, [.null, .null, .int 0, .ref q1, .ref q2, .int 0, .ref q3, .ref q4, .null, .null, .null, .null, .null, .int 0, .int 0])), (q1, .inl (g.cA 0, 12, .inl (fun _ => 0))), (q2, .inl (g.cA 0, 12, .inl (fun _ => 0))), (q3, .inl (g.cA 0, 24, .inl (fun _ => 0))), (q4, .inl (g.cA 0, 24, .inl (fun _ => 0))), (q5, .inl (g.cA 0, 24, .inl (fun _ => 0)))] H := hP
  have hD : va_D A [(h0, .inr (1, [.null, .null, .int 0, .ref q1, .ref q2, .int 0, .ref q3, .ref q4, .null, .null, .null, .null, .null, .int 0, .int 0])), (q1, .inl (g.cA 0, 12, .inl (fun _ => 0))), (q2, .inl (g.cA 0, 12, .inl (fun _ => 0))), (q3, .inl (g.cA 0, 24, .inl (fun _ => 0))), (q4, .inl (g.cA 0, 24, .inl (fun _ => 0))), (q5, .inl (g.cA 0, 24, .inl (fun _ => 0)))] := hD
  refine kp_f (ci := 1) (k := 8) (q0 := 0) (ws' := [(h0, .inr (1, [.null, .null, .int 0, .ref q1, .ref q2, .int 0, .ref q3, .ref q4, .ref q5, .null, .null, .null, .null, .int 0, .int 0])), (q1, .inl (g.cA 0, 12, .inl (fun _ => 0))), (q2, .inl (g.cA 0, 12, .inl (fun _ => 0))), (q3, .inl (g.cA 0, 24, .inl (fun _ => 0))), (q4, .inl (g.cA 0, 24, .inl (fun _ => 0))), (q5, .inl (g.cA 0, 24, .inl (fun _ => 0)))]) hx hb hts hown hin hK hP hD hS rfl igX1 tyX1_ok nmX1 fl_1_26 (Nat.le_of_ble_eq_true rfl) rfl rfl rfl rfl (Nat.le_of_ble_eq_true rfl) rfl rfl dX1_init_41 (fun H locs hP hD hS => ?_)
  refine lv_aload_n hx hb dX1_init_44 rfl (lv_at hl 0 rfl) ?_
  refine lv_bipush (v := 24) hx hb dX1_init_45 rfl ?_
  refine kn_i (N := 24) hx hb hts hK hP hD hS hA (by decide) rfl (Nat.le_of_ble_eq_true rfl) (Nat.le_of_ble_eq_true rfl) (Nat.le_of_ble_eq_true rfl) dX1_init_47 (fun q6 H hP hD hS => ?_)
  refine W.widen (k := 6) (n := 120) (Nat.le_of_ble_eq_true rfl) (Nat.le_of_ble_eq_true rfl) ?_
  have hP : va_P g.D xcl [(h0, .inr (1, [.null, .null, .int 0, .ref q1, .ref q2, .int 0, .ref q3, .ref q4, .ref q5, .null, .null, .null, .null, .int 0, .int 0])), (q1, .inl (g.cA 0, 12, .inl (fun _ => 0))), (q2, .inl (g.cA 0, 12, .inl (fun _ => 0))), (q3, .inl (g.cA 0, 24, .inl (fun _ => 0))), (q4, .inl (g.cA 0, 24, .inl (fun _ => 0))), (q5, .inl (g.cA 0, 24, .inl (fun _ => 0))), (q6, .inl (g.cA 0, 24, .inl (fun _ => 0)))] H := hP
  have hD : va_D A [(h0, .inr (1, [.null, .null, .int 0, .ref q1, .ref q2, .int 0, .ref q3, .ref q4, .ref q5, .null, .null, .null, .null, .int 0, .int 0])), (q1, .inl (g.cA 0, 12, .inl (fun _ => 0))), (q2, .inl (g.cA 0, 12, .inl (fun _ => 0))), (q3, .inl (g.cA 0, 24, .inl (fun _ => 0))), (q4, .inl (g.cA 0, 24, .inl (fun _ => 0))), (q5, .inl (g.cA 0, 24, .inl (fun _ => 0))), (q6, .inl (g.cA 0, 24, .inl (fun _ => 0)))] := hD
  refine kp_f (ci := 1) (k := 9) (q0 := 0) (ws' := [(h0, .inr (1, [.null, .null, .int 0, .ref q1, .ref q2, .int 0, .ref q3, .ref q4, .ref q5, .ref q6, .null, .null, .null, .int 0, .int 0])), (q1, .inl (g.cA 0, 12, .inl (fun _ => 0))), (q2, .inl (g.cA 0, 12, .inl (fun _ => 0))), (q3, .inl (g.cA 0, 24, .inl (fun _ => 0))), (q4, .inl (g.cA 0, 24, .inl (fun _ => 0))), (q5, .inl (g.cA 0, 24, .inl (fun _ => 0))), (q6, .inl (g.cA 0, 24, .inl (fun _ => 0)))]) hx hb hts hown hin hK hP hD hS rfl igX1 tyX1_ok nmX1 fl_1_29 (Nat.le_of_ble_eq_true rfl) rfl rfl rfl rfl (Nat.le_of_ble_eq_true rfl) rfl rfl dX1_init_49 (fun H locs hP hD hS => ?_)
  refine lv_aload_n hx hb dX1_init_52 rfl (lv_at hl 0 rfl) ?_
  refine lv_bipush (v := 24) hx hb dX1_init_53 rfl ?_
  refine kn_i (N := 24) hx hb hts hK hP hD hS hA (by decide) rfl (Nat.le_of_ble_eq_true rfl) (Nat.le_of_ble_eq_true rfl) (Nat.le_of_ble_eq_true rfl) dX1_init_55 (fun q7 H hP hD hS => ?_)
  refine W.widen (k := 7) (n := 144) (Nat.le_of_ble_eq_true rfl) (Nat.le_of_ble_eq_true rfl) ?_
  have hP : va_P g.D xcl [(h0, .inr (1, [.null, .null, .int 0, .ref q1, .ref q2, .int 0, .ref q3, .ref q4, .ref q5, .ref q6, .null, .null, .null, .int 0, .int 0])), (q1, .inl (g.cA 0, 12, .inl (fun _ => 0))), (q2, .inl (g.cA 0, 12, .inl (fun _ => 0))), (q3, .inl (g.cA 0, 24, .inl (fun _ => 0))), (q4, .inl (g.cA 0, 24, .inl (fun _ => 0))), (q5, .inl (g.cA 0, 24, .inl (fun _ => 0))), (q6, .inl (g.cA 0, 24, .inl (fun _ => 0))), (q7, .inl (g.cA 0, 24, .inl (fun _ => 0)))] H := hP
  have hD : va_D A [(h0, .inr (1, [.null, .null, .int 0, .ref q1, .ref q2, .int 0, .ref q3, .ref q4, .ref q5, .ref q6, .null, .null, .null, .int 0, .int 0])), (q1, .inl (g.cA 0, 12, .inl (fun _ => 0))), (q2, .inl (g.cA 0, 12, .inl (fun _ => 0))), (q3, .inl (g.cA 0, 24, .inl (fun _ => 0))), (q4, .inl (g.cA 0, 24, .inl (fun _ => 0))), (q5, .inl (g.cA 0, 24, .inl (fun _ => 0))), (q6, .inl (g.cA 0, 24, .inl (fun _ => 0))), (q7, .inl (g.cA 0, 24, .inl (fun _ => 0)))] := hD
  refine kp_f (ci := 1) (k := 10) (q0 := 0) (ws' := [(h0, .inr (1, [.null, .null, .int 0, .ref q1, .ref q2, .int 0, .ref q3, .ref q4, .ref q5, .ref q6, .ref q7, .null, .null, .int 0, .int 0])), (q1, .inl (g.cA 0, 12, .inl (fun _ => 0))), (q2, .inl (g.cA 0, 12, .inl (fun _ => 0))), (q3, .inl (g.cA 0, 24, .inl (fun _ => 0))), (q4, .inl (g.cA 0, 24, .inl (fun _ => 0))), (q5, .inl (g.cA 0, 24, .inl (fun _ => 0))), (q6, .inl (g.cA 0, 24, .inl (fun _ => 0))), (q7, .inl (g.cA 0, 24, .inl (fun _ => 0)))]) hx hb hts hown hin hK hP hD hS rfl igX1 tyX1_ok nmX1 fl_1_32 (Nat.le_of_ble_eq_true rfl) rfl rfl rfl rfl (Nat.le_of_ble_eq_true rfl) rfl rfl dX1_init_57 (fun H locs hP hD hS => ?_)
  refine lv_aload_n hx hb dX1_init_60 rfl (lv_at hl 0 rfl) ?_
  refine lv_bipush (v := 24) hx hb dX1_init_61 rfl ?_
  refine kn_i (N := 24) hx hb hts hK hP hD hS hA (by decide) rfl (Nat.le_of_ble_eq_true rfl) (Nat.le_of_ble_eq_true rfl) (Nat.le_of_ble_eq_true rfl) dX1_init_63 (fun q8 H hP hD hS => ?_)
  refine W.widen (k := 8) (n := 168) (Nat.le_of_ble_eq_true rfl) (Nat.le_of_ble_eq_true rfl) ?_
  have hP : va_P g.D xcl [(h0, .inr (1, [.null, .null, .int 0, .ref q1, .ref q2, .int 0, .ref q3, .ref q4, .ref q5, .ref q6, .ref q7, .null, .null, .int 0, .int 0])), (q1, .inl (g.cA 0, 12, .inl (fun _ => 0))), (q2, .inl (g.cA 0, 12, .inl (fun _ => 0))), (q3, .inl (g.cA 0, 24, .inl (fun _ => 0))), (q4, .inl (g.cA 0, 24, .inl (fun _ => 0))), (q5, .inl (g.cA 0, 24, .inl (fun _ => 0))), (q6, .inl (g.cA 0, 24, .inl (fun _ => 0))), (q7, .inl (g.cA 0, 24, .inl (fun _ => 0))), (q8, .inl (g.cA 0, 24, .inl (fun _ => 0)))] H := hP
  have hD : va_D A [(h0, .inr (1, [.null, .null, .int 0, .ref q1, .ref q2, .int 0, .ref q3, .ref q4, .ref q5, .ref q6, .ref q7, .null, .null, .int 0, .int 0])), (q1, .inl (g.cA 0, 12, .inl (fun _ => 0))), (q2, .inl (g.cA 0, 12, .inl (fun _ => 0))), (q3, .inl (g.cA 0, 24, .inl (fun _ => 0))), (q4, .inl (g.cA 0, 24, .inl (fun _ => 0))), (q5, .inl (g.cA 0, 24, .inl (fun _ => 0))), (q6, .inl (g.cA 0, 24, .inl (fun _ => 0))), (q7, .inl (g.cA 0, 24, .inl (fun _ => 0))), (q8, .inl (g.cA 0, 24, .inl (fun _ => 0)))] := hD
  refine kp_f (ci := 1) (k := 11) (q0 := 0) (ws' := [(h0, .inr (1, [.null, .null, .int 0, .ref q1, .ref q2, .int 0, .ref q3, .ref q4, .ref q5, .ref q6, .ref q7, .ref q8, .null, .int 0, .int 0])), (q1, .inl (g.cA 0, 12, .inl (fun _ => 0))), (q2, .inl (g.cA 0, 12, .inl (fun _ => 0))), (q3, .inl (g.cA 0, 24, .inl (fun _ => 0))), (q4, .inl (g.cA 0, 24, .inl (fun _ => 0))), (q5, .inl (g.cA 0, 24, .inl (fun _ => 0))), (q6, .inl (g.cA 0, 24, .inl (fun _ => 0))), (q7, .inl (g.cA 0, 24, .inl (fun _ => 0))), (q8, .inl (g.cA 0, 24, .inl (fun _ => 0)))]) hx hb hts hown hin hK hP hD hS rfl igX1 tyX1_ok nmX1 fl_1_35 (Nat.le_of_ble_eq_true rfl) rfl rfl rfl rfl (Nat.le_of_ble_eq_true rfl) rfl rfl dX1_init_65 (fun H locs hP hD hS => ?_)
  refine lv_aload_n hx hb dX1_init_68 rfl (lv_at hl 0 rfl) ?_
  refine lv_bipush (v := 24) hx hb dX1_init_69 rfl ?_
  refine kn_i (N := 24) hx hb hts hK hP hD hS hA (by decide) rfl (Nat.le_of_ble_eq_true rfl) (Nat.le_of_ble_eq_true rfl) (Nat.le_of_ble_eq_true rfl) dX1_init_71 (fun q9 H hP hD hS => ?_)
  refine W.widen (k := 9) (n := 192) (Nat.le_of_ble_eq_true rfl) (Nat.le_of_ble_eq_true rfl) ?_
  have hP : va_P g.D xcl [(h0, .inr (1, [.null, .null, .int 0, .ref q1, .ref q2, .int 0, .ref q3, .ref q4, .ref q5, .ref q6, .ref q7, .ref q8, .null, .int 0, .int 0])), (q1, .inl (g.cA 0, 12, .inl (fun _ => 0))), (q2, .inl (g.cA 0, 12, .inl (fun _ => 0))), (q3, .inl (g.cA 0, 24, .inl (fun _ => 0))), (q4, .inl (g.cA 0, 24, .inl (fun _ => 0))), (q5, .inl (g.cA 0, 24, .inl (fun _ => 0))), (q6, .inl (g.cA 0, 24, .inl (fun _ => 0))), (q7, .inl (g.cA 0, 24, .inl (fun _ => 0))), (q8, .inl (g.cA 0, 24, .inl (fun _ => 0))), (q9, .inl (g.cA 0, 24, .inl (fun _ => 0)))] H := hP
  have hD : va_D A [(h0, .inr (1, [.null, .null, .int 0, .ref q1, .ref q2, .int 0, .ref q3, .ref q4, .ref q5, .ref q6, .ref q7, .ref q8, .null, .int 0, .int 0])), (q1, .inl (g.cA 0, 12, .inl (fun _ => 0))), (q2, .inl (g.cA 0, 12, .inl (fun _ => 0))), (q3, .inl (g.cA 0, 24, .inl (fun _ => 0))), (q4, .inl (g.cA 0, 24, .inl (fun _ => 0))), (q5, .inl (g.cA 0, 24, .inl (fun _ => 0))), (q6, .inl (g.cA 0, 24, .inl (fun _ => 0))), (q7, .inl (g.cA 0, 24, .inl (fun _ => 0))), (q8, .inl (g.cA 0, 24, .inl (fun _ => 0))), (q9, .inl (g.cA 0, 24, .inl (fun _ => 0)))] := hD
  refine kp_f (ci := 1) (k := 12) (q0 := 0) (ws' := [(h0, .inr (1, [.null, .null, .int 0, .ref q1, .ref q2, .int 0, .ref q3, .ref q4, .ref q5, .ref q6, .ref q7, .ref q8, .ref q9, .int 0, .int 0])), (q1, .inl (g.cA 0, 12, .inl (fun _ => 0))), (q2, .inl (g.cA 0, 12, .inl (fun _ => 0))), (q3, .inl (g.cA 0, 24, .inl (fun _ => 0))), (q4, .inl (g.cA 0, 24, .inl (fun _ => 0))), (q5, .inl (g.cA 0, 24, .inl (fun _ => 0))), (q6, .inl (g.cA 0, 24, .inl (fun _ => 0))), (q7, .inl (g.cA 0, 24, .inl (fun _ => 0))), (q8, .inl (g.cA 0, 24, .inl (fun _ => 0))), (q9, .inl (g.cA 0, 24, .inl (fun _ => 0)))]) hx hb hts hown hin hK hP hD hS rfl igX1 tyX1_ok nmX1 fl_1_38 (Nat.le_of_ble_eq_true rfl) rfl rfl rfl rfl (Nat.le_of_ble_eq_true rfl) rfl rfl dX1_init_73 (fun H locs hP hD hS => ?_)
  refine lv_aload_n hx hb dX1_init_76 rfl (lv_at hl 0 rfl) ?_
  refine lv_aload_n hx hb dX1_init_77 rfl (lv_at hl 1 rfl) ?_
  refine kp_f (ci := 1) (k := 0) (q0 := 0) (ws' := [(h0, .inr (1, [.ref a0, .null, .int 0, .ref q1, .ref q2, .int 0, .ref q3, .ref q4, .ref q5, .ref q6, .ref q7, .ref q8, .ref q9, .int 0, .int 0])), (q1, .inl (g.cA 0, 12, .inl (fun _ => 0))), (q2, .inl (g.cA 0, 12, .inl (fun _ => 0))), (q3, .inl (g.cA 0, 24, .inl (fun _ => 0))), (q4, .inl (g.cA 0, 24, .inl (fun _ => 0))), (q5, .inl (g.cA 0, 24, .inl (fun _ => 0))), (q6, .inl (g.cA 0, 24, .inl (fun _ => 0))), (q7, .inl (g.cA 0, 24, .inl (fun _ => 0))), (q8, .inl (g.cA 0, 24, .inl (fun _ => 0))), (q9, .inl (g.cA 0, 24, .inl (fun _ => 0)))]) hx hb hts hown hin hK hP hD hS rfl igX1 tyX1_ok nmX1 fl_1_41 (Nat.le_of_ble_eq_true rfl) rfl rfl rfl rfl (Nat.le_of_ble_eq_true rfl) rfl rfl dX1_init_78 (fun H locs hP hD hS => ?_)
  refine lv_aload_n hx hb dX1_init_81 rfl (lv_at hl 0 rfl) ?_
  refine lv_aload_n hx hb dX1_init_82 rfl (lv_at hl 2 rfl) ?_
  refine kp_f (ci := 1) (k := 1) (q0 := 0) (ws' := [(h0, .inr (1, [.ref a0, .ref a1, .int 0, .ref q1, .ref q2, .int 0, .ref q3, .ref q4, .ref q5, .ref q6, .ref q7, .ref q8, .ref q9, .int 0, .int 0])), (q1, .inl (g.cA 0, 12, .inl (fun _ => 0))), (q2, .inl (g.cA 0, 12, .inl (fun _ => 0))), (q3, .inl (g.cA 0, 24, .inl (fun _ => 0))), (q4, .inl (g.cA 0, 24, .inl (fun _ => 0))), (q5, .inl (g.cA 0, 24, .inl (fun _ => 0))), (q6, .inl (g.cA 0, 24, .inl (fun _ => 0))), (q7, .inl (g.cA 0, 24, .inl (fun _ => 0))), (q8, .inl (g.cA 0, 24, .inl (fun _ => 0))), (q9, .inl (g.cA 0, 24, .inl (fun _ => 0)))]) hx hb hts hown hin hK hP hD hS rfl igX1 tyX1_ok nmX1 fl_1_45 (Nat.le_of_ble_eq_true rfl) rfl rfl rfl rfl (Nat.le_of_ble_eq_true rfl) rfl rfl dX1_init_83 (fun H locs hP hD hS => ?_)
  exact W.vret hx hb hr (fun t ht hW => ⟨⟨(), rfl, trivial, q1, q2, q3, q4, q5, q6, q7, q8, q9, by rw [ht]; exact hP, hD⟩, hS.F ht⟩) hS.2.2 dX1_init_86
theorem dX9_init_0 : decode cX9_init 0 = .ok (.aload_n 0, 1) := by decide +kernel
theorem dX9_init_1 : decode cX9_init 1 = .ok (.invokespecial 3, 3) := by decide +kernel
theorem dX9_init_4 : decode cX9_init 4 = .ok (.aload_n 0, 1) := by decide +kernel
theorem dX9_init_5 : decode cX9_init 5 = .ok (.bipush 40, 2) := by decide +kernel
theorem dX9_init_7 : decode cX9_init 7 = .ok (.newarray .long, 2) := by decide +kernel
theorem dX9_init_9 : decode cX9_init 9 = .ok (.putfield 11, 3) := by decide +kernel
theorem dX9_init_12 : decode cX9_init 12 = .ok (.aload_n 0, 1) := by decide +kernel
theorem dX9_init_13 : decode cX9_init 13 = .ok (.bipush 40, 2) := by decide +kernel
theorem dX9_init_15 : decode cX9_init 15 = .ok (.newarray .int, 2) := by decide +kernel
theorem dX9_init_17 : decode cX9_init 17 = .ok (.putfield 15, 3) := by decide +kernel
theorem dX9_init_20 : decode cX9_init 20 = .ok (.aload_n 0, 1) := by decide +kernel
theorem dX9_init_21 : decode cX9_init 21 = .ok (.bipush 40, 2) := by decide +kernel
theorem dX9_init_23 : decode cX9_init 23 = .ok (.newarray .int, 2) := by decide +kernel
theorem dX9_init_25 : decode cX9_init 25 = .ok (.putfield 19, 3) := by decide +kernel
theorem dX9_init_28 : decode cX9_init 28 = .ok (.aload_n 0, 1) := by decide +kernel
theorem dX9_init_29 : decode cX9_init 29 = .ok (.bipush 40, 2) := by decide +kernel
theorem dX9_init_31 : decode cX9_init 31 = .ok (.newarray .long, 2) := by decide +kernel
theorem dX9_init_33 : decode cX9_init 33 = .ok (.putfield 22, 3) := by decide +kernel
theorem dX9_init_36 : decode cX9_init 36 = .ok (.return_, 1) := by decide +kernel
set_option maxHeartbeats 4000000 in
set_option maxRecDepth 100000 in
theorem k_X9_init {l : Launch} {g : XG} (h0 sz : Nat) : Met l yX9_init (.code yX9_init cX9_init 1 none :: lw_g) { frames := 1, cells := 4, slots := 160, locals := 60 } (va_Pc [.ref h0] (fun U => U.heap.size = sz ∧ va_P g.D xcl [(h0, .inr (9, [.int 0, .null, .null, .null, .null]))] U.heap ∧ va_K g.D xcl (xty g.cA) U ∧ va_D (fun _ => True) [(h0, .inr (9, [.int 0, .null, .null, .null, .null]))] ∧ xcs (va_A [(h0, .inr (9, [.int 0, .null, .null, .null, .null]))] sz) g U U.heap)) (va_Qv (fun _ : Unit => True) (fun _ t => ∃ (q1 q2 q3 q4 : Nat), va_P g.D xcl [(h0, .inr (9, [.int 0, .ref q1, .ref q2, .ref q3, .ref q4])), (q1, .inl (g.cA 1, 40, .inr (.inl (fun _ => 0)))), (q2, .inl (g.cA 0, 40, .inl (fun _ => 0))), (q3, .inl (g.cA 0, 40, .inl (fun _ => 0))), (q4, .inl (g.cA 1, 40, .inr (.inl (fun _ => 0))))] t.heap ∧ va_D (va_A [(h0, .inr (9, [.int 0, .null, .null, .null, .null]))] sz) [(h0, .inr (9, [.int 0, .ref q1, .ref q2, .ref q3, .ref q4])), (q1, .inl (g.cA 1, 40, .inr (.inl (fun _ => 0)))), (q2, .inl (g.cA 0, 40, .inl (fun _ => 0))), (q3, .inl (g.cA 0, 40, .inl (fun _ => 0))), (q4, .inl (g.cA 1, 40, .inr (.inl (fun _ => 0))))]) (va_A [(h0, .inr (9, [.int 0, .null, .null, .null, .null]))] sz)) 4 160 (va_A [(h0, .inr (9, [.int 0, .null, .null, .null, .null]))] sz) := by
  refine Met.ofW (cc := cX9_init) (maxL := 1) (ret := none) pn_X9 rfl ?_
  intro p e s m args below meth c s₁ B hml hv
  obtain ⟨rfl, hsz, hP, hK, hD0, hcs⟩ := hv
  have hx := B.exec
  have hb := B.bytes
  have hr := B.returns
  have hts1 := atoms_spec (ws := .code yX9_init cX9_init 1 none :: lw_g) B.pre
  have hts : ∀ w ∈ lw_g, w.before _ s = true := fun w hw => hts1 w (List.mem_cons_of_mem _ hw)
  have hown : s.vm.findClass RX9 = some m.cls := findClass_of_methodNamed B.named
  have hlocks := B.notSynchronized
  have hin : meth.name = "<init>" := (name_of_methodNamed B.named B.method).1
  subst hsz
  have hD := hD0.self (sz := s.heap.size)
  generalize hAe : va_A [(h0, .inr (9, [.int 0, .null, .null, .null, .null]))] s.heap.size = A at hD hcs ⊢
  have hA : ∀ q : Nat, s.heap.size ≤ q → A q := fun q h => by rw [← hAe]; exact Or.inr h
  have hS : va_S A s.heap s.heap [] := va_S.rf
  have hP : va_P g.D xcl [(h0, .inr (9, [.int 0, .null, .null, .null, .null]))] s.heap := hP
  have hl := lv_entry ([.ref h0]) (n := 1) (Nat.le_of_ble_eq_true rfl)
  rw [lg_entry_eq]
  generalize (lg_sl ([.ref h0]) ++ List.replicate (1 - (lg_sl ([.ref h0])).length) Slot.unset).toArray = ls at hl ⊢
  have hl : lv_has ls 1 [(0, .ref h0)] := hl
  refine lv_aload_n hx hb dX9_init_0 rfl (lv_at hl 0 rfl) ?_
  refine W.objInit hx hb hown (hts _ ml_X9_3) (hts _ xoi_i) (hts _ xoi_c) rfl (by rw [hml]; exact hl.1) rfl dX9_init_1 (Nat.le_of_ble_eq_true rfl) (Nat.le_of_ble_eq_true rfl) ?_
  refine W.eq (g2 := F0 m 4 ls []) rfl ?_
  refine lv_aload_n hx hb dX9_init_4 rfl (lv_at hl 0 rfl) ?_
  refine lv_bipush (v := 40) hx hb dX9_init_5 rfl ?_
  refine kn_l (N := 40) hx hb hts hK hP hD hS hA (by decide) rfl (Nat.le_of_ble_eq_true rfl) (Nat.le_of_ble_eq_true rfl) (Nat.le_of_ble_eq_true rfl) dX9_init_7 (fun q1 H hP hD hS => ?_)
  refine W.widen (k := 1) (n := 40) (Nat.le_of_ble_eq_true rfl) (Nat.le_of_ble_eq_true rfl) ?_
  have hP : va_P g.D xcl [(h0, .inr (9, [.int 0, .null, .null, .null, .null])), (q1, .inl (g.cA 1, 40, .inr (.inl (fun _ => 0))))] H := hP
  have hD : va_D A [(h0, .inr (9, [.int 0, .null, .null, .null, .null])), (q1, .inl (g.cA 1, 40, .inr (.inl (fun _ => 0))))] := hD
  refine kp_f (ci := 9) (k := 1) (q0 := 0) (ws' := [(h0, .inr (9, [.int 0, .ref q1, .null, .null, .null])), (q1, .inl (g.cA 1, 40, .inr (.inl (fun _ => 0))))]) hx hb hts hown hin hK hP hD hS rfl igX9 tyX9_ok nmX9 fl_9_11 (Nat.le_of_ble_eq_true rfl) rfl rfl rfl rfl (Nat.le_of_ble_eq_true rfl) rfl rfl dX9_init_9 (fun H locs hP hD hS => ?_)
  refine lv_aload_n hx hb dX9_init_12 rfl (lv_at hl 0 rfl) ?_
  refine lv_bipush (v := 40) hx hb dX9_init_13 rfl ?_
  refine kn_i (N := 40) hx hb hts hK hP hD hS hA (by decide) rfl (Nat.le_of_ble_eq_true rfl) (Nat.le_of_ble_eq_true rfl) (Nat.le_of_ble_eq_true rfl) dX9_init_15 (fun q2 H hP hD hS => ?_)
  refine W.widen (k := 2) (n := 80) (Nat.le_of_ble_eq_true rfl) (Nat.le_of_ble_eq_true rfl) ?_
  have hP : va_P g.D xcl [(h0, .inr (9, [.int 0, .ref q1, .null, .null, .null])), (q1, .inl (g.cA 1, 40, .inr (.inl (fun _ => 0)))), (q2, .inl (g.cA 0, 40, .inl (fun _ => 0)))] H := hP
  have hD : va_D A [(h0, .inr (9, [.int 0, .ref q1, .null, .null, .null])), (q1, .inl (g.cA 1, 40, .inr (.inl (fun _ => 0)))), (q2, .inl (g.cA 0, 40, .inl (fun _ => 0)))] := hD
  refine kp_f (ci := 9) (k := 2) (q0 := 0) (ws' := [(h0, .inr (9, [.int 0, .ref q1, .ref q2, .null, .null])), (q1, .inl (g.cA 1, 40, .inr (.inl (fun _ => 0)))), (q2, .inl (g.cA 0, 40, .inl (fun _ => 0)))]) hx hb hts hown hin hK hP hD hS rfl igX9 tyX9_ok nmX9 fl_9_15 (Nat.le_of_ble_eq_true rfl) rfl rfl rfl rfl (Nat.le_of_ble_eq_true rfl) rfl rfl dX9_init_17 (fun H locs hP hD hS => ?_)
  refine lv_aload_n hx hb dX9_init_20 rfl (lv_at hl 0 rfl) ?_
  refine lv_bipush (v := 40) hx hb dX9_init_21 rfl ?_
  refine kn_i (N := 40) hx hb hts hK hP hD hS hA (by decide) rfl (Nat.le_of_ble_eq_true rfl) (Nat.le_of_ble_eq_true rfl) (Nat.le_of_ble_eq_true rfl) dX9_init_23 (fun q3 H hP hD hS => ?_)
  refine W.widen (k := 3) (n := 120) (Nat.le_of_ble_eq_true rfl) (Nat.le_of_ble_eq_true rfl) ?_
  have hP : va_P g.D xcl [(h0, .inr (9, [.int 0, .ref q1, .ref q2, .null, .null])), (q1, .inl (g.cA 1, 40, .inr (.inl (fun _ => 0)))), (q2, .inl (g.cA 0, 40, .inl (fun _ => 0))), (q3, .inl (g.cA 0, 40, .inl (fun _ => 0)))] H := hP
  have hD : va_D A [(h0, .inr (9, [.int 0, .ref q1, .ref q2, .null, .null])), (q1, .inl (g.cA 1, 40, .inr (.inl (fun _ => 0)))), (q2, .inl (g.cA 0, 40, .inl (fun _ => 0))), (q3, .inl (g.cA 0, 40, .inl (fun _ => 0)))] := hD
  refine kp_f (ci := 9) (k := 3) (q0 := 0) (ws' := [(h0, .inr (9, [.int 0, .ref q1, .ref q2, .ref q3, .null])), (q1, .inl (g.cA 1, 40, .inr (.inl (fun _ => 0)))), (q2, .inl (g.cA 0, 40, .inl (fun _ => 0))), (q3, .inl (g.cA 0, 40, .inl (fun _ => 0)))]) hx hb hts hown hin hK hP hD hS rfl igX9 tyX9_ok nmX9 fl_9_19 (Nat.le_of_ble_eq_true rfl) rfl rfl rfl rfl (Nat.le_of_ble_eq_true rfl) rfl rfl dX9_init_25 (fun H locs hP hD hS => ?_)
  refine lv_aload_n hx hb dX9_init_28 rfl (lv_at hl 0 rfl) ?_
  refine lv_bipush (v := 40) hx hb dX9_init_29 rfl ?_
  refine kn_l (N := 40) hx hb hts hK hP hD hS hA (by decide) rfl (Nat.le_of_ble_eq_true rfl) (Nat.le_of_ble_eq_true rfl) (Nat.le_of_ble_eq_true rfl) dX9_init_31 (fun q4 H hP hD hS => ?_)
  refine W.widen (k := 4) (n := 160) (Nat.le_of_ble_eq_true rfl) (Nat.le_of_ble_eq_true rfl) ?_
  have hP : va_P g.D xcl [(h0, .inr (9, [.int 0, .ref q1, .ref q2, .ref q3, .null])), (q1, .inl (g.cA 1, 40, .inr (.inl (fun _ => 0)))), (q2, .inl (g.cA 0, 40, .inl (fun _ => 0))), (q3, .inl (g.cA 0, 40, .inl (fun _ => 0))), (q4, .inl (g.cA 1, 40, .inr (.inl (fun _ => 0))))] H := hP
  have hD : va_D A [(h0, .inr (9, [.int 0, .ref q1, .ref q2, .ref q3, .null])), (q1, .inl (g.cA 1, 40, .inr (.inl (fun _ => 0)))), (q2, .inl (g.cA 0, 40, .inl (fun _ => 0))), (q3, .inl (g.cA 0, 40, .inl (fun _ => 0))), (q4, .inl (g.cA 1, 40, .inr (.inl (fun _ => 0))))] := hD
  refine kp_f (ci := 9) (k := 4) (q0 := 0) (ws' := [(h0, .inr (9, [.int 0, .ref q1, .ref q2, .ref q3, .ref q4])), (q1, .inl (g.cA 1, 40, .inr (.inl (fun _ => 0)))), (q2, .inl (g.cA 0, 40, .inl (fun _ => 0))), (q3, .inl (g.cA 0, 40, .inl (fun _ => 0))), (q4, .inl (g.cA 1, 40, .inr (.inl (fun _ => 0))))]) hx hb hts hown hin hK hP hD hS rfl igX9 tyX9_ok nmX9 fl_9_22 (Nat.le_of_ble_eq_true rfl) rfl rfl rfl rfl (Nat.le_of_ble_eq_true rfl) rfl rfl dX9_init_33 (fun H locs hP hD hS => ?_)
  exact W.vret hx hb hr (fun t ht hW => ⟨⟨(), rfl, trivial, q1, q2, q3, q4, by rw [ht]; exact hP, hD⟩, hS.F ht⟩) hS.2.2 dX9_init_36
theorem dX7_init_0 : decode cX7_init 0 = .ok (.aload_n 0, 1) := by decide +kernel
theorem dX7_init_1 : decode cX7_init 1 = .ok (.invokespecial 1, 3) := by decide +kernel
theorem dX7_init_4 : decode cX7_init 4 = .ok (.aload_n 0, 1) := by decide +kernel
theorem dX7_init_5 : decode cX7_init 5 = .ok (.sipush 384, 3) := by decide +kernel
theorem dX7_init_8 : decode cX7_init 8 = .ok (.newarray .int, 2) := by decide +kernel
theorem dX7_init_10 : decode cX7_init 10 = .ok (.putfield 9, 3) := by decide +kernel
theorem dX7_init_13 : decode cX7_init 13 = .ok (.aload_n 0, 1) := by decide +kernel
theorem dX7_init_14 : decode cX7_init 14 = .ok (.aload_n 1, 1) := by decide +kernel
theorem dX7_init_15 : decode cX7_init 15 = .ok (.putfield 13, 3) := by decide +kernel
theorem dX7_init_18 : decode cX7_init 18 = .ok (.aload_n 0, 1) := by decide +kernel
theorem dX7_init_19 : decode cX7_init 19 = .ok (.aload_n 2, 1) := by decide +kernel
theorem dX7_init_20 : decode cX7_init 20 = .ok (.putfield 17, 3) := by decide +kernel
theorem dX7_init_23 : decode cX7_init 23 = .ok (.return_, 1) := by decide +kernel
set_option maxHeartbeats 4000000 in
set_option maxRecDepth 100000 in
theorem k_X7_init {l : Launch} {g : XG} (h0 sz a0 a1 : Nat) : Met l yX7_init (.code yX7_init cX7_init 3 none :: lw_g) { frames := 1, cells := 1, slots := 384, locals := 60 } (va_Pc [.ref h0, .ref a0, .ref a1] (fun U => U.heap.size = sz ∧ va_P g.D xcl [(h0, .inr (7, [.null, .null, .int 0, .long 0, .long 0, .int 0, .int 0, .null]))] U.heap ∧ va_K g.D xcl (xty g.cA) U ∧ va_D (fun _ => True) [(h0, .inr (7, [.null, .null, .int 0, .long 0, .long 0, .int 0, .int 0, .null]))] ∧ xcs (va_A [(h0, .inr (7, [.null, .null, .int 0, .long 0, .long 0, .int 0, .int 0, .null]))] sz) g U U.heap)) (va_Qv (fun _ : Unit => True) (fun _ t => ∃ (q1 : Nat), va_P g.D xcl [(h0, .inr (7, [.ref a0, .ref a1, .int 0, .long 0, .long 0, .int 0, .int 0, .ref q1])), (q1, .inl (g.cA 0, 384, .inl (fun _ => 0)))] t.heap ∧ va_D (va_A [(h0, .inr (7, [.null, .null, .int 0, .long 0, .long 0, .int 0, .int 0, .null]))] sz) [(h0, .inr (7, [.ref a0, .ref a1, .int 0, .long 0, .long 0, .int 0, .int 0, .ref q1])), (q1, .inl (g.cA 0, 384, .inl (fun _ => 0)))]) (va_A [(h0, .inr (7, [.null, .null, .int 0, .long 0, .long 0, .int 0, .int 0, .null]))] sz)) 1 384 (va_A [(h0, .inr (7, [.null, .null, .int 0, .long 0, .long 0, .int 0, .int 0, .null]))] sz) := by
  refine Met.ofW (cc := cX7_init) (maxL := 3) (ret := none) pn_X7 rfl ?_
  intro p e s m args below meth c s₁ B hml hv
  obtain ⟨rfl, hsz, hP, hK, hD0, hcs⟩ := hv
  have hx := B.exec
  have hb := B.bytes
  have hr := B.returns
  have hts1 := atoms_spec (ws := .code yX7_init cX7_init 3 none :: lw_g) B.pre
  have hts : ∀ w ∈ lw_g, w.before _ s = true := fun w hw => hts1 w (List.mem_cons_of_mem _ hw)
  have hown : s.vm.findClass RX7 = some m.cls := findClass_of_methodNamed B.named
  have hlocks := B.notSynchronized
  have hin : meth.name = "<init>" := (name_of_methodNamed B.named B.method).1
  subst hsz
  have hD := hD0.self (sz := s.heap.size)
  generalize hAe : va_A [(h0, .inr (7, [.null, .null, .int 0, .long 0, .long 0, .int 0, .int 0, .null]))] s.heap.size = A at hD hcs ⊢
  have hA : ∀ q : Nat, s.heap.size ≤ q → A q := fun q h => by rw [← hAe]; exact Or.inr h
  have hS : va_S A s.heap s.heap [] := va_S.rf
  have hP : va_P g.D xcl [(h0, .inr (7, [.null, .null, .int 0, .long 0, .long 0, .int 0, .int 0, .null]))] s.heap := hP
  have hl := lv_entry ([.ref h0, .ref a0, .ref a1]) (n := 3) (Nat.le_of_ble_eq_true rfl)
  rw [lg_entry_eq]
  generalize (lg_sl ([.ref h0, .ref a0, .ref a1]) ++ List.replicate (3 - (lg_sl ([.ref h0, .ref a0, .ref a1])).length) Slot.unset).toArray = ls at hl ⊢
  have hl : lv_has ls 3 [(0, .ref h0), (1, .ref a0), (2, .ref a1)] := hl
  refine lv_aload_n hx hb dX7_init_0 rfl (lv_at hl 0 rfl) ?_
  refine W.objInit hx hb hown (hts _ ml_X7_1) (hts _ xoi_i) (hts _ xoi_c) rfl (by rw [hml]; exact hl.1) rfl dX7_init_1 (Nat.le_of_ble_eq_true rfl) (Nat.le_of_ble_eq_true rfl) ?_
  refine W.eq (g2 := F0 m 4 ls []) rfl ?_
  refine lv_aload_n hx hb dX7_init_4 rfl (lv_at hl 0 rfl) ?_
  refine lv_sipush (v := 384) hx hb dX7_init_5 rfl ?_
  refine kn_i (N := 384) hx hb hts hK hP hD hS hA (by decide) rfl (Nat.le_of_ble_eq_true rfl) (Nat.le_of_ble_eq_true rfl) (Nat.le_of_ble_eq_true rfl) dX7_init_8 (fun q1 H hP hD hS => ?_)
  refine W.widen (k := 1) (n := 384) (Nat.le_of_ble_eq_true rfl) (Nat.le_of_ble_eq_true rfl) ?_
  have hP : va_P g.D xcl [(h0, .inr (7, [.null, .null, .int 0, .long 0, .long 0, .int 0, .int 0, .null])), (q1, .inl (g.cA 0, 384, .inl (fun _ => 0)))] H := hP
  have hD : va_D A [(h0, .inr (7, [.null, .null, .int 0, .long 0, .long 0, .int 0, .int 0, .null])), (q1, .inl (g.cA 0, 384, .inl (fun _ => 0)))] := hD
  refine kp_f (ci := 7) (k := 7) (q0 := 0) (ws' := [(h0, .inr (7, [.null, .null, .int 0, .long 0, .long 0, .int 0, .int 0, .ref q1])), (q1, .inl (g.cA 0, 384, .inl (fun _ => 0)))]) hx hb hts hown hin hK hP hD hS rfl igX7 tyX7_ok nmX7 fl_7_9 (Nat.le_of_ble_eq_true rfl) rfl rfl rfl rfl (Nat.le_of_ble_eq_true rfl) rfl rfl dX7_init_10 (fun H locs hP hD hS => ?_)
  refine lv_aload_n hx hb dX7_init_13 rfl (lv_at hl 0 rfl) ?_
  refine lv_aload_n hx hb dX7_init_14 rfl (lv_at hl 1 rfl) ?_
  refine kp_f (ci := 7) (k := 0) (q0 := 0) (ws' := [(h0, .inr (7, [.ref a0, .null, .int 0, .long 0, .long 0, .int 0, .int 0, .ref q1])), (q1, .inl (g.cA 0, 384, .inl (fun _ => 0)))]) hx hb hts hown hin hK hP hD hS rfl igX7 tyX7_ok nmX7 fl_7_13 (Nat.le_of_ble_eq_true rfl) rfl rfl rfl rfl (Nat.le_of_ble_eq_true rfl) rfl rfl dX7_init_15 (fun H locs hP hD hS => ?_)
  refine lv_aload_n hx hb dX7_init_18 rfl (lv_at hl 0 rfl) ?_
  refine lv_aload_n hx hb dX7_init_19 rfl (lv_at hl 2 rfl) ?_
  refine kp_f (ci := 7) (k := 1) (q0 := 0) (ws' := [(h0, .inr (7, [.ref a0, .ref a1, .int 0, .long 0, .long 0, .int 0, .int 0, .ref q1])), (q1, .inl (g.cA 0, 384, .inl (fun _ => 0)))]) hx hb hts hown hin hK hP hD hS rfl igX7 tyX7_ok nmX7 fl_7_17 (Nat.le_of_ble_eq_true rfl) rfl rfl rfl rfl (Nat.le_of_ble_eq_true rfl) rfl rfl dX7_init_20 (fun H locs hP hD hS => ?_)
  exact W.vret hx hb hr (fun t ht hW => ⟨⟨(), rfl, trivial, q1, by rw [ht]; exact hP, hD⟩, hS.F ht⟩) hS.2.2 dX7_init_23
theorem dX3_init_0 : decode cX3_init 0 = .ok (.aload_n 0, 1) := by decide +kernel
theorem dX3_init_1 : decode cX3_init 1 = .ok (.invokespecial 3, 3) := by decide +kernel
theorem dX3_init_4 : decode cX3_init 4 = .ok (.aload_n 0, 1) := by decide +kernel
theorem dX3_init_5 : decode cX3_init 5 = .ok (.bipush 25, 2) := by decide +kernel
theorem dX3_init_7 : decode cX3_init 7 = .ok (.newarray .int, 2) := by decide +kernel
theorem dX3_init_9 : decode cX3_init 9 = .ok (.putfield 11, 3) := by decide +kernel
theorem dX3_init_12 : decode cX3_init 12 = .ok (.aload_n 0, 1) := by decide +kernel
theorem dX3_init_13 : decode cX3_init 13 = .ok (.bipush 25, 2) := by decide +kernel
theorem dX3_init_15 : decode cX3_init 15 = .ok (.newarray .int, 2) := by decide +kernel
theorem dX3_init_17 : decode cX3_init 17 = .ok (.putfield 17, 3) := by decide +kernel
theorem dX3_init_20 : decode cX3_init 20 = .ok (.aload_n 0, 1) := by decide +kernel
theorem dX3_init_21 : decode cX3_init 21 = .ok (.bipush 25, 2) := by decide +kernel
theorem dX3_init_23 : decode cX3_init 23 = .ok (.newarray .int, 2) := by decide +kernel
theorem dX3_init_25 : decode cX3_init 25 = .ok (.putfield 20, 3) := by decide +kernel
theorem dX3_init_28 : decode cX3_init 28 = .ok (.aload_n 0, 1) := by decide +kernel
theorem dX3_init_29 : decode cX3_init 29 = .ok (.bipush 24, 2) := by decide +kernel
theorem dX3_init_31 : decode cX3_init 31 = .ok (.newarray .int, 2) := by decide +kernel
theorem dX3_init_33 : decode cX3_init 33 = .ok (.putfield 23, 3) := by decide +kernel
theorem dX3_init_36 : decode cX3_init 36 = .ok (.aload_n 0, 1) := by decide +kernel
theorem dX3_init_37 : decode cX3_init 37 = .ok (.bipush 24, 2) := by decide +kernel
theorem dX3_init_39 : decode cX3_init 39 = .ok (.newarray .int, 2) := by decide +kernel
theorem dX3_init_41 : decode cX3_init 41 = .ok (.putfield 26, 3) := by decide +kernel
theorem dX3_init_44 : decode cX3_init 44 = .ok (.aload_n 0, 1) := by decide +kernel
theorem dX3_init_45 : decode cX3_init 45 = .ok (.aload_n 1, 1) := by decide +kernel
theorem dX3_init_46 : decode cX3_init 46 = .ok (.putfield 29, 3) := by decide +kernel
theorem dX3_init_49 : decode cX3_init 49 = .ok (.return_, 1) := by decide +kernel
set_option maxHeartbeats 4000000 in
set_option maxRecDepth 100000 in
theorem k_X3_init {l : Launch} {g : XG} (h0 sz a0 : Nat) : Met l yX3_init (.code yX3_init cX3_init 2 none :: lw_g) { frames := 1, cells := 5, slots := 123, locals := 60 } (va_Pc [.ref h0, .ref a0] (fun U => U.heap.size = sz ∧ va_P g.D xcl [(h0, .inr (3, [.null, .null, .null, .null, .int 0, .null, .null]))] U.heap ∧ va_K g.D xcl (xty g.cA) U ∧ va_D (fun _ => True) [(h0, .inr (3, [.null, .null, .null, .null, .int 0, .null, .null]))] ∧ xcs (va_A [(h0, .inr (3, [.null, .null, .null, .null, .int 0, .null, .null]))] sz) g U U.heap)) (va_Qv (fun _ : Unit => True) (fun _ t => ∃ (q1 q2 q3 q4 q5 : Nat), va_P g.D xcl [(h0, .inr (3, [.ref a0, .ref q1, .ref q2, .ref q3, .int 0, .ref q4, .ref q5])), (q1, .inl (g.cA 0, 25, .inl (fun _ => 0))), (q2, .inl (g.cA 0, 25, .inl (fun _ => 0))), (q3, .inl (g.cA 0, 25, .inl (fun _ => 0))), (q4, .inl (g.cA 0, 24, .inl (fun _ => 0))), (q5, .inl (g.cA 0, 24, .inl (fun _ => 0)))] t.heap ∧ va_D (va_A [(h0, .inr (3, [.null, .null, .null, .null, .int 0, .null, .null]))] sz) [(h0, .inr (3, [.ref a0, .ref q1, .ref q2, .ref q3, .int 0, .ref q4, .ref q5])), (q1, .inl (g.cA 0, 25, .inl (fun _ => 0))), (q2, .inl (g.cA 0, 25, .inl (fun _ => 0))), (q3, .inl (g.cA 0, 25, .inl (fun _ => 0))), (q4, .inl (g.cA 0, 24, .inl (fun _ => 0))), (q5, .inl (g.cA 0, 24, .inl (fun _ => 0)))]) (va_A [(h0, .inr (3, [.null, .null, .null, .null, .int 0, .null, .null]))] sz)) 5 123 (va_A [(h0, .inr (3, [.null, .null, .null, .null, .int 0, .null, .null]))] sz) := by
  refine Met.ofW (cc := cX3_init) (maxL := 2) (ret := none) pn_X3 rfl ?_
  intro p e s m args below meth c s₁ B hml hv
  obtain ⟨rfl, hsz, hP, hK, hD0, hcs⟩ := hv
  have hx := B.exec
  have hb := B.bytes
  have hr := B.returns
  have hts1 := atoms_spec (ws := .code yX3_init cX3_init 2 none :: lw_g) B.pre
  have hts : ∀ w ∈ lw_g, w.before _ s = true := fun w hw => hts1 w (List.mem_cons_of_mem _ hw)
  have hown : s.vm.findClass RX3 = some m.cls := findClass_of_methodNamed B.named
  have hlocks := B.notSynchronized
  have hin : meth.name = "<init>" := (name_of_methodNamed B.named B.method).1
  subst hsz
  have hD := hD0.self (sz := s.heap.size)
  generalize hAe : va_A [(h0, .inr (3, [.null, .null, .null, .null, .int 0, .null, .null]))] s.heap.size = A at hD hcs ⊢
  have hA : ∀ q : Nat, s.heap.size ≤ q → A q := fun q h => by rw [← hAe]; exact Or.inr h
  have hS : va_S A s.heap s.heap [] := va_S.rf
  have hP : va_P g.D xcl [(h0, .inr (3, [.null, .null, .null, .null, .int 0, .null, .null]))] s.heap := hP
  have hl := lv_entry ([.ref h0, .ref a0]) (n := 2) (Nat.le_of_ble_eq_true rfl)
  rw [lg_entry_eq]
  generalize (lg_sl ([.ref h0, .ref a0]) ++ List.replicate (2 - (lg_sl ([.ref h0, .ref a0])).length) Slot.unset).toArray = ls at hl ⊢
  have hl : lv_has ls 2 [(0, .ref h0), (1, .ref a0)] := hl
  refine lv_aload_n hx hb dX3_init_0 rfl (lv_at hl 0 rfl) ?_
  refine W.objInit hx hb hown (hts _ ml_X3_3) (hts _ xoi_i) (hts _ xoi_c) rfl (by rw [hml]; exact hl.1) rfl dX3_init_1 (Nat.le_of_ble_eq_true rfl) (Nat.le_of_ble_eq_true rfl) ?_
  refine W.eq (g2 := F0 m 4 ls []) rfl ?_
  refine lv_aload_n hx hb dX3_init_4 rfl (lv_at hl 0 rfl) ?_
  refine lv_bipush (v := 25) hx hb dX3_init_5 rfl ?_
  refine kn_i (N := 25) hx hb hts hK hP hD hS hA (by decide) rfl (Nat.le_of_ble_eq_true rfl) (Nat.le_of_ble_eq_true rfl) (Nat.le_of_ble_eq_true rfl) dX3_init_7 (fun q1 H hP hD hS => ?_)
  refine W.widen (k := 1) (n := 25) (Nat.le_of_ble_eq_true rfl) (Nat.le_of_ble_eq_true rfl) ?_
  have hP : va_P g.D xcl [(h0, .inr (3, [.null, .null, .null, .null, .int 0, .null, .null])), (q1, .inl (g.cA 0, 25, .inl (fun _ => 0)))] H := hP
  have hD : va_D A [(h0, .inr (3, [.null, .null, .null, .null, .int 0, .null, .null])), (q1, .inl (g.cA 0, 25, .inl (fun _ => 0)))] := hD
  refine kp_f (ci := 3) (k := 1) (q0 := 0) (ws' := [(h0, .inr (3, [.null, .ref q1, .null, .null, .int 0, .null, .null])), (q1, .inl (g.cA 0, 25, .inl (fun _ => 0)))]) hx hb hts hown hin hK hP hD hS rfl igX3 tyX3_ok nmX3 fl_3_11 (Nat.le_of_ble_eq_true rfl) rfl rfl rfl rfl (Nat.le_of_ble_eq_true rfl) rfl rfl dX3_init_9 (fun H locs hP hD hS => ?_)
  refine lv_aload_n hx hb dX3_init_12 rfl (lv_at hl 0 rfl) ?_
  refine lv_bipush (v := 25) hx hb dX3_init_13 rfl ?_
  refine kn_i (N := 25) hx hb hts hK hP hD hS hA (by decide) rfl (Nat.le_of_ble_eq_true rfl) (Nat.le_of_ble_eq_true rfl) (Nat.le_of_ble_eq_true rfl) dX3_init_15 (fun q2 H hP hD hS => ?_)
  refine W.widen (k := 2) (n := 50) (Nat.le_of_ble_eq_true rfl) (Nat.le_of_ble_eq_true rfl) ?_
  have hP : va_P g.D xcl [(h0, .inr (3, [.null, .ref q1, .null, .null, .int 0, .null, .null])), (q1, .inl (g.cA 0, 25, .inl (fun _ => 0))), (q2, .inl (g.cA 0, 25, .inl (fun _ => 0)))] H := hP
  have hD : va_D A [(h0, .inr (3, [.null, .ref q1, .null, .null, .int 0, .null, .null])), (q1, .inl (g.cA 0, 25, .inl (fun _ => 0))), (q2, .inl (g.cA 0, 25, .inl (fun _ => 0)))] := hD
  refine kp_f (ci := 3) (k := 2) (q0 := 0) (ws' := [(h0, .inr (3, [.null, .ref q1, .ref q2, .null, .int 0, .null, .null])), (q1, .inl (g.cA 0, 25, .inl (fun _ => 0))), (q2, .inl (g.cA 0, 25, .inl (fun _ => 0)))]) hx hb hts hown hin hK hP hD hS rfl igX3 tyX3_ok nmX3 fl_3_17 (Nat.le_of_ble_eq_true rfl) rfl rfl rfl rfl (Nat.le_of_ble_eq_true rfl) rfl rfl dX3_init_17 (fun H locs hP hD hS => ?_)
  refine lv_aload_n hx hb dX3_init_20 rfl (lv_at hl 0 rfl) ?_
  refine lv_bipush (v := 25) hx hb dX3_init_21 rfl ?_
  refine kn_i (N := 25) hx hb hts hK hP hD hS hA (by decide) rfl (Nat.le_of_ble_eq_true rfl) (Nat.le_of_ble_eq_true rfl) (Nat.le_of_ble_eq_true rfl) dX3_init_23 (fun q3 H hP hD hS => ?_)
  refine W.widen (k := 3) (n := 75) (Nat.le_of_ble_eq_true rfl) (Nat.le_of_ble_eq_true rfl) ?_
  have hP : va_P g.D xcl [(h0, .inr (3, [.null, .ref q1, .ref q2, .null, .int 0, .null, .null])), (q1, .inl (g.cA 0, 25, .inl (fun _ => 0))), (q2, .inl (g.cA 0, 25, .inl (fun _ => 0))), (q3, .inl (g.cA 0, 25, .inl (fun _ => 0)))] H := hP
  have hD : va_D A [(h0, .inr (3, [.null, .ref q1, .ref q2, .null, .int 0, .null, .null])), (q1, .inl (g.cA 0, 25, .inl (fun _ => 0))), (q2, .inl (g.cA 0, 25, .inl (fun _ => 0))), (q3, .inl (g.cA 0, 25, .inl (fun _ => 0)))] := hD
  refine kp_f (ci := 3) (k := 3) (q0 := 0) (ws' := [(h0, .inr (3, [.null, .ref q1, .ref q2, .ref q3, .int 0, .null, .null])), (q1, .inl (g.cA 0, 25, .inl (fun _ => 0))), (q2, .inl (g.cA 0, 25, .inl (fun _ => 0))), (q3, .inl (g.cA 0, 25, .inl (fun _ => 0)))]) hx hb hts hown hin hK hP hD hS rfl igX3 tyX3_ok nmX3 fl_3_20 (Nat.le_of_ble_eq_true rfl) rfl rfl rfl rfl (Nat.le_of_ble_eq_true rfl) rfl rfl dX3_init_25 (fun H locs hP hD hS => ?_)
  refine lv_aload_n hx hb dX3_init_28 rfl (lv_at hl 0 rfl) ?_
  refine lv_bipush (v := 24) hx hb dX3_init_29 rfl ?_
  refine kn_i (N := 24) hx hb hts hK hP hD hS hA (by decide) rfl (Nat.le_of_ble_eq_true rfl) (Nat.le_of_ble_eq_true rfl) (Nat.le_of_ble_eq_true rfl) dX3_init_31 (fun q4 H hP hD hS => ?_)
  refine W.widen (k := 4) (n := 99) (Nat.le_of_ble_eq_true rfl) (Nat.le_of_ble_eq_true rfl) ?_
  have hP : va_P g.D xcl [(h0, .inr (3, [.null, .ref q1, .ref q2, .ref q3, .int 0, .null, .null])), (q1, .inl (g.cA 0, 25, .inl (fun _ => 0))), (q2, .inl (g.cA 0, 25, .inl (fun _ => 0))), (q3, .inl (g.cA 0, 25, .inl (fun _ => 0))), (q4, .inl (g.cA 0, 24, .inl (fun _ => 0)))] H := hP
  have hD : va_D A [(h0, .inr (3, [.null, .ref q1, .ref q2, .ref q3, .int 0, .null, .null])), (q1, .inl (g.cA 0, 25, .inl (fun _ => 0))), (q2, .inl (g.cA 0, 25, .inl (fun _ => 0))), (q3, .inl (g.cA 0, 25, .inl (fun _ => 0))), (q4, .inl (g.cA 0, 24, .inl (fun _ => 0)))] := hD
  refine kp_f (ci := 3) (k := 5) (q0 := 0) (ws' := [(h0, .inr (3, [.null, .ref q1, .ref q2, .ref q3, .int 0, .ref q4, .null])), (q1, .inl (g.cA 0, 25, .inl (fun _ => 0))), (q2, .inl (g.cA 0, 25, .inl (fun _ => 0))), (q3, .inl (g.cA 0, 25, .inl (fun _ => 0))), (q4, .inl (g.cA 0, 24, .inl (fun _ => 0)))]) hx hb hts hown hin hK hP hD hS rfl igX3 tyX3_ok nmX3 fl_3_23 (Nat.le_of_ble_eq_true rfl) rfl rfl rfl rfl (Nat.le_of_ble_eq_true rfl) rfl rfl dX3_init_33 (fun H locs hP hD hS => ?_)
  refine lv_aload_n hx hb dX3_init_36 rfl (lv_at hl 0 rfl) ?_
  refine lv_bipush (v := 24) hx hb dX3_init_37 rfl ?_
  refine kn_i (N := 24) hx hb hts hK hP hD hS hA (by decide) rfl (Nat.le_of_ble_eq_true rfl) (Nat.le_of_ble_eq_true rfl) (Nat.le_of_ble_eq_true rfl) dX3_init_39 (fun q5 H hP hD hS => ?_)
  refine W.widen (k := 5) (n := 123) (Nat.le_of_ble_eq_true rfl) (Nat.le_of_ble_eq_true rfl) ?_
  have hP : va_P g.D xcl [(h0, .inr (3, [.null, .ref q1, .ref q2, .ref q3, .int 0, .ref q4, .null])), (q1, .inl (g.cA 0, 25, .inl (fun _ => 0))), (q2, .inl (g.cA 0, 25, .inl (fun _ => 0))), (q3, .inl (g.cA 0, 25, .inl (fun _ => 0))), (q4, .inl (g.cA 0, 24, .inl (fun _ => 0))), (q5, .inl (g.cA 0, 24, .inl (fun _ => 0)))] H := hP
  have hD : va_D A [(h0, .inr (3, [.null, .ref q1, .ref q2, .ref q3, .int 0, .ref q4, .null])), (q1, .inl (g.cA 0, 25, .inl (fun _ => 0))), (q2, .inl (g.cA 0, 25, .inl (fun _ => 0))), (q3, .inl (g.cA 0, 25, .inl (fun _ => 0))), (q4, .inl (g.cA 0, 24, .inl (fun _ => 0))), (q5, .inl (g.cA 0, 24, .inl (fun _ => 0)))] := hD
  refine kp_f (ci := 3) (k := 6) (q0 := 0) (ws' := [(h0, .inr (3, [.null, .ref q1, .ref q2, .ref q3, .int 0, .ref q4, .ref q5])), (q1, .inl (g.cA 0, 25, .inl (fun _ => 0))), (q2, .inl (g.cA 0, 25, .inl (fun _ => 0))), (q3, .inl (g.cA 0, 25, .inl (fun _ => 0))), (q4, .inl (g.cA 0, 24, .inl (fun _ => 0))), (q5, .inl (g.cA 0, 24, .inl (fun _ => 0)))]) hx hb hts hown hin hK hP hD hS rfl igX3 tyX3_ok nmX3 fl_3_26 (Nat.le_of_ble_eq_true rfl) rfl rfl rfl rfl (Nat.le_of_ble_eq_true rfl) rfl rfl dX3_init_41 (fun H locs hP hD hS => ?_)
  refine lv_aload_n hx hb dX3_init_44 rfl (lv_at hl 0 rfl) ?_
  refine lv_aload_n hx hb dX3_init_45 rfl (lv_at hl 1 rfl) ?_
  refine kp_f (ci := 3) (k := 0) (q0 := 0) (ws' := [(h0, .inr (3, [.ref a0, .ref q1, .ref q2, .ref q3, .int 0, .ref q4, .ref q5])), (q1, .inl (g.cA 0, 25, .inl (fun _ => 0))), (q2, .inl (g.cA 0, 25, .inl (fun _ => 0))), (q3, .inl (g.cA 0, 25, .inl (fun _ => 0))), (q4, .inl (g.cA 0, 24, .inl (fun _ => 0))), (q5, .inl (g.cA 0, 24, .inl (fun _ => 0)))]) hx hb hts hown hin hK hP hD hS rfl igX3 tyX3_ok nmX3 fl_3_29 (Nat.le_of_ble_eq_true rfl) rfl rfl rfl rfl (Nat.le_of_ble_eq_true rfl) rfl rfl dX3_init_46 (fun H locs hP hD hS => ?_)
  exact W.vret hx hb hr (fun t ht hW => ⟨⟨(), rfl, trivial, q1, q2, q3, q4, q5, by rw [ht]; exact hP, hD⟩, hS.F ht⟩) hS.2.2 dX3_init_49
theorem dX2_init_0 : decode cX2_init 0 = .ok (.aload_n 0, 1) := by decide +kernel
theorem dX2_init_1 : decode cX2_init 1 = .ok (.invokespecial 7, 3) := by decide +kernel
theorem dX2_init_4 : decode cX2_init 4 = .ok (.aload_n 0, 1) := by decide +kernel
theorem dX2_init_5 : decode cX2_init 5 = .ok (.bipush 40, 2) := by decide +kernel
theorem dX2_init_7 : decode cX2_init 7 = .ok (.newarray .int, 2) := by decide +kernel
theorem dX2_init_9 : decode cX2_init 9 = .ok (.putfield 15, 3) := by decide +kernel
theorem dX2_init_12 : decode cX2_init 12 = .ok (.aload_n 0, 1) := by decide +kernel
theorem dX2_init_13 : decode cX2_init 13 = .ok (.bipush 40, 2) := by decide +kernel
theorem dX2_init_15 : decode cX2_init 15 = .ok (.newarray .int, 2) := by decide +kernel
theorem dX2_init_17 : decode cX2_init 17 = .ok (.putfield 19, 3) := by decide +kernel
theorem dX2_init_20 : decode cX2_init 20 = .ok (.aload_n 0, 1) := by decide +kernel
theorem dX2_init_21 : decode cX2_init 21 = .ok (.bipush 40, 2) := by decide +kernel
theorem dX2_init_23 : decode cX2_init 23 = .ok (.newarray .int, 2) := by decide +kernel
theorem dX2_init_25 : decode cX2_init 25 = .ok (.putfield 22, 3) := by decide +kernel
theorem dX2_init_28 : decode cX2_init 28 = .ok (.aload_n 0, 1) := by decide +kernel
theorem dX2_init_29 : decode cX2_init 29 = .ok (.bipush 40, 2) := by decide +kernel
theorem dX2_init_31 : decode cX2_init 31 = .ok (.newarray .long, 2) := by decide +kernel
theorem dX2_init_33 : decode cX2_init 33 = .ok (.putfield 25, 3) := by decide +kernel
theorem dX2_init_36 : decode cX2_init 36 = .ok (.aload_n 0, 1) := by decide +kernel
theorem dX2_init_37 : decode cX2_init 37 = .ok (.sipush 520, 3) := by decide +kernel
theorem dX2_init_40 : decode cX2_init 40 = .ok (.newarray .int, 2) := by decide +kernel
theorem dX2_init_42 : decode cX2_init 42 = .ok (.putfield 29, 3) := by decide +kernel
theorem dX2_init_45 : decode cX2_init 45 = .ok (.aload_n 0, 1) := by decide +kernel
theorem dX2_init_46 : decode cX2_init 46 = .ok (.sipush 520, 3) := by decide +kernel
theorem dX2_init_49 : decode cX2_init 49 = .ok (.newarray .long, 2) := by decide +kernel
theorem dX2_init_51 : decode cX2_init 51 = .ok (.putfield 32, 3) := by decide +kernel
theorem dX2_init_54 : decode cX2_init 54 = .ok (.aload_n 0, 1) := by decide +kernel
theorem dX2_init_55 : decode cX2_init 55 = .ok (.bipush 13, 2) := by decide +kernel
theorem dX2_init_57 : decode cX2_init 57 = .ok (.newarray .int, 2) := by decide +kernel
theorem dX2_init_59 : decode cX2_init 59 = .ok (.putfield 35, 3) := by decide +kernel
theorem dX2_init_62 : decode cX2_init 62 = .ok (.aload_n 0, 1) := by decide +kernel
theorem dX2_init_63 : decode cX2_init 63 = .ok (.bipush 13, 2) := by decide +kernel
theorem dX2_init_65 : decode cX2_init 65 = .ok (.newarray .long, 2) := by decide +kernel
theorem dX2_init_67 : decode cX2_init 67 = .ok (.putfield 38, 3) := by decide +kernel
theorem dX2_init_70 : decode cX2_init 70 = .ok (.aload_n 0, 1) := by decide +kernel
theorem dX2_init_71 : decode cX2_init 71 = .ok (.bipush 12, 2) := by decide +kernel
theorem dX2_init_73 : decode cX2_init 73 = .ok (.newarray .int, 2) := by decide +kernel
theorem dX2_init_75 : decode cX2_init 75 = .ok (.putfield 41, 3) := by decide +kernel
theorem dX2_init_78 : decode cX2_init 78 = .ok (.aload_n 0, 1) := by decide +kernel
theorem dX2_init_79 : decode cX2_init 79 = .ok (.bipush 13, 2) := by decide +kernel
theorem dX2_init_81 : decode cX2_init 81 = .ok (.newarray .int, 2) := by decide +kernel
theorem dX2_init_83 : decode cX2_init 83 = .ok (.putfield 44, 3) := by decide +kernel
theorem dX2_init_86 : decode cX2_init 86 = .ok (.aload_n 0, 1) := by decide +kernel
theorem dX2_init_87 : decode cX2_init 87 = .ok (.aload_n 1, 1) := by decide +kernel
theorem dX2_init_88 : decode cX2_init 88 = .ok (.putfield 47, 3) := by decide +kernel
theorem dX2_init_91 : decode cX2_init 91 = .ok (.aload_n 0, 1) := by decide +kernel
theorem dX2_init_92 : decode cX2_init 92 = .ok (.aload_n 2, 1) := by decide +kernel
theorem dX2_init_93 : decode cX2_init 93 = .ok (.putfield 51, 3) := by decide +kernel
theorem dX2_init_96 : decode cX2_init 96 = .ok (.aload_n 0, 1) := by decide +kernel
theorem dX2_init_97 : decode cX2_init 97 = .ok (.aload_n 3, 1) := by decide +kernel
theorem dX2_init_98 : decode cX2_init 98 = .ok (.putfield 55, 3) := by decide +kernel
theorem dX2_init_101 : decode cX2_init 101 = .ok (.return_, 1) := by decide +kernel
set_option maxHeartbeats 4000000 in
set_option maxRecDepth 100000 in
theorem k_X2_init {l : Launch} {g : XG} (h0 sz a0 a1 a2 : Nat) : Met l yX2_init (.code yX2_init cX2_init 4 none :: lw_g) { frames := 1, cells := 10, slots := 1251, locals := 60 } (va_Pc [.ref h0, .ref a0, .ref a1, .ref a2] (fun U => U.heap.size = sz ∧ va_P g.D xcl [(h0, .inr (2, [.null, .null, .null, .null, .null, .null, .null, .null, .null, .null, .null, .null, .null, .int 0]))] U.heap ∧ va_K g.D xcl (xty g.cA) U ∧ va_D (fun _ => True) [(h0, .inr (2, [.null, .null, .null, .null, .null, .null, .null, .null, .null, .null, .null, .null, .null, .int 0]))] ∧ xcs (va_A [(h0, .inr (2, [.null, .null, .null, .null, .null, .null, .null, .null, .null, .null, .null, .null, .null, .int 0]))] sz) g U U.heap)) (va_Qv (fun _ : Unit => True) (fun _ t => ∃ (q1 q2 q3 q4 q5 q6 q7 q8 q9 q10 : Nat), va_P g.D xcl [(h0, .inr (2, [.ref a0, .ref a1, .ref a2, .ref q1, .ref q2, .ref q3, .ref q4, .ref q5, .ref q6, .ref q7, .ref q8, .ref q9, .ref q10, .int 0])), (q1, .inl (g.cA 0, 40, .inl (fun _ => 0))), (q2, .inl (g.cA 0, 40, .inl (fun _ => 0))), (q3, .inl (g.cA 0, 40, .inl (fun _ => 0))), (q4, .inl (g.cA 1, 40, .inr (.inl (fun _ => 0)))), (q5, .inl (g.cA 0, 520, .inl (fun _ => 0))), (q6, .inl (g.cA 1, 520, .inr (.inl (fun _ => 0)))), (q7, .inl (g.cA 0, 13, .inl (fun _ => 0))), (q8, .inl (g.cA 1, 13, .inr (.inl (fun _ => 0)))), (q9, .inl (g.cA 0, 12, .inl (fun _ => 0))), (q10, .inl (g.cA 0, 13, .inl (fun _ => 0)))] t.heap ∧ va_D (va_A [(h0, .inr (2, [.null, .null, .null, .null, .null, .null, .null, .null, .null, .null, .null, .null, .null, .int 0]))] sz) [(h0, .inr (2, [.ref a0, .ref a1, .ref a2, .ref q1, .ref q2, .ref q3, .ref q4, .ref q5, .ref q6, .ref q7, .ref q8, .ref q9, .ref q10, .int 0])), (q1, .inl (g.cA 0, 40, .inl (fun _ => 0))), (q2, .inl (g.cA 0, 40, .inl (fun _ => 0))), (q3, .inl (g.cA 0, 40, .inl (fun _ => 0))), (q4, .inl (g.cA 1, 40, .inr (.inl (fun _ => 0)))), (q5, .inl (g.cA 0, 520, .inl (fun _ => 0))), (q6, .inl (g.cA 1, 520, .inr (.inl (fun _ => 0)))), (q7, .inl (g.cA 0, 13, .inl (fun _ => 0))), (q8, .inl (g.cA 1, 13, .inr (.inl (fun _ => 0)))), (q9, .inl (g.cA 0, 12, .inl (fun _ => 0))), (q10, .inl (g.cA 0, 13, .inl (fun _ => 0)))]) (va_A [(h0, .inr (2, [.null, .null, .null, .null, .null, .null, .null, .null, .null, .null, .null, .null, .null, .int 0]))] sz)) 10 1251 (va_A [(h0, .inr (2, [.null, .null, .null, .null, .null, .null, .null, .null, .null, .null, .null, .null, .null, .int 0]))] sz) := by
  refine Met.ofW (cc := cX2_init) (maxL := 4) (ret := none) pn_X2 rfl ?_
  intro p e s m args below meth c s₁ B hml hv
  obtain ⟨rfl, hsz, hP, hK, hD0, hcs⟩ := hv
  have hx := B.exec
  have hb := B.bytes
  have hr := B.returns
  have hts1 := atoms_spec (ws := .code yX2_init cX2_init 4 none :: lw_g) B.pre
  have hts : ∀ w ∈ lw_g, w.before _ s = true := fun w hw => hts1 w (List.mem_cons_of_mem _ hw)
  have hown : s.vm.findClass RX2 = some m.cls := findClass_of_methodNamed B.named
  have hlocks := B.notSynchronized
  have hin : meth.name = "<init>" := (name_of_methodNamed B.named B.method).1
  subst hsz
  have hD := hD0.self (sz := s.heap.size)
  generalize hAe : va_A [(h0, .inr (2, [.null, .null, .null, .null, .null, .null, .null, .null, .null, .null, .null, .null, .null, .int 0]))] s.heap.size = A at hD hcs ⊢
  have hA : ∀ q : Nat, s.heap.size ≤ q → A q := fun q h => by rw [← hAe]; exact Or.inr h
  have hS : va_S A s.heap s.heap [] := va_S.rf
  have hP : va_P g.D xcl [(h0, .inr (2, [.null, .null, .null, .null, .null, .null, .null, .null, .null, .null, .null, .null, .null, .int 0]))] s.heap := hP
  have hl := lv_entry ([.ref h0, .ref a0, .ref a1, .ref a2]) (n := 4) (Nat.le_of_ble_eq_true rfl)
  rw [lg_entry_eq]
  generalize (lg_sl ([.ref h0, .ref a0, .ref a1, .ref a2]) ++ List.replicate (4 - (lg_sl ([.ref h0, .ref a0, .ref a1, .ref a2])).length) Slot.unset).toArray = ls at hl ⊢
  have hl : lv_has ls 4 [(0, .ref h0), (1, .ref a0), (2, .ref a1), (3, .ref a2)] := hl
  refine lv_aload_n hx hb dX2_init_0 rfl (lv_at hl 0 rfl) ?_
  refine W.objInit hx hb hown (hts _ ml_X2_7) (hts _ xoi_i) (hts _ xoi_c) rfl (by rw [hml]; exact hl.1) rfl dX2_init_1 (Nat.le_of_ble_eq_true rfl) (Nat.le_of_ble_eq_true rfl) ?_
  refine W.eq (g2 := F0 m 4 ls []) rfl ?_
  refine lv_aload_n hx hb dX2_init_4 rfl (lv_at hl 0 rfl) ?_
  refine lv_bipush (v := 40) hx hb dX2_init_5 rfl ?_
  refine kn_i (N := 40) hx hb hts hK hP hD hS hA (by decide) rfl (Nat.le_of_ble_eq_true rfl) (Nat.le_of_ble_eq_true rfl) (Nat.le_of_ble_eq_true rfl) dX2_init_7 (fun q1 H hP hD hS => ?_)
  refine W.widen (k := 1) (n := 40) (Nat.le_of_ble_eq_true rfl) (Nat.le_of_ble_eq_true rfl) ?_
  have hP : va_P g.D xcl [(h0, .inr (2, [.null, .null, .null, .null, .null, .null, .null, .null, .null, .null, .null, .null, .null, .int 0])), (q1, .inl (g.cA 0, 40, .inl (fun _ => 0)))] H := hP
  have hD : va_D A [(h0, .inr (2, [.null, .null, .null, .null, .null, .null, .null, .null, .null, .null, .null, .null, .null, .int 0])), (q1, .inl (g.cA 0, 40, .inl (fun _ => 0)))] := hD
  refine kp_f (ci := 2) (k := 3) (q0 := 0) (ws' := [(h0, .inr (2, [.null, .null, .null, .ref q1, .null, .null, .null, .null, .null, .null, .null, .null, .null, .int 0])), (q1, .inl (g.cA 0, 40, .inl (fun _ => 0)))]) hx hb hts hown hin hK hP hD hS rfl igX2 tyX2_ok nmX2 fl_2_15 (Nat.le_of_ble_eq_true rfl) rfl rfl rfl rfl (Nat.le_of_ble_eq_true rfl) rfl rfl dX2_init_9 (fun H locs hP hD hS => ?_)
  refine lv_aload_n hx hb dX2_init_12 rfl (lv_at hl 0 rfl) ?_
  refine lv_bipush (v := 40) hx hb dX2_init_13 rfl ?_
  refine kn_i (N := 40) hx hb hts hK hP hD hS hA (by decide) rfl (Nat.le_of_ble_eq_true rfl) (Nat.le_of_ble_eq_true rfl) (Nat.le_of_ble_eq_true rfl) dX2_init_15 (fun q2 H hP hD hS => ?_)
  refine W.widen (k := 2) (n := 80) (Nat.le_of_ble_eq_true rfl) (Nat.le_of_ble_eq_true rfl) ?_
  have hP : va_P g.D xcl [(h0, .inr (2, [.null, .null, .null, .ref q1, .null, .null, .null, .null, .null, .null, .null, .null, .null, .int 0])), (q1, .inl (g.cA 0, 40, .inl (fun _ => 0))), (q2, .inl (g.cA 0, 40, .inl (fun _ => 0)))] H := hP
  have hD : va_D A [(h0, .inr (2, [.null, .null, .null, .ref q1, .null, .null, .null, .null, .null, .null, .null, .null, .null, .int 0])), (q1, .inl (g.cA 0, 40, .inl (fun _ => 0))), (q2, .inl (g.cA 0, 40, .inl (fun _ => 0)))] := hD
  refine kp_f (ci := 2) (k := 4) (q0 := 0) (ws' := [(h0, .inr (2, [.null, .null, .null, .ref q1, .ref q2, .null, .null, .null, .null, .null, .null, .null, .null, .int 0])), (q1, .inl (g.cA 0, 40, .inl (fun _ => 0))), (q2, .inl (g.cA 0, 40, .inl (fun _ => 0)))]) hx hb hts hown hin hK hP hD hS rfl igX2 tyX2_ok nmX2 fl_2_19 (Nat.le_of_ble_eq_true rfl) rfl rfl rfl rfl (Nat.le_of_ble_eq_true rfl) rfl rfl dX2_init_17 (fun H locs hP hD hS => ?_)
  refine lv_aload_n hx hb dX2_init_20 rfl (lv_at hl 0 rfl) ?_
  refine lv_bipush (v := 40) hx hb dX2_init_21 rfl ?_
  refine kn_i (N := 40) hx hb hts hK hP hD hS hA (by decide) rfl (Nat.le_of_ble_eq_true rfl) (Nat.le_of_ble_eq_true rfl) (Nat.le_of_ble_eq_true rfl) dX2_init_23 (fun q3 H hP hD hS => ?_)
  refine W.widen (k := 3) (n := 120) (Nat.le_of_ble_eq_true rfl) (Nat.le_of_ble_eq_true rfl) ?_
  have hP : va_P g.D xcl [(h0, .inr (2, [.null, .null, .null, .ref q1, .ref q2, .null, .null, .null, .null, .null, .null, .null, .null, .int 0])), (q1, .inl (g.cA 0, 40, .inl (fun _ => 0))), (q2, .inl (g.cA 0, 40, .inl (fun _ => 0))), (q3, .inl (g.cA 0, 40, .inl (fun _ => 0)))] H := hP
  have hD : va_D A [(h0, .inr (2, [.null, .null, .null, .ref q1, .ref q2, .null, .null, .null, .null, .null, .null, .null, .null, .int 0])), (q1, .inl (g.cA 0, 40, .inl (fun _ => 0))), (q2, .inl (g.cA 0, 40, .inl (fun _ => 0))), (q3, .inl (g.cA 0, 40, .inl (fun _ => 0)))] := hD
  refine kp_f (ci := 2) (k := 5) (q0 := 0) (ws' := [(h0, .inr (2, [.null, .null, .null, .ref q1, .ref q2, .ref q3, .null, .null, .null, .null, .null, .null, .null, .int 0])), (q1, .inl (g.cA 0, 40, .inl (fun _ => 0))), (q2, .inl (g.cA 0, 40, .inl (fun _ => 0))), (q3, .inl (g.cA 0, 40, .inl (fun _ => 0)))]) hx hb hts hown hin hK hP hD hS rfl igX2 tyX2_ok nmX2 fl_2_22 (Nat.le_of_ble_eq_true rfl) rfl rfl rfl rfl (Nat.le_of_ble_eq_true rfl) rfl rfl dX2_init_25 (fun H locs hP hD hS => ?_)
  refine lv_aload_n hx hb dX2_init_28 rfl (lv_at hl 0 rfl) ?_
  refine lv_bipush (v := 40) hx hb dX2_init_29 rfl ?_
  refine kn_l (N := 40) hx hb hts hK hP hD hS hA (by decide) rfl (Nat.le_of_ble_eq_true rfl) (Nat.le_of_ble_eq_true rfl) (Nat.le_of_ble_eq_true rfl) dX2_init_31 (fun q4 H hP hD hS => ?_)
  refine W.widen (k := 4) (n := 160) (Nat.le_of_ble_eq_true rfl) (Nat.le_of_ble_eq_true rfl) ?_
  have hP : va_P g.D xcl [(h0, .inr (2, [.null, .null, .null, .ref q1, .ref q2, .ref q3, .null, .null, .null, .null, .null, .null, .null, .int 0])), (q1, .inl (g.cA 0, 40, .inl (fun _ => 0))), (q2, .inl (g.cA 0, 40, .inl (fun _ => 0))), (q3, .inl (g.cA 0, 40, .inl (fun _ => 0))), (q4, .inl (g.cA 1, 40, .inr (.inl (fun _ => 0))))] H := hP
  have hD : va_D A [(h0, .inr (2, [.null, .null, .null, .ref q1, .ref q2, .ref q3, .null, .null, .null, .null, .null, .null, .null, .int 0])), (q1, .inl (g.cA 0, 40, .inl (fun _ => 0))), (q2, .inl (g.cA 0, 40, .inl (fun _ => 0))), (q3, .inl (g.cA 0, 40, .inl (fun _ => 0))), (q4, .inl (g.cA 1, 40, .inr (.inl (fun _ => 0))))] := hD
  refine kp_f (ci := 2) (k := 6) (q0 := 0) (ws' := [(h0, .inr (2, [.null, .null, .null, .ref q1, .ref q2, .ref q3, .ref q4, .null, .null, .null, .null, .null, .null, .int 0])), (q1, .inl (g.cA 0, 40, .inl (fun _ => 0))), (q2, .inl (g.cA 0, 40, .inl (fun _ => 0))), (q3, .inl (g.cA 0, 40, .inl (fun _ => 0))), (q4, .inl (g.cA 1, 40, .inr (.inl (fun _ => 0))))]) hx hb hts hown hin hK hP hD hS rfl igX2 tyX2_ok nmX2 fl_2_25 (Nat.le_of_ble_eq_true rfl) rfl rfl rfl rfl (Nat.le_of_ble_eq_true rfl) rfl rfl dX2_init_33 (fun H locs hP hD hS => ?_)
  refine lv_aload_n hx hb dX2_init_36 rfl (lv_at hl 0 rfl) ?_
  refine lv_sipush (v := 520) hx hb dX2_init_37 rfl ?_
  refine kn_i (N := 520) hx hb hts hK hP hD hS hA (by decide) rfl (Nat.le_of_ble_eq_true rfl) (Nat.le_of_ble_eq_true rfl) (Nat.le_of_ble_eq_true rfl) dX2_init_40 (fun q5 H hP hD hS => ?_)
  refine W.widen (k := 5) (n := 680) (Nat.le_of_ble_eq_true rfl) (Nat.le_of_ble_eq_true rfl) ?_
  have hP : va_P g.D xcl [(h0, .inr (2, [.null, .null, .null, .ref q1, .ref q2, .ref q3, .ref q4, .null, .null, .null, .null, .null, .null, .int 0])), (q1, .inl (g.cA 0, 40, .inl (fun _ => 0))), (q2, .inl (g.cA 0, 40, .inl (fun _ => 0))), (q3, .inl (g.cA 0, 40, .inl (fun _ => 0))), (q4, .inl (g.cA 1, 40, .inr (.inl (fun _ => 0)))), (q5, .inl (g.cA 0, 520, .inl (fun _ => 0)))] H := hP
  have hD : va_D A [(h0, .inr (2, [.null, .null, .null, .ref q1, .ref q2, .ref q3, .ref q4, .null, .null, .null, .null, .null, .null, .int 0])), (q1, .inl (g.cA 0, 40, .inl (fun _ => 0))), (q2, .inl (g.cA 0, 40, .inl (fun _ => 0))), (q3, .inl (g.cA 0, 40, .inl (fun _ => 0))), (q4, .inl (g.cA 1, 40, .inr (.inl (fun _ => 0)))), (q5, .inl (g.cA 0, 520, .inl (fun _ => 0)))] := hD
  refine kp_f (ci := 2) (k := 7) (q0 := 0) (ws' := [(h0, .inr (2, [.null, .null, .null, .ref q1, .ref q2, .ref q3, .ref q4, .ref q5, .null, .null, .null, .null, .null, .int 0])), (q1, .inl (g.cA 0, 40, .inl (fun _ => 0))), (q2, .inl (g.cA 0, 40, .inl (fun _ => 0))), (q3, .inl (g.cA 0, 40, .inl (fun _ => 0))), (q4, .inl (g.cA 1, 40, .inr (.inl (fun _ => 0)))), (q5, .inl (g.cA 0, 520, .inl (fun _ => 0)))]) hx hb hts hown hin hK hP hD hS rfl igX2 tyX2_ok nmX2 fl_2_29 (Nat.le_of_ble_eq_true rfl) rfl rfl rfl rfl (Nat.le_of_ble_eq_true rfl) rfl rfl dX2_init_42 (fun H locs hP hD hS => ?_)
  refine lv_aload_n hx hb dX2_init_45 rfl (lv_at hl 0 rfl) ?_
  refine lv_sipush (v := 520) hx hb dX2_init_46 rfl ?_
  refine kn_l (N := 520) hx hb hts hK hP hD hS hA (by decide) rfl (Nat.le_of_ble_eq_true rfl) (Nat.le_of_ble_eq_true rfl) (Nat.le_of_ble_eq_true rfl) dX2_init_49 (fun q6 H hP hD hS => ?_)
  refine W.widen (k := 6) (n := 1200) (Nat.le_of_ble_eq_true rfl) (Nat.le_of_ble_eq_true rfl) ?_
  have hP : va_P g.D xcl [(h0, .inr (2, [.null, .null, .null, .ref q1, .ref q2, .ref q3, .ref q4, .ref q5, .null, .null, .null, .null, .null, .int 0])), (q1, .inl (g.cA 0, 40, .inl (fun _ => 0))), (q2, .inl (g.cA 0, 40, .inl (fun _ => 0))), (q3, .inl (g.cA 0, 40, .inl (fun _ => 0))), (q4, .inl (g.cA 1, 40, .inr (.inl (fun _ => 0)))), (q5, .inl (g.cA 0, 520, .inl (fun _ => 0))), (q6, .inl (g.cA 1, 520, .inr (.inl (fun _ => 0))))] H := hP
  have hD : va_D A [(h0, .inr (2, [.null, .null, .null, .ref q1, .ref q2, .ref q3, .ref q4, .ref q5, .null, .null, .null, .null, .null, .int 0])), (q1, .inl (g.cA 0, 40, .inl (fun _ => 0))), (q2, .inl (g.cA 0, 40, .inl (fun _ => 0))), (q3, .inl (g.cA 0, 40, .inl (fun _ => 0))), (q4, .inl (g.cA 1, 40, .inr (.inl (fun _ => 0)))), (q5, .inl (g.cA 0, 520, .inl (fun _ => 0))), (q6, .inl (g.cA 1, 520, .inr (.inl (fun _ => 0))))] := hD
  refine kp_f (ci := 2) (k := 8) (q0 := 0) (ws' := [(h0, .inr (2, [.null, .null, .null, .ref q1, .ref q2, .ref q3, .ref q4, .ref q5, .ref q6, .null, .null, .null, .null, .int 0])), (q1, .inl (g.cA 0, 40, .inl (fun _ => 0))), (q2, .inl (g.cA 0, 40, .inl (fun _ => 0))), (q3, .inl (g.cA 0, 40, .inl (fun _ => 0))), (q4, .inl (g.cA 1, 40, .inr (.inl (fun _ => 0)))), (q5, .inl (g.cA 0, 520, .inl (fun _ => 0))), (q6, .inl (g.cA 1, 520, .inr (.inl (fun _ => 0))))]) hx hb hts hown hin hK hP hD hS rfl igX2 tyX2_ok nmX2 fl_2_32 (Nat.le_of_ble_eq_true rfl) rfl rfl rfl rfl (Nat.le_of_ble_eq_true rfl) rfl rfl dX2_init_51 (fun H locs hP hD hS => ?_)
  refine lv_aload_n hx hb dX2_init_54 rfl (lv_at hl 0 rfl) ?_
  refine lv_bipush (v := 13) hx hb dX2_init_55 rfl ?_
  refine kn_i (N := 13) hx hb hts hK hP hD hS hA (by decide) rfl (Nat.le_of_ble_eq_true rfl) (Nat.le_of_ble_eq_true rfl) (Nat.le_of_ble_eq_true rfl) dX2_init_57 (fun q7 H hP hD hS => ?_)
  refine W.widen (k := 7) (n := 1213) (Nat.le_of_ble_eq_true rfl) (Nat.le_of_ble_eq_true rfl) ?_
  have hP : va_P g.D xcl [(h0, .inr (2, [.null, .null, .null, .ref q1, .ref q2, .ref q3, .ref q4, .ref q5, .ref q6, .null, .null, .null, .null, .int 0])), (q1, .inl (g.cA 0, 40, .inl (fun _ => 0))), (q2, .inl (g.cA 0, 40, .inl (fun _ => 0))), (q3, .inl (g.cA 0, 40, .inl (fun _ => 0))), (q4, .inl (g.cA 1, 40, .inr (.inl (fun _ => 0)))), (q5, .inl (g.cA 0, 520, .inl (fun _ => 0))), (q6, .inl (g.cA 1, 520, .inr (.inl (fun _ => 0)))), (q7, .inl (g.cA 0, 13, .inl (fun _ => 0)))] H := hP
  have hD : va_D A [(h0, .inr (2, [.null, .null, .null, .ref q1, .ref q2, .ref q3, .ref q4, .ref q5, .ref q6, .null, .null, .null, .null, .int 0])), (q1, .inl (g.cA 0, 40, .inl (fun _ => 0))), (q2, .inl (g.cA 0, 40, .inl (fun _ => 0))), (q3, .inl (g.cA 0, 40, .inl (fun _ => 0))), (q4, .inl (g.cA 1, 40, .inr (.inl (fun _ => 0)))), (q5, .inl (g.cA 0, 520, .inl (fun _ => 0))), (q6, .inl (g.cA 1, 520, .inr (.inl (fun _ => 0)))), (q7, .inl (g.cA 0, 13, .inl (fun _ => 0)))] := hD
  refine kp_f (ci := 2) (k := 9) (q0 := 0) (ws' := [(h0, .inr (2, [.null, .null, .null, .ref q1, .ref q2, .ref q3, .ref q4, .ref q5, .ref q6, .ref q7, .null, .null, .null, .int 0])), (q1, .inl (g.cA 0, 40, .inl (fun _ => 0))), (q2, .inl (g.cA 0, 40, .inl (fun _ => 0))), (q3, .inl (g.cA 0, 40, .inl (fun _ => 0))), (q4, .inl (g.cA 1, 40, .inr (.inl (fun _ => 0)))), (q5, .inl (g.cA 0, 520, .inl (fun _ => 0))), (q6, .inl (g.cA 1, 520, .inr (.inl (fun _ => 0)))), (q7, .inl (g.cA 0, 13, .inl (fun _ => 0)))]) hx hb hts hown hin hK hP hD hS rfl igX2 tyX2_ok nmX2 fl_2_35 (Nat.le_of_ble_eq_true rfl) rfl rfl rfl rfl (Nat.le_of_ble_eq_true rfl) rfl rfl dX2_init_59 (fun H locs hP hD hS => ?_)
  refine lv_aload_n hx hb dX2_init_62 rfl (lv_at hl 0 rfl) ?_
  refine lv_bipush (v := 13) hx hb dX2_init_63 rfl ?_
  refine kn_l (N := 13) hx hb hts hK hP hD hS hA (by decide) rfl (Nat.le_of_ble_eq_true rfl) (Nat.le_of_ble_eq_true rfl) (Nat.le_of_ble_eq_true rfl) dX2_init_65 (fun q8 H hP hD hS => ?_)
  refine W.widen (k := 8) (n := 1226) (Nat.le_of_ble_eq_true rfl) (Nat.le_of_ble_eq_true rfl) ?_
  have hP : va_P g.D xcl [(h0, .inr (2, [.null, .null, .null, .ref q1, .ref q2, .ref q3, .ref q4, .ref q5, .ref q6, .ref q7, .null, .null, .null, .int 0])), (q1, .inl (g.cA 0, 40, .inl (fun _ => 0))), (q2, .inl (g.cA 0, 40, .inl (fun _ => 0))), (q3, .inl (g.cA 0, 40, .inl (fun _ => 0))), (q4, .inl (g.cA 1, 40, .inr (.inl (fun _ => 0)))), (q5, .inl (g.cA 0, 520, .inl (fun _ => 0))), (q6, .inl (g.cA 1, 520, .inr (.inl (fun _ => 0)))), (q7, .inl (g.cA 0, 13, .inl (fun _ => 0))), (q8, .inl (g.cA 1, 13, .inr (.inl (fun _ => 0))))] H := hP
  have hD : va_D A [(h0, .inr (2, [.null, .null, .null, .ref q1, .ref q2, .ref q3, .ref q4, .ref q5, .ref q6, .ref q7, .null, .null, .null, .int 0])), (q1, .inl (g.cA 0, 40, .inl (fun _ => 0))), (q2, .inl (g.cA 0, 40, .inl (fun _ => 0))), (q3, .inl (g.cA 0, 40, .inl (fun _ => 0))), (q4, .inl (g.cA 1, 40, .inr (.inl (fun _ => 0)))), (q5, .inl (g.cA 0, 520, .inl (fun _ => 0))), (q6, .inl (g.cA 1, 520, .inr (.inl (fun _ => 0)))), (q7, .inl (g.cA 0, 13, .inl (fun _ => 0))), (q8, .inl (g.cA 1, 13, .inr (.inl (fun _ => 0))))] := hD
  refine kp_f (ci := 2) (k := 10) (q0 := 0) (ws' := [(h0, .inr (2, [.null, .null, .null, .ref q1, .ref q2, .ref q3, .ref q4, .ref q5, .ref q6, .ref q7, .ref q8, .null, .null, .int 0])), (q1, .inl (g.cA 0, 40, .inl (fun _ => 0))), (q2, .inl (g.cA 0, 40, .inl (fun _ => 0))), (q3, .inl (g.cA 0, 40, .inl (fun _ => 0))), (q4, .inl (g.cA 1, 40, .inr (.inl (fun _ => 0)))), (q5, .inl (g.cA 0, 520, .inl (fun _ => 0))), (q6, .inl (g.cA 1, 520, .inr (.inl (fun _ => 0)))), (q7, .inl (g.cA 0, 13, .inl (fun _ => 0))), (q8, .inl (g.cA 1, 13, .inr (.inl (fun _ => 0))))]) hx hb hts hown hin hK hP hD hS rfl igX2 tyX2_ok nmX2 fl_2_38 (Nat.le_of_ble_eq_true rfl) rfl rfl rfl rfl (Nat.le_of_ble_eq_true rfl) rfl rfl dX2_init_67 (fun H locs hP hD hS => ?_)
  refine lv_aload_n hx hb dX2_init_70 rfl (lv_at hl 0 rfl) ?_
  refine lv_bipush (v := 12) hx hb dX2_init_71 rfl ?_
  refine kn_i (N := 12) hx hb hts hK hP hD hS hA (by decide) rfl (Nat.le_of_ble_eq_true rfl) (Nat.le_of_ble_eq_true rfl) (Nat.le_of_ble_eq_true rfl) dX2_init_73 (fun q9 H hP hD hS => ?_)
  refine W.widen (k := 9) (n := 1238) (Nat.le_of_ble_eq_true rfl) (Nat.le_of_ble_eq_true rfl) ?_
  have hP : va_P g.D xcl [(h0, .inr (2, [.null, .null, .null, .ref q1, .ref q2, .ref q3, .ref q4, .ref q5, .ref q6, .ref q7, .ref q8, .null, .null, .int 0])), (q1, .inl (g.cA 0, 40, .inl (fun _ => 0))), (q2, .inl (g.cA 0, 40, .inl (fun _ => 0))), (q3, .inl (g.cA 0, 40, .inl (fun _ => 0))), (q4, .inl (g.cA 1, 40, .inr (.inl (fun _ => 0)))), (q5, .inl (g.cA 0, 520, .inl (fun _ => 0))), (q6, .inl (g.cA 1, 520, .inr (.inl (fun _ => 0)))), (q7, .inl (g.cA 0, 13, .inl (fun _ => 0))), (q8, .inl (g.cA 1, 13, .inr (.inl (fun _ => 0)))), (q9, .inl (g.cA 0, 12, .inl (fun _ => 0)))] H := hP
  have hD : va_D A [(h0, .inr (2, [.null, .null, .null, .ref q1, .ref q2, .ref q3, .ref q4, .ref q5, .ref q6, .ref q7, .ref q8, .null, .null, .int 0])), (q1, .inl (g.cA 0, 40, .inl (fun _ => 0))), (q2, .inl (g.cA 0, 40, .inl (fun _ => 0))), (q3, .inl (g.cA 0, 40, .inl (fun _ => 0))), (q4, .inl (g.cA 1, 40, .inr (.inl (fun _ => 0)))), (q5, .inl (g.cA 0, 520, .inl (fun _ => 0))), (q6, .inl (g.cA 1, 520, .inr (.inl (fun _ => 0)))), (q7, .inl (g.cA 0, 13, .inl (fun _ => 0))), (q8, .inl (g.cA 1, 13, .inr (.inl (fun _ => 0)))), (q9, .inl (g.cA 0, 12, .inl (fun _ => 0)))] := hD
  refine kp_f (ci := 2) (k := 11) (q0 := 0) (ws' := [(h0, .inr (2, [.null, .null, .null, .ref q1, .ref q2, .ref q3, .ref q4, .ref q5, .ref q6, .ref q7, .ref q8, .ref q9, .null, .int 0])), (q1, .inl (g.cA 0, 40, .inl (fun _ => 0))), (q2, .inl (g.cA 0, 40, .inl (fun _ => 0))), (q3, .inl (g.cA 0, 40, .inl (fun _ => 0))), (q4, .inl (g.cA 1, 40, .inr (.inl (fun _ => 0)))), (q5, .inl (g.cA 0, 520, .inl (fun _ => 0))), (q6, .inl (g.cA 1, 520, .inr (.inl (fun _ => 0)))), (q7, .inl (g.cA 0, 13, .inl (fun _ => 0))), (q8, .inl (g.cA 1, 13, .inr (.inl (fun _ => 0)))), (q9, .inl (g.cA 0, 12, .inl (fun _ => 0)))]) hx hb hts hown hin hK hP hD hS rfl igX2 tyX2_ok nmX2 fl_2_41 (Nat.le_of_ble_eq_true rfl) rfl rfl rfl rfl (Nat.le_of_ble_eq_true rfl) rfl rfl dX2_init_75 (fun H locs hP hD hS => ?_)
  refine lv_aload_n hx hb dX2_init_78 rfl (lv_at hl 0 rfl) ?_
  refine lv_bipush (v := 13) hx hb dX2_init_79 rfl ?_
  refine kn_i (N := 13) hx hb hts hK hP hD hS hA (by decide) rfl (Nat.le_of_ble_eq_true rfl) (Nat.le_of_ble_eq_true rfl) (Nat.le_of_ble_eq_true rfl) dX2_init_81 (fun q10 H hP hD hS => ?_)
  refine W.widen (k := 10) (n := 1251) (Nat.le_of_ble_eq_true rfl) (Nat.le_of_ble_eq_true rfl) ?_
  have hP : va_P g.D xcl [(h0, .inr (2, [.null, .null, .null, .ref q1, .ref q2, .ref q3, .ref q4, .ref q5, .ref q6, .ref q7, .ref q8, .ref q9, .null, .int 0])), (q1, .inl (g.cA 0, 40, .inl (fun _ => 0))), (q2, .inl (g.cA 0, 40, .inl (fun _ => 0))), (q3, .inl (g.cA 0, 40, .inl (fun _ => 0))), (q4, .inl (g.cA 1, 40, .inr (.inl (fun _ => 0)))), (q5, .inl (g.cA 0, 520, .inl (fun _ => 0))), (q6, .inl (g.cA 1, 520, .inr (.inl (fun _ => 0)))), (q7, .inl (g.cA 0, 13, .inl (fun _ => 0))), (q8, .inl (g.cA 1, 13, .inr (.inl (fun _ => 0)))), (q9, .inl (g.cA 0, 12, .inl (fun _ => 0))), (q10, .inl (g.cA 0, 13, .inl (fun _ => 0)))] H := hP
  have hD : va_D A [(h0, .inr (2, [.null, .null, .null, .ref q1, .ref q2, .ref q3, .ref q4, .ref q5, .ref q6, .ref q7, .ref q8, .ref q9, .null, .int 0])), (q1, .inl (g.cA 0, 40, .inl (fun _ => 0))), (q2, .inl (g.cA 0, 40, .inl (fun _ => 0))), (q3, .inl (g.cA 0, 40, .inl (fun _ => 0))), (q4, .inl (g.cA 1, 40, .inr (.inl (fun _ => 0)))), (q5, .inl (g.cA 0, 520, .inl (fun _ => 0))), (q6, .inl (g.cA 1, 520, .inr (.inl (fun _ => 0)))), (q7, .inl (g.cA 0, 13, .inl (fun _ => 0))), (q8, .inl (g.cA 1, 13, .inr (.inl (fun _ => 0)))), (q9, .inl (g.cA 0, 12, .inl (fun _ => 0))), (q10, .inl (g.cA 0, 13, .inl (fun _ => 0)))] := hD
  refine kp_f (ci := 2) (k := 12) (q0 := 0) (ws' := [(h0, .inr (2, [.null, .null, .null, .ref q1, .ref q2, .ref q3, .ref q4, .ref q5, .ref q6, .ref q7, .ref q8, .ref q9, .ref q10, .int 0])), (q1, .inl (g.cA 0, 40, .inl (fun _ => 0))), (q2, .inl (g.cA 0, 40, .inl (fun _ => 0))), (q3, .inl (g.cA 0, 40, .inl (fun _ => 0))), (q4, .inl (g.cA 1, 40, .inr (.inl (fun _ => 0)))), (q5, .inl (g.cA 0, 520, .inl (fun _ => 0))), (q6, .inl (g.cA 1, 520, .inr (.inl (fun _ => 0)))), (q7, .inl (g.cA 0, 13, .inl (fun _ => 0))), (q8, .inl (g.cA 1, 13, .inr (.inl (fun _ => 0)))), (q9, .inl (g.cA 0, 12, .inl (fun _ => 0))), (q10, .inl (g.cA 0, 13, .inl (fun _ => 0)))]) hx hb hts hown hin hK hP hD hS rfl igX2 tyX2_ok nmX2 fl_2_44 (Nat.le_of_ble_eq_true rfl) rfl rfl rfl rfl (Nat.le_of_ble_eq_true rfl) rfl rfl dX2_init_83 (fun H locs hP hD hS => ?_)
  refine lv_aload_n hx hb dX2_init_86 rfl (lv_at hl 0 rfl) ?_
  refine lv_aload_n hx hb dX2_init_87 rfl (lv_at hl 1 rfl) ?_
  refine kp_f (ci := 2) (k := 0) (q0 := 0) (ws' := [(h0, .inr (2, [.ref a0, .null, .null, .ref q1, .ref q2, .ref q3, .ref q4, .ref q5, .ref q6, .ref q7, .ref q8, .ref q9, .ref q10, .int 0])), (q1, .inl (g.cA 0, 40, .inl (fun _ => 0))), (q2, .inl (g.cA 0, 40, .inl (fun _ => 0))), (q3, .inl (g.cA 0, 40, .inl (fun _ => 0))), (q4, .inl (g.cA 1, 40, .inr (.inl (fun _ => 0)))), (q5, .inl (g.cA 0, 520, .inl (fun _ => 0))), (q6, .inl (g.cA 1, 520, .inr (.inl (fun _ => 0)))), (q7, .inl (g.cA 0, 13, .inl (fun _ => 0))), (q8, .inl (g.cA 1, 13, .inr (.inl (fun _ => 0)))), (q9, .inl (g.cA 0, 12, .inl (fun _ => 0))), (q10, .inl (g.cA 0, 13, .inl (fun _ => 0)))]) hx hb hts hown hin hK hP hD hS rfl igX2 tyX2_ok nmX2 fl_2_47 (Nat.le_of_ble_eq_true rfl) rfl rfl rfl rfl (Nat.le_of_ble_eq_true rfl) rfl rfl dX2_init_88 (fun H locs hP hD hS => ?_)
  refine lv_aload_n hx hb dX2_init_91 rfl (lv_at hl 0 rfl) ?_
  refine lv_aload_n hx hb dX2_init_92 rfl (lv_at hl 2 rfl) ?_
  refine kp_f (ci := 2) (k := 1) (q0 := 0) (ws' := [(h0, .inr (2, [.ref a0, .ref a1, .null, .ref q1, .ref q2, .ref q3, .ref q4, .ref q5, .ref q6, .ref q7, .ref q8, .ref q9, .ref q10, .int 0])), (q1, .inl (g.cA 0, 40, .inl (fun _ => 0))), (q2, .inl (g.cA 0, 40, .inl (fun _ => 0))), (q3, .inl (g.cA 0, 40, .inl (fun _ => 0))), (q4, .inl (g.cA 1, 40, .inr (.inl (fun _ => 0)))), (q5, .inl (g.cA 0, 520, .inl (fun _ => 0))), (q6, .inl (g.cA 1, 520, .inr (.inl (fun _ => 0)))), (q7, .inl (g.cA 0, 13, .inl (fun _ => 0))), (q8, .inl (g.cA 1, 13, .inr (.inl (fun _ => 0)))), (q9, .inl (g.cA 0, 12, .inl (fun _ => 0))), (q10, .inl (g.cA 0, 13, .inl (fun _ => 0)))]) hx hb hts hown hin hK hP hD hS rfl igX2 tyX2_ok nmX2 fl_2_51 (Nat.le_of_ble_eq_true rfl) rfl rfl rfl rfl (Nat.le_of_ble_eq_true rfl) rfl rfl dX2_init_93 (fun H locs hP hD hS => ?_)
  refine lv_aload_n hx hb dX2_init_96 rfl (lv_at hl 0 rfl) ?_
  refine lv_aload_n hx hb dX2_init_97 rfl (lv_at hl 3 rfl) ?_
  refine kp_f (ci := 2) (k := 2) (q0 := 0) (ws' := [(h0, .inr (2, [.ref a0, .ref a1, .ref a2, .ref q1, .ref q2, .ref q3, .ref q4, .ref q5, .ref q6, .ref q7, .ref q8, .ref q9, .ref q10, .int 0])), (q1, .inl (g.cA 0, 40, .inl (fun _ => 0))), (q2, .inl (g.cA 0, 40, .inl (fun _ => 0))), (q3, .inl (g.cA 0, 40, .inl (fun _ => 0))), (q4, .inl (g.cA 1, 40, .inr (.inl (fun _ => 0)))), (q5, .inl (g.cA 0, 520, .inl (fun _ => 0))), (q6, .inl (g.cA 1, 520, .inr (.inl (fun _ => 0)))), (q7, .inl (g.cA 0, 13, .inl (fun _ => 0))), (q8, .inl (g.cA 1, 13, .inr (.inl (fun _ => 0)))), (q9, .inl (g.cA 0, 12, .inl (fun _ => 0))), (q10, .inl (g.cA 0, 13, .inl (fun _ => 0)))]) hx hb hts hown hin hK hP hD hS rfl igX2 tyX2_ok nmX2 fl_2_55 (Nat.le_of_ble_eq_true rfl) rfl rfl rfl rfl (Nat.le_of_ble_eq_true rfl) rfl rfl dX2_init_98 (fun H locs hP hD hS => ?_)
  exact W.vret hx hb hr (fun t ht hW => ⟨⟨(), rfl, trivial, q1, q2, q3, q4, q5, q6, q7, q8, q9, q10, by rw [ht]; exact hP, hD⟩, hS.F ht⟩) hS.2.2 dX2_init_101
theorem dX5_init_0 : decode cX5_init 0 = .ok (.aload_n 0, 1) := by decide +kernel
theorem dX5_init_1 : decode cX5_init 1 = .ok (.invokespecial 3, 3) := by decide +kernel
theorem dX5_init_4 : decode cX5_init 4 = .ok (.aload_n 0, 1) := by decide +kernel
theorem dX5_init_5 : decode cX5_init 5 = .ok (.bipush 24, 2) := by decide +kernel
theorem dX5_init_7 : decode cX5_init 7 = .ok (.newarray .int, 2) := by decide +kernel
theorem dX5_init_9 : decode cX5_init 9 = .ok (.putfield 11, 3) := by decide +kernel
theorem dX5_init_12 : decode cX5_init 12 = .ok (.aload_n 0, 1) := by decide +kernel
theorem dX5_init_13 : decode cX5_init 13 = .ok (.bipush 24, 2) := by decide +kernel
theorem dX5_init_15 : decode cX5_init 15 = .ok (.newarray .int, 2) := by decide +kernel
theorem dX5_init_17 : decode cX5_init 17 = .ok (.putfield 15, 3) := by decide +kernel
theorem dX5_init_20 : decode cX5_init 20 = .ok (.aload_n 0, 1) := by decide +kernel
theorem dX5_init_21 : decode cX5_init 21 = .ok (.bipush 25, 2) := by decide +kernel
theorem dX5_init_23 : decode cX5_init 23 = .ok (.newarray .long, 2) := by decide +kernel
theorem dX5_init_25 : decode cX5_init 25 = .ok (.putfield 18, 3) := by decide +kernel
theorem dX5_init_28 : decode cX5_init 28 = .ok (.aload_n 0, 1) := by decide +kernel
theorem dX5_init_29 : decode cX5_init 29 = .ok (.sipush 960, 3) := by decide +kernel
theorem dX5_init_32 : decode cX5_init 32 = .ok (.newarray .int, 2) := by decide +kernel
theorem dX5_init_34 : decode cX5_init 34 = .ok (.putfield 24, 3) := by decide +kernel
theorem dX5_init_37 : decode cX5_init 37 = .ok (.aload_n 0, 1) := by decide +kernel
theorem dX5_init_38 : decode cX5_init 38 = .ok (.bipush 25, 2) := by decide +kernel
theorem dX5_init_40 : decode cX5_init 40 = .ok (.newarray .int, 2) := by decide +kernel
theorem dX5_init_42 : decode cX5_init 42 = .ok (.putfield 27, 3) := by decide +kernel
theorem dX5_init_45 : decode cX5_init 45 = .ok (.aload_n 0, 1) := by decide +kernel
theorem dX5_init_46 : decode cX5_init 46 = .ok (.bipush 25, 2) := by decide +kernel
theorem dX5_init_48 : decode cX5_init 48 = .ok (.newarray .int, 2) := by decide +kernel
theorem dX5_init_50 : decode cX5_init 50 = .ok (.putfield 30, 3) := by decide +kernel
theorem dX5_init_53 : decode cX5_init 53 = .ok (.aload_n 0, 1) := by decide +kernel
theorem dX5_init_54 : decode cX5_init 54 = .ok (.bipush 25, 2) := by decide +kernel
theorem dX5_init_56 : decode cX5_init 56 = .ok (.newarray .int, 2) := by decide +kernel
theorem dX5_init_58 : decode cX5_init 58 = .ok (.putfield 33, 3) := by decide +kernel
theorem dX5_init_61 : decode cX5_init 61 = .ok (.aload_n 0, 1) := by decide +kernel
theorem dX5_init_62 : decode cX5_init 62 = .ok (.bipush 24, 2) := by decide +kernel
theorem dX5_init_64 : decode cX5_init 64 = .ok (.newarray .int, 2) := by decide +kernel
theorem dX5_init_66 : decode cX5_init 66 = .ok (.putfield 36, 3) := by decide +kernel
theorem dX5_init_69 : decode cX5_init 69 = .ok (.aload_n 0, 1) := by decide +kernel
theorem dX5_init_70 : decode cX5_init 70 = .ok (.bipush 24, 2) := by decide +kernel
theorem dX5_init_72 : decode cX5_init 72 = .ok (.newarray .int, 2) := by decide +kernel
theorem dX5_init_74 : decode cX5_init 74 = .ok (.putfield 39, 3) := by decide +kernel
theorem dX5_init_77 : decode cX5_init 77 = .ok (.aload_n 0, 1) := by decide +kernel
theorem dX5_init_78 : decode cX5_init 78 = .ok (.aload_n 1, 1) := by decide +kernel
theorem dX5_init_79 : decode cX5_init 79 = .ok (.putfield 42, 3) := by decide +kernel
theorem dX5_init_82 : decode cX5_init 82 = .ok (.aload_n 0, 1) := by decide +kernel
theorem dX5_init_83 : decode cX5_init 83 = .ok (.aload_n 2, 1) := by decide +kernel
theorem dX5_init_84 : decode cX5_init 84 = .ok (.putfield 46, 3) := by decide +kernel
theorem dX5_init_87 : decode cX5_init 87 = .ok (.aload_n 0, 1) := by decide +kernel
theorem dX5_init_88 : decode cX5_init 88 = .ok (.aload_n 3, 1) := by decide +kernel
theorem dX5_init_89 : decode cX5_init 89 = .ok (.putfield 50, 3) := by decide +kernel
theorem dX5_init_92 : decode cX5_init 92 = .ok (.return_, 1) := by decide +kernel
set_option maxHeartbeats 4000000 in
set_option maxRecDepth 100000 in
theorem k_X5_init {l : Launch} {g : XG} (h0 sz a0 a1 a2 : Nat) : Met l yX5_init (.code yX5_init cX5_init 4 none :: lw_g) { frames := 1, cells := 9, slots := 1156, locals := 60 } (va_Pc [.ref h0, .ref a0, .ref a1, .ref a2] (fun U => U.heap.size = sz ∧ va_P g.D xcl [(h0, .inr (5, [.null, .null, .null, .null, .int 0, .null, .null, .null, .null, .null, .null, .int 0, .null, .null]))] U.heap ∧ va_K g.D xcl (xty g.cA) U ∧ va_D (fun _ => True) [(h0, .inr (5, [.null, .null, .null, .null, .int 0, .null, .null, .null, .null, .null, .null, .int 0, .null, .null]))] ∧ xcs (va_A [(h0, .inr (5, [.null, .null, .null, .null, .int 0, .null, .null, .null, .null, .null, .null, .int 0, .null, .null]))] sz) g U U.heap)) (va_Qv (fun _ : Unit => True) (fun _ t => ∃ (q1 q2 q3 q4 q5 q6 q7 q8 q9 : Nat), va_P g.D xcl [(h0, .inr (5, [.ref a0, .ref a1, .ref a2, .ref q1, .int 0, .ref q2, .ref q3, .ref q4, .ref q5, .ref q6, .ref q7, .int 0, .ref q8, .ref q9])), (q1, .inl (g.cA 0, 24, .inl (fun _ => 0))), (q2, .inl (g.cA 0, 24, .inl (fun _ => 0))), (q3, .inl (g.cA 1, 25, .inr (.inl (fun _ => 0)))), (q4, .inl (g.cA 0, 960, .inl (fun _ => 0))), (q5, .inl (g.cA 0, 25, .inl (fun _ => 0))), (q6, .inl (g.cA 0, 25, .inl (fun _ => 0))), (q7, .inl (g.cA 0, 25, .inl (fun _ => 0))), (q8, .inl (g.cA 0, 24, .inl (fun _ => 0))), (q9, .inl (g.cA 0, 24, .inl (fun _ => 0)))] t.heap ∧ va_D (va_A [(h0, .inr (5, [.null, .null, .null, .null, .int 0, .null, .null, .null, .null, .null, .null, .int 0, .null, .null]))] sz) [(h0, .inr (5, [.ref a0, .ref a1, .ref a2, .ref q1, .int 0, .ref q2, .ref q3, .ref q4, .ref q5, .ref q6, .ref q7, .int 0, .ref q8, .ref q9])), (q1, .inl (g.cA 0, 24, .inl (fun _ => 0))), (q2, .inl (g.cA 0, 24, .inl (fun _ => 0))), (q3, .inl (g.cA 1, 25, .inr (.inl (fun _ => 0)))), (q4, .inl (g.cA 0, 960, .inl (fun _ => 0))), (q5, .inl (g.cA 0, 25, .inl (fun _ => 0))), (q6, .inl (g.cA 0, 25, .inl (fun _ => 0))), (q7, .inl (g.cA 0, 25, .inl (fun _ => 0))), (q8, .inl (g.cA 0, 24, .inl (fun _ => 0))), (q9, .inl (g.cA 0, 24, .inl (fun _ => 0)))]) (va_A [(h0, .inr (5, [.null, .null, .null, .null, .int 0, .null, .null, .null, .null, .null, .null, .int 0, .null, .null]))] sz)) 9 1156 (va_A [(h0, .inr (5, [.null, .null, .null, .null, .int 0, .null, .null, .null, .null, .null, .null, .int 0, .null, .null]))] sz) := by
  refine Met.ofW (cc := cX5_init) (maxL := 4) (ret := none) pn_X5 rfl ?_
  intro p e s m args below meth c s₁ B hml hv
  obtain ⟨rfl, hsz, hP, hK, hD0, hcs⟩ := hv
  have hx := B.exec
  have hb := B.bytes
  have hr := B.returns
  have hts1 := atoms_spec (ws := .code yX5_init cX5_init 4 none :: lw_g) B.pre
  have hts : ∀ w ∈ lw_g, w.before _ s = true := fun w hw => hts1 w (List.mem_cons_of_mem _ hw)
  have hown : s.vm.findClass RX5 = some m.cls := findClass_of_methodNamed B.named
  have hlocks := B.notSynchronized
  have hin : meth.name = "<init>" := (name_of_methodNamed B.named B.method).1
  subst hsz
  have hD := hD0.self (sz := s.heap.size)
  generalize hAe : va_A [(h0, .inr (5, [.null, .null, .null, .null, .int 0, .null, .null, .null, .null, .null, .null, .int 0, .null, .null]))] s.heap.size = A at hD hcs ⊢
  have hA : ∀ q : Nat, s.heap.size ≤ q → A q := fun q h => by rw [← hAe]; exact Or.inr h
  have hS : va_S A s.heap s.heap [] := va_S.rf
  have hP : va_P g.D xcl [(h0, .inr (5, [.null, .null, .null, .null, .int 0, .null, .null, .null, .null, .null, .null, .int 0, .null, .null]))] s.heap := hP
  have hl := lv_entry ([.ref h0, .ref a0, .ref a1, .ref a2]) (n := 4) (Nat.le_of_ble_eq_true rfl)
  rw [lg_entry_eq]
  generalize (lg_sl ([.ref h0, .ref a0, .ref a1, .ref a2]) ++ List.replicate (4 - (lg_sl ([.ref h0, .ref a0, .ref a1, .ref a2])).length) Slot.unset).toArray = ls at hl ⊢
  have hl : lv_has ls 4 [(0, .ref h0), (1, .ref a0), (2, .ref a1), (3, .ref a2)] := hl
  refine lv_aload_n hx hb dX5_init_0 rfl (lv_at hl 0 rfl) ?_
  refine W.objInit hx hb hown (hts _ ml_X5_3) (hts _ xoi_i) (hts _ xoi_c) rfl (by rw [hml]; exact hl.1) rfl dX5_init_1 (Nat.le_of_ble_eq_true rfl) (Nat.le_of_ble_eq_true rfl) ?_
  refine W.eq (g2 := F0 m 4 ls []) rfl ?_
  refine lv_aload_n hx hb dX5_init_4 rfl (lv_at hl 0 rfl) ?_
  refine lv_bipush (v := 24) hx hb dX5_init_5 rfl ?_
  refine kn_i (N := 24) hx hb hts hK hP hD hS hA (by decide) rfl (Nat.le_of_ble_eq_true rfl) (Nat.le_of_ble_eq_true rfl) (Nat.le_of_ble_eq_true rfl) dX5_init_7 (fun q1 H hP hD hS => ?_)
  refine W.widen (k := 1) (n := 24) (Nat.le_of_ble_eq_true rfl) (Nat.le_of_ble_eq_true rfl) ?_
  have hP : va_P g.D xcl [(h0, .inr (5, [.null, .null, .null, .null, .int 0, .null, .null, .null, .null, .null, .null, .int 0, .null, .null])), (q1, .inl (g.cA 0, 24, .inl (fun _ => 0)))] H := hP
  have hD : va_D A [(h0, .inr (5, [.null, .null, .null, .null, .int 0, .null, .null, .null, .null, .null, .null, .int 0, .null, .null])), (q1, .inl (g.cA 0, 24, .inl (fun _ => 0)))] := hD
  refine kp_f (ci := 5) (k := 3) (q0 := 0) (ws' := [(h0, .inr (5, [.null, .null, .null, .ref q1, .int 0, .null, .null, .null, .null, .null, .null, .int 0, .null, .null])), (q1, .inl (g.cA 0, 24, .inl (fun _ => 0)))]) hx hb hts hown hin hK hP hD hS rfl igX5 tyX5_ok nmX5 fl_5_11 (Nat.le_of_ble_eq_true rfl) rfl rfl rfl rfl (Nat.le_of_ble_eq_true rfl) rfl rfl dX5_init_9 (fun H locs hP hD hS => ?_)
  refine lv_aload_n hx hb dX5_init_12 rfl (lv_at hl 0 rfl) ?_
  refine lv_bipush (v := 24) hx hb dX5_init_13 rfl ?_
  refine kn_i (N := 24) hx hb hts hK hP hD hS hA (by decide) rfl (Nat.le_of_ble_eq_true rfl) (Nat.le_of_ble_eq_true rfl) (Nat.le_of_ble_eq_true rfl) dX5_init_15 (fun q2 H hP hD hS => ?_)
  refine W.widen (k := 2) (n := 48) (Nat.le_of_ble_eq_true rfl) (Nat.le_of_ble_eq_true rfl) ?_
  have hP : va_P g.D xcl [(h0, .inr (5, [.null, .null, .null, .ref q1, .int 0, .null, .null, .null, .null, .null, .null, .int 0, .null, .null])), (q1, .inl (g.cA 0, 24, .inl (fun _ => 0))), (q2, .inl (g.cA 0, 24, .inl (fun _ => 0)))] H := hP
  have hD : va_D A [(h0, .inr (5, [.null, .null, .null, .ref q1, .int 0, .null, .null, .null, .null, .null, .null, .int 0, .null, .null])), (q1, .inl (g.cA 0, 24, .inl (fun _ => 0))), (q2, .inl (g.cA 0, 24, .inl (fun _ => 0)))] := hD
  refine kp_f (ci := 5) (k := 5) (q0 := 0) (ws' := [(h0, .inr (5, [.null, .null, .null, .ref q1, .int 0, .ref q2, .null, .null, .null, .null, .null, .int 0, .null, .null])), (q1, .inl (g.cA 0, 24, .inl (fun _ => 0))), (q2, .inl (g.cA 0, 24, .inl (fun _ => 0)))]) hx hb hts hown hin hK hP hD hS rfl igX5 tyX5_ok nmX5 fl_5_15 (Nat.le_of_ble_eq_true rfl) rfl rfl rfl rfl (Nat.le_of_ble_eq_true rfl) rfl rfl dX5_init_17 (fun H locs hP hD hS => ?_)
  refine lv_aload_n hx hb dX5_init_20 rfl (lv_at hl 0 rfl) ?_
  refine lv_bipush (v := 25) hx hb dX5_init_21 rfl ?_
  refine kn_l (N := 25) hx hb hts hK hP hD hS hA (by decide) rfl (Nat.le_of_ble_eq_true rfl) (Nat.le_of_ble_eq_true rfl) (Nat.le_of_ble_eq_true rfl) dX5_init_23 (fun q3 H hP hD hS => ?_)
  refine W.widen (k := 3) (n := 73) (Nat.le_of_ble_eq_true rfl) (Nat.le_of_ble_eq_true rfl) ?_
  have hP : va_P g.D xcl [(h0, .inr (5, [.null, .null, .null, .ref q1, .int 0, .ref q2, .null, .null, .null, .null, .null, .int 0, .null, .null])), (q1, .inl (g.cA 0, 24, .inl (fun _ => 0))), (q2, .inl (g.cA 0, 24, .inl (fun _ => 0))), (q3, .inl (g.cA 1, 25, .inr (.inl (fun _ => 0))))] H := hP
  have hD : va_D A [(h0, .inr (5, [.null, .null, .null, .ref q1, .int 0, .ref q2, .null, .null, .null, .null, .null, .int 0, .null, .null])), (q1, .inl (g.cA 0, 24, .inl (fun _ => 0))), (q2, .inl (g.cA 0, 24, .inl (fun _ => 0))), (q3, .inl (g.cA 1, 25, .inr (.inl (fun _ => 0))))] := hD
  refine kp_f (ci := 5) (k := 6) (q0 := 0) (ws' := [(h0, .inr (5, [.null, .null, .null, .ref q1, .int 0, .ref q2, .ref q3, .null, .null, .null, .null, .int 0, .null, .null])), (q1, .inl (g.cA 0, 24, .inl (fun _ => 0))), (q2, .inl (g.cA 0, 24, .inl (fun _ => 0))), (q3, .inl (g.cA 1, 25, .inr (.inl (fun _ => 0))))]) hx hb hts hown hin hK hP hD hS rfl igX5 tyX5_ok nmX5 fl_5_18 (Nat.le_of_ble_eq_true rfl) rfl rfl rfl rfl (Nat.le_of_ble_eq_true rfl) rfl rfl dX5_init_25 (fun H locs hP hD hS => ?_)
  refine lv_aload_n hx hb dX5_init_28 rfl (lv_at hl 0 rfl) ?_
  refine lv_sipush (v := 960) hx hb dX5_init_29 rfl ?_
  refine kn_i (N := 960) hx hb hts hK hP hD hS hA (by decide) rfl (Nat.le_of_ble_eq_true rfl) (Nat.le_of_ble_eq_true rfl) (Nat.le_of_ble_eq_true rfl) dX5_init_32 (fun q4 H hP hD hS => ?_)
  refine W.widen (k := 4) (n := 1033) (Nat.le_of_ble_eq_true rfl) (Nat.le_of_ble_eq_true rfl) ?_
  have hP : va_P g.D xcl [(h0, .inr (5, [.null, .null, .null, .ref q1, .int 0, .ref q2, .ref q3, .null, .null, .null, .null, .int 0, .null, .null])), (q1, .inl (g.cA 0, 24, .inl (fun _ => 0))), (q2, .inl (g.cA 0, 24, .inl (fun _ => 0))), (q3, .inl (g.cA 1, 25, .inr (.inl (fun _ => 0)))), (q4, .inl (g.cA 0, 960, .inl (fun _ => 0)))] H := hP
  have hD : va_D A [(h0, .inr (5, [.null, .null, .null, .ref q1, .int 0, .ref q2, .ref q3, .null, .null, .null, .null, .int 0, .null, .null])), (q1, .inl (g.cA 0, 24, .inl (fun _ => 0))), (q2, .inl (g.cA 0, 24, .inl (fun _ => 0))), (q3, .inl (g.cA 1, 25, .inr (.inl (fun _ => 0)))), (q4, .inl (g.cA 0, 960, .inl (fun _ => 0)))] := hD
  refine kp_f (ci := 5) (k := 7) (q0 := 0) (ws' := [(h0, .inr (5, [.null, .null, .null, .ref q1, .int 0, .ref q2, .ref q3, .ref q4, .null, .null, .null, .int 0, .null, .null])), (q1, .inl (g.cA 0, 24, .inl (fun _ => 0))), (q2, .inl (g.cA 0, 24, .inl (fun _ => 0))), (q3, .inl (g.cA 1, 25, .inr (.inl (fun _ => 0)))), (q4, .inl (g.cA 0, 960, .inl (fun _ => 0)))]) hx hb hts hown hin hK hP hD hS rfl igX5 tyX5_ok nmX5 fl_5_24 (Nat.le_of_ble_eq_true rfl) rfl rfl rfl rfl (Nat.le_of_ble_eq_true rfl) rfl rfl dX5_init_34 (fun H locs hP hD hS => ?_)
  refine lv_aload_n hx hb dX5_init_37 rfl (lv_at hl 0 rfl) ?_
  refine lv_bipush (v := 25) hx hb dX5_init_38 rfl ?_
  refine kn_i (N := 25) hx hb hts hK hP hD hS hA (by decide) rfl (Nat.le_of_ble_eq_true rfl) (Nat.le_of_ble_eq_true rfl) (Nat.le_of_ble_eq_true rfl) dX5_init_40 (fun q5 H hP hD hS => ?_)
  refine W.widen (k := 5) (n := 1058) (Nat.le_of_ble_eq_true rfl) (Nat.le_of_ble_eq_true rfl) ?_
  have hP : va_P g.D xcl [(h0, .inr (5, [.null, .null, .null, .ref q1, .int 0, .ref q2, .ref q3, .ref q4, .null, .null, .null, .int 0, .null, .null])), (q1, .inl (g.cA 0, 24, .inl (fun _ => 0))), (q2, .inl (g.cA 0, 24, .inl (fun _ => 0))), (q3, .inl (g.cA 1, 25, .inr (.inl (fun _ => 0)))), (q4, .inl (g.cA 0, 960, .inl (fun _ => 0))), (q5, .inl (g.cA 0, 25, .inl (fun _ => 0)))] H := hP
  have hD : va_D A [(h0, .inr (5, [.null, .null, .null, .ref q1, .int 0, .ref q2, .ref q3, .ref q4, .null, .null, .null, .int 0, .null, .null])), (q1, .inl (g.cA 0, 24, .inl (fun _ => 0))), (q2, .inl (g.cA 0, 24, .inl (fun _ => 0))), (q3, .inl (g.cA 1, 25, .inr (.inl (fun _ => 0)))), (q4, .inl (g.cA 0, 960, .inl (fun _ => 0))), (q5, .inl (g.cA 0, 25, .inl (fun _ => 0)))] := hD
  refine kp_f (ci := 5) (k := 8) (q0 := 0) (ws' := [(h0, .inr (5, [.null, .null, .null, .ref q1, .int 0, .ref q2, .ref q3, .ref q4, .ref q5, .null, .null, .int 0, .null, .null])), (q1, .inl (g.cA 0, 24, .inl (fun _ => 0))), (q2, .inl (g.cA 0, 24, .inl (fun _ => 0))), (q3, .inl (g.cA 1, 25, .inr (.inl (fun _ => 0)))), (q4, .inl (g.cA 0, 960, .inl (fun _ => 0))), (q5, .inl (g.cA 0, 25, .inl (fun _ => 0)))]) hx hb hts hown hin hK hP hD hS rfl igX5 tyX5_ok nmX5 fl_5_27 (Nat.le_of_ble_eq_true rfl) rfl rfl rfl rfl (Nat.le_of_ble_eq_true rfl) rfl rfl dX5_init_42 (fun H locs hP hD hS => ?_)
  refine lv_aload_n hx hb dX5_init_45 rfl (lv_at hl 0 rfl) ?_
  refine lv_bipush (v := 25) hx hb dX5_init_46 rfl ?_
  refine kn_i (N := 25) hx hb hts hK hP hD hS hA (by decide) rfl (Nat.le_of_ble_eq_true rfl) (Nat.le_of_ble_eq_true rfl) (Nat.le_of_ble_eq_true rfl) dX5_init_48 (fun q6 H hP hD hS => ?_)
  refine W.widen (k := 6) (n := 1083) (Nat.le_of_ble_eq_true rfl) (Nat.le_of_ble_eq_true rfl) ?_
  have hP : va_P g.D xcl [(h0, .inr (5, [.null, .null, .null, .ref q1, .int 0, .ref q2, .ref q3, .ref q4, .ref q5, .null, .null, .int 0, .null, .null])), (q1, .inl (g.cA 0, 24, .inl (fun _ => 0))), (q2, .inl (g.cA 0, 24, .inl (fun _ => 0))), (q3, .inl (g.cA 1, 25, .inr (.inl (fun _ => 0)))), (q4, .inl (g.cA 0, 960, .inl (fun _ => 0))), (q5, .inl (g.cA 0, 25, .inl (fun _ => 0))), (q6, .inl (g.cA 0, 25, .inl (fun _ => 0)))] H := hP
  have hD : va_D A [(h0, .inr (5, [.null, .null, .null, .ref q1, .int 0, .ref q2, .ref q3, .ref q4, .ref q5, .null, .null, .int 0, .null, .null])), (q1, .inl (g.cA 0, 24, .inl (fun _ => 0))), (q2, .inl (g.cA 0, 24, .inl (fun _ => 0))), (q3, .inl (g.cA 1, 25, .inr (.inl (fun _ => 0)))), (q4, .inl (g.cA 0, 960, .inl (fun _ => 0))), (q5, .inl (g.cA 0, 25, .inl (fun _ => 0))), (q6, .inl (g.cA 0, 25, .inl (fun _ => 0)))] := hD
  refine kp_f (ci := 5) (k := 9) (q0 := 0) (ws' := [(h0, .inr (5, [.null, .null, .null, .ref q1, .int 0, .ref q2, .ref q3, .ref q4, .ref q5, .ref q6, .null, .int 0, .null, .null])), (q1, .inl (g.cA 0, 24, .inl (fun _ => 0))), (q2, .inl (g.cA 0, 24, .inl (fun _ => 0))), (q3, .inl (g.cA 1, 25, .inr (.inl (fun _ => 0)))), (q4, .inl (g.cA 0, 960, .inl (fun _ => 0))), (q5, .inl (g.cA 0, 25, .inl (fun _ => 0))), (q6, .inl (g.cA 0, 25, .inl (fun _ => 0)))]) hx hb hts hown hin hK hP hD hS rfl igX5 tyX5_ok nmX5 fl_5_30 (Nat.le_of_ble_eq_true rfl) rfl rfl rfl rfl (Nat.le_of_ble_eq_true rfl) rfl rfl dX5_init_50 (fun H locs hP hD hS => ?_)
  refine lv_aload_n hx hb dX5_init_53 rfl (lv_at hl 0 rfl) ?_
  refine lv_bipush (v := 25) hx hb dX5_init_54 rfl ?_
  refine kn_i (N := 25) hx hb hts hK hP hD hS hA (by decide) rfl (Nat.le_of_ble_eq_true rfl) (Nat.le_of_ble_eq_true rfl) (Nat.le_of_ble_eq_true rfl) dX5_init_56 (fun q7 H hP hD hS => ?_)
  refine W.widen (k := 7) (n := 1108) (Nat.le_of_ble_eq_true rfl) (Nat.le_of_ble_eq_true rfl) ?_
  have hP : va_P g.D xcl [(h0, .inr (5, [.null, .null, .null, .ref q1, .int 0, .ref q2, .ref q3, .ref q4, .ref q5, .ref q6, .null, .int 0, .null, .null])), (q1, .inl (g.cA 0, 24, .inl (fun _ => 0))), (q2, .inl (g.cA 0, 24, .inl (fun _ => 0))), (q3, .inl (g.cA 1, 25, .inr (.inl (fun _ => 0)))), (q4, .inl (g.cA 0, 960, .inl (fun _ => 0))), (q5, .inl (g.cA 0, 25, .inl (fun _ => 0))), (q6, .inl (g.cA 0, 25, .inl (fun _ => 0))), (q7, .inl (g.cA 0, 25, .inl (fun _ => 0)))] H := hP
  have hD : va_D A [(h0, .inr (5, [.null, .null, .null, .ref q1, .int 0, .ref q2, .ref q3, .ref q4, .ref q5, .ref q6, .null, .int 0, .null, .null])), (q1, .inl (g.cA 0, 24, .inl (fun _ => 0))), (q2, .inl (g.cA 0, 24, .inl (fun _ => 0))), (q3, .inl (g.cA 1, 25, .inr (.inl (fun _ => 0)))), (q4, .inl (g.cA 0, 960, .inl (fun _ => 0))), (q5, .inl (g.cA 0, 25, .inl (fun _ => 0))), (q6, .inl (g.cA 0, 25, .inl (fun _ => 0))), (q7, .inl (g.cA 0, 25, .inl (fun _ => 0)))] := hD
  refine kp_f (ci := 5) (k := 10) (q0 := 0) (ws' := [(h0, .inr (5, [.null, .null, .null, .ref q1, .int 0, .ref q2, .ref q3, .ref q4, .ref q5, .ref q6, .ref q7, .int 0, .null, .null])), (q1, .inl (g.cA 0, 24, .inl (fun _ => 0))), (q2, .inl (g.cA 0, 24, .inl (fun _ => 0))), (q3, .inl (g.cA 1, 25, .inr (.inl (fun _ => 0)))), (q4, .inl (g.cA 0, 960, .inl (fun _ => 0))), (q5, .inl (g.cA 0, 25, .inl (fun _ => 0))), (q6, .inl (g.cA 0, 25, .inl (fun _ => 0))), (q7, .inl (g.cA 0, 25, .inl (fun _ => 0)))]) hx hb hts hown hin hK hP hD hS rfl igX5 tyX5_ok nmX5 fl_5_33 (Nat.le_of_ble_eq_true rfl) rfl rfl rfl rfl (Nat.le_of_ble_eq_true rfl) rfl rfl dX5_init_58 (fun H locs hP hD hS => ?_)
  refine lv_aload_n hx hb dX5_init_61 rfl (lv_at hl 0 rfl) ?_
  refine lv_bipush (v := 24) hx hb dX5_init_62 rfl ?_
  refine kn_i (N := 24) hx hb hts hK hP hD hS hA (by decide) rfl (Nat.le_of_ble_eq_true rfl) (Nat.le_of_ble_eq_true rfl) (Nat.le_of_ble_eq_true rfl) dX5_init_64 (fun q8 H hP hD hS => ?_)
  refine W.widen (k := 8) (n := 1132) (Nat.le_of_ble_eq_true rfl) (Nat.le_of_ble_eq_true rfl) ?_
  have hP : va_P g.D xcl [(h0, .inr (5, [.null, .null, .null, .ref q1, .int 0, .ref q2, .ref q3, .ref q4, .ref q5, .ref q6, .ref q7, .int 0, .null, .null])), (q1, .inl (g.cA 0, 24, .inl (fun _ => 0))), (q2, .inl (g.cA 0, 24, .inl (fun _ => 0))), (q3, .inl (g.cA 1, 25, .inr (.inl (fun _ => 0)))), (q4, .inl (g.cA 0, 960, .inl (fun _ => 0))), (q5, .inl (g.cA 0, 25, .inl (fun _ => 0))), (q6, .inl (g.cA 0, 25, .inl (fun _ => 0))), (q7, .inl (g.cA 0, 25, .inl (fun _ => 0))), (q8, .inl (g.cA 0, 24, .inl (fun _ => 0)))] H := hP
  have hD : va_D A [(h0, .inr (5, [.null, .null, .null, .ref q1, .int 0, .ref q2, .ref q3, .ref q4, .ref q5, .ref q6, .ref q7, .int 0, .null, .null])), (q1, .inl (g.cA 0, 24, .inl (fun _ => 0))), (q2, .inl (g.cA 0, 24, .inl (fun _ => 0))), (q3, .inl (g.cA 1, 25, .inr (.inl (fun _ => 0)))), (q4, .inl (g.cA 0, 960, .inl (fun _ => 0))), (q5, .inl (g.cA 0, 25, .inl (fun _ => 0))), (q6, .inl (g.cA 0, 25, .inl (fun _ => 0))), (q7, .inl (g.cA 0, 25, .inl (fun _ => 0))), (q8, .inl (g.cA 0, 24, .inl (fun _ => 0)))] := hD
  refine kp_f (ci := 5) (k := 12) (q0 := 0) (ws' := [(h0, .inr (5, [.null, .null, .null, .ref q1, .int 0, .ref q2, .ref q3, .ref q4, .ref q5, .ref q6, .ref q7, .int 0, .ref q8, .null])), (q1, .inl (g.cA 0, 24, .inl (fun _ => 0))), (q2, .inl (g.cA 0, 24, .inl (fun _ => 0))), (q3, .inl (g.cA 1, 25, .inr (.inl (fun _ => 0)))), (q4, .inl (g.cA 0, 960, .inl (fun _ => 0))), (q5, .inl (g.cA 0, 25, .inl (fun _ => 0))), (q6, .inl (g.cA 0, 25, .inl (fun _ => 0))), (q7, .inl (g.cA 0, 25, .inl (fun _ => 0))), (q8, .inl (g.cA 0, 24, .inl (fun _ => 0)))]) hx hb hts hown hin hK hP hD hS rfl igX5 tyX5_ok nmX5 fl_5_36 (Nat.le_of_ble_eq_true rfl) rfl rfl rfl rfl (Nat.le_of_ble_eq_true rfl) rfl rfl dX5_init_66 (fun H locs hP hD hS => ?_)
  refine lv_aload_n hx hb dX5_init_69 rfl (lv_at hl 0 rfl) ?_
  refine lv_bipush (v := 24) hx hb dX5_init_70 rfl ?_
  refine kn_i (N := 24) hx hb hts hK hP hD hS hA (by decide) rfl (Nat.le_of_ble_eq_true rfl) (Nat.le_of_ble_eq_true rfl) (Nat.le_of_ble_eq_true rfl) dX5_init_72 (fun q9 H hP hD hS => ?_)
  refine W.widen (k := 9) (n := 1156) (Nat.le_of_ble_eq_true rfl) (Nat.le_of_ble_eq_true rfl) ?_
  have hP : va_P g.D xcl [(h0, .inr (5, [.null, .null, .null, .ref q1, .int 0, .ref q2, .ref q3, .ref q4, .ref q5, .ref q6, .ref q7, .int 0, .ref q8, .null])), (q1, .inl (g.cA 0, 24, .inl (fun _ => 0))), (q2, .inl (g.cA 0, 24, .inl (fun _ => 0))), (q3, .inl (g.cA 1, 25, .inr (.inl (fun _ => 0)))), (q4, .inl (g.cA 0, 960, .inl (fun _ => 0))), (q5, .inl (g.cA 0, 25, .inl (fun _ => 0))), (q6, .inl (g.cA 0, 25, .inl (fun _ => 0))), (q7, .inl (g.cA 0, 25, .inl (fun _ => 0))), (q8, .inl (g.cA 0, 24, .inl (fun _ => 0))), (q9, .inl (g.cA 0, 24, .inl (fun _ => 0)))] H := hP
  have hD : va_D A [(h0, .inr (5, [.null, .null, .null, .ref q1, .int 0, .ref q2, .ref q3, .ref q4, .ref q5, .ref q6, .ref q7, .int 0, .ref q8, .null])), (q1, .inl (g.cA 0, 24, .inl (fun _ => 0))), (q2, .inl (g.cA 0, 24, .inl (fun _ => 0))), (q3, .inl (g.cA 1, 25, .inr (.inl (fun _ => 0)))), (q4, .inl (g.cA 0, 960, .inl (fun _ => 0))), (q5, .inl (g.cA 0, 25, .inl (fun _ => 0))), (q6, .inl (g.cA 0, 25, .inl (fun _ => 0))), (q7, .inl (g.cA 0, 25, .inl (fun _ => 0))), (q8, .inl (g.cA 0, 24, .inl (fun _ => 0))), (q9, .inl (g.cA 0, 24, .inl (fun _ => 0)))] := hD
  refine kp_f (ci := 5) (k := 13) (q0 := 0) (ws' := [(h0, .inr (5, [.null, .null, .null, .ref q1, .int 0, .ref q2, .ref q3, .ref q4, .ref q5, .ref q6, .ref q7, .int 0, .ref q8, .ref q9])), (q1, .inl (g.cA 0, 24, .inl (fun _ => 0))), (q2, .inl (g.cA 0, 24, .inl (fun _ => 0))), (q3, .inl (g.cA 1, 25, .inr (.inl (fun _ => 0)))), (q4, .inl (g.cA 0, 960, .inl (fun _ => 0))), (q5, .inl (g.cA 0, 25, .inl (fun _ => 0))), (q6, .inl (g.cA 0, 25, .inl (fun _ => 0))), (q7, .inl (g.cA 0, 25, .inl (fun _ => 0))), (q8, .inl (g.cA 0, 24, .inl (fun _ => 0))), (q9, .inl (g.cA 0, 24, .inl (fun _ => 0)))]) hx hb hts hown hin hK hP hD hS rfl igX5 tyX5_ok nmX5 fl_5_39 (Nat.le_of_ble_eq_true rfl) rfl rfl rfl rfl (Nat.le_of_ble_eq_true rfl) rfl rfl dX5_init_74 (fun H locs hP hD hS => ?_)
  refine lv_aload_n hx hb dX5_init_77 rfl (lv_at hl 0 rfl) ?_
  refine lv_aload_n hx hb dX5_init_78 rfl (lv_at hl 1 rfl) ?_
  refine kp_f (ci := 5) (k := 0) (q0 := 0) (ws' := [(h0, .inr (5, [.ref a0, .null, .null, .ref q1, .int 0, .ref q2, .ref q3, .ref q4, .ref q5, .ref q6, .ref q7, .int 0, .ref q8, .ref q9])), (q1, .inl (g.cA 0, 24, .inl (fun _ => 0))), (q2, .inl (g.cA 0, 24, .inl (fun _ => 0))), (q3, .inl (g.cA 1, 25, .inr (.inl (fun _ => 0)))), (q4, .inl (g.cA 0, 960, .inl (fun _ => 0))), (q5, .inl (g.cA 0, 25, .inl (fun _ => 0))), (q6, .inl (g.cA 0, 25, .inl (fun _ => 0))), (q7, .inl (g.cA 0, 25, .inl (fun _ => 0))), (q8, .inl (g.cA 0, 24, .inl (fun _ => 0))), (q9, .inl (g.cA 0, 24, .inl (fun _ => 0)))]) hx hb hts hown hin hK hP hD hS rfl igX5 tyX5_ok nmX5 fl_5_42 (Nat.le_of_ble_eq_true rfl) rfl rfl rfl rfl (Nat.le_of_ble_eq_true rfl) rfl rfl dX5_init_79 (fun H locs hP hD hS => ?_)
  refine lv_aload_n hx hb dX5_init_82 rfl (lv_at hl 0 rfl) ?_
  refine lv_aload_n hx hb dX5_init_83 rfl (lv_at hl 2 rfl) ?_
  refine kp_f (ci := 5) (k := 1) (q0 := 0) (ws' := [(h0, .inr (5, [.ref a0, .ref a1, .null, .ref q1, .int 0, .ref q2, .ref q3, .ref q4, .ref q5, .ref q6, .ref q7, .int 0, .ref q8, .ref q9])), (q1, .inl (g.cA 0, 24, .inl (fun _ => 0))), (q2, .inl (g.cA 0, 24, .inl (fun _ => 0))), (q3, .inl (g.cA 1, 25, .inr (.inl (fun _ => 0)))), (q4, .inl (g.cA 0, 960, .inl (fun _ => 0))), (q5, .inl (g.cA 0, 25, .inl (fun _ => 0))), (q6, .inl (g.cA 0, 25, .inl (fun _ => 0))), (q7, .inl (g.cA 0, 25, .inl (fun _ => 0))), (q8, .inl (g.cA 0, 24, .inl (fun _ => 0))), (q9, .inl (g.cA 0, 24, .inl (fun _ => 0)))]) hx hb hts hown hin hK hP hD hS rfl igX5 tyX5_ok nmX5 fl_5_46 (Nat.le_of_ble_eq_true rfl) rfl rfl rfl rfl (Nat.le_of_ble_eq_true rfl) rfl rfl dX5_init_84 (fun H locs hP hD hS => ?_)
  refine lv_aload_n hx hb dX5_init_87 rfl (lv_at hl 0 rfl) ?_
  refine lv_aload_n hx hb dX5_init_88 rfl (lv_at hl 3 rfl) ?_
  refine kp_f (ci := 5) (k := 2) (q0 := 0) (ws' := [(h0, .inr (5, [.ref a0, .ref a1, .ref a2, .ref q1, .int 0, .ref q2, .ref q3, .ref q4, .ref q5, .ref q6, .ref q7, .int 0, .ref q8, .ref q9])), (q1, .inl (g.cA 0, 24, .inl (fun _ => 0))), (q2, .inl (g.cA 0, 24, .inl (fun _ => 0))), (q3, .inl (g.cA 1, 25, .inr (.inl (fun _ => 0)))), (q4, .inl (g.cA 0, 960, .inl (fun _ => 0))), (q5, .inl (g.cA 0, 25, .inl (fun _ => 0))), (q6, .inl (g.cA 0, 25, .inl (fun _ => 0))), (q7, .inl (g.cA 0, 25, .inl (fun _ => 0))), (q8, .inl (g.cA 0, 24, .inl (fun _ => 0))), (q9, .inl (g.cA 0, 24, .inl (fun _ => 0)))]) hx hb hts hown hin hK hP hD hS rfl igX5 tyX5_ok nmX5 fl_5_50 (Nat.le_of_ble_eq_true rfl) rfl rfl rfl rfl (Nat.le_of_ble_eq_true rfl) rfl rfl dX5_init_89 (fun H locs hP hD hS => ?_)
  exact W.vret hx hb hr (fun t ht hW => ⟨⟨(), rfl, trivial, q1, q2, q3, q4, q5, q6, q7, q8, q9, by rw [ht]; exact hP, hD⟩, hS.F ht⟩) hS.2.2 dX5_init_92
theorem dX4_init_0 : decode cX4_init 0 = .ok (.aload_n 0, 1) := by decide +kernel
theorem dX4_init_1 : decode cX4_init 1 = .ok (.invokespecial 7, 3) := by decide +kernel
theorem dX4_init_4 : decode cX4_init 4 = .ok (.aload_n 0, 1) := by decide +kernel
theorem dX4_init_5 : decode cX4_init 5 = .ok (.bipush 12, 2) := by decide +kernel
theorem dX4_init_7 : decode cX4_init 7 = .ok (.newarray .int, 2) := by decide +kernel
theorem dX4_init_9 : decode cX4_init 9 = .ok (.putfield 13, 3) := by decide +kernel
theorem dX4_init_12 : decode cX4_init 12 = .ok (.aload_n 0, 1) := by decide +kernel
theorem dX4_init_13 : decode cX4_init 13 = .ok (.sipush 1885, 3) := by decide +kernel
theorem dX4_init_16 : decode cX4_init 16 = .ok (.newarray .int, 2) := by decide +kernel
theorem dX4_init_18 : decode cX4_init 18 = .ok (.putfield 17, 3) := by decide +kernel
theorem dX4_init_21 : decode cX4_init 21 = .ok (.aload_n 0, 1) := by decide +kernel
theorem dX4_init_22 : decode cX4_init 22 = .ok (.bipush 12, 2) := by decide +kernel
theorem dX4_init_24 : decode cX4_init 24 = .ok (.newarray .int, 2) := by decide +kernel
theorem dX4_init_26 : decode cX4_init 26 = .ok (.putfield 20, 3) := by decide +kernel
theorem dX4_init_29 : decode cX4_init 29 = .ok (.aload_n 0, 1) := by decide +kernel
theorem dX4_init_30 : decode cX4_init 30 = .ok (.bipush 12, 2) := by decide +kernel
theorem dX4_init_32 : decode cX4_init 32 = .ok (.newarray .int, 2) := by decide +kernel
theorem dX4_init_34 : decode cX4_init 34 = .ok (.putfield 23, 3) := by decide +kernel
theorem dX4_init_37 : decode cX4_init 37 = .ok (.aload_n 0, 1) := by decide +kernel
theorem dX4_init_38 : decode cX4_init 38 = .ok (.bipush 12, 2) := by decide +kernel
theorem dX4_init_40 : decode cX4_init 40 = .ok (.newarray .long, 2) := by decide +kernel
theorem dX4_init_42 : decode cX4_init 42 = .ok (.putfield 26, 3) := by decide +kernel
theorem dX4_init_45 : decode cX4_init 45 = .ok (.aload_n 0, 1) := by decide +kernel
theorem dX4_init_46 : decode cX4_init 46 = .ok (.aload_n 1, 1) := by decide +kernel
theorem dX4_init_47 : decode cX4_init 47 = .ok (.putfield 30, 3) := by decide +kernel
theorem dX4_init_50 : decode cX4_init 50 = .ok (.return_, 1) := by decide +kernel
set_option maxHeartbeats 4000000 in
set_option maxRecDepth 100000 in
theorem k_X4_init {l : Launch} {g : XG} (h0 sz a0 : Nat) : Met l yX4_init (.code yX4_init cX4_init 2 none :: lw_g) { frames := 1, cells := 5, slots := 1933, locals := 60 } (va_Pc [.ref h0, .ref a0] (fun U => U.heap.size = sz ∧ va_P g.D xcl [(h0, .inr (4, [.null, .null, .int 0, .null, .int 0, .int 0, .null, .null, .null]))] U.heap ∧ va_K g.D xcl (xty g.cA) U ∧ va_D (fun _ => True) [(h0, .inr (4, [.null, .null, .int 0, .null, .int 0, .int 0, .null, .null, .null]))] ∧ xcs (va_A [(h0, .inr (4, [.null, .null, .int 0, .null, .int 0, .int 0, .null, .null, .null]))] sz) g U U.heap)) (va_Qv (fun _ : Unit => True) (fun _ t => ∃ (q1 q2 q3 q4 q5 : Nat), va_P g.D xcl [(h0, .inr (4, [.ref a0, .ref q1, .int 0, .ref q2, .int 0, .int 0, .ref q3, .ref q4, .ref q5])), (q1, .inl (g.cA 0, 12, .inl (fun _ => 0))), (q2, .inl (g.cA 0, 1885, .inl (fun _ => 0))), (q3, .inl (g.cA 0, 12, .inl (fun _ => 0))), (q4, .inl (g.cA 0, 12, .inl (fun _ => 0))), (q5, .inl (g.cA 1, 12, .inr (.inl (fun _ => 0))))] t.heap ∧ va_D (va_A [(h0, .inr (4, [.null, .null, .int 0, .null, .int 0, .int 0, .null, .null, .null]))] sz) [(h0, .inr (4, [.ref a0, .ref q1, .int 0, .ref q2, .int 0, .int 0, .ref q3, .ref q4, .ref q5])), (q1, .inl (g.cA 0, 12, .inl (fun _ => 0))), (q2, .inl (g.cA 0, 1885, .inl (fun _ => 0))), (q3, .inl (g.cA 0, 12, .inl (fun _ => 0))), (q4, .inl (g.cA 0, 12, .inl (fun _ => 0))), (q5, .inl (g.cA 1, 12, .inr (.inl (fun _ => 0))))]) (va_A [(h0, .inr (4, [.null, .null, .int 0, .null, .int 0, .int 0, .null, .null, .null]))] sz)) 5 1933 (va_A [(h0, .inr (4, [.null, .null, .int 0, .null, .int 0, .int 0, .null, .null, .null]))] sz) := by
  refine Met.ofW (cc := cX4_init) (maxL := 2) (ret := none) pn_X4 rfl ?_
  intro p e s m args below meth c s₁ B hml hv
  obtain ⟨rfl, hsz, hP, hK, hD0, hcs⟩ := hv
  have hx := B.exec
  have hb := B.bytes
  have hr := B.returns
  have hts1 := atoms_spec (ws := .code yX4_init cX4_init 2 none :: lw_g) B.pre
  have hts : ∀ w ∈ lw_g, w.before _ s = true := fun w hw => hts1 w (List.mem_cons_of_mem _ hw)
  have hown : s.vm.findClass RX4 = some m.cls := findClass_of_methodNamed B.named
  have hlocks := B.notSynchronized
  have hin : meth.name = "<init>" := (name_of_methodNamed B.named B.method).1
  subst hsz
  have hD := hD0.self (sz := s.heap.size)
  generalize hAe : va_A [(h0, .inr (4, [.null, .null, .int 0, .null, .int 0, .int 0, .null, .null, .null]))] s.heap.size = A at hD hcs ⊢
  have hA : ∀ q : Nat, s.heap.size ≤ q → A q := fun q h => by rw [← hAe]; exact Or.inr h
  have hS : va_S A s.heap s.heap [] := va_S.rf
  have hP : va_P g.D xcl [(h0, .inr (4, [.null, .null, .int 0, .null, .int 0, .int 0, .null, .null, .null]))] s.heap := hP
  have hl := lv_entry ([.ref h0, .ref a0]) (n := 2) (Nat.le_of_ble_eq_true rfl)
  rw [lg_entry_eq]
  generalize (lg_sl ([.ref h0, .ref a0]) ++ List.replicate (2 - (lg_sl ([.ref h0, .ref a0])).length) Slot.unset).toArray = ls at hl ⊢
  have hl : lv_has ls 2 [(0, .ref h0), (1, .ref a0)] := hl
  refine lv_aload_n hx hb dX4_init_0 rfl (lv_at hl 0 rfl) ?_
  refine W.objInit hx hb hown (hts _ ml_X4_7) (hts _ xoi_i) (hts _ xoi_c) rfl (by rw [hml]; exact hl.1) rfl dX4_init_1 (Nat.le_of_ble_eq_true rfl) (Nat.le_of_ble_eq_true rfl) ?_
  refine W.eq (g2 := F0 m 4 ls []) rfl ?_
  refine lv_aload_n hx hb dX4_init_4 rfl (lv_at hl 0 rfl) ?_
  refine lv_bipush (v := 12) hx hb dX4_init_5 rfl ?_
  refine kn_i (N := 12) hx hb hts hK hP hD hS hA (by decide) rfl (Nat.le_of_ble_eq_true rfl) (Nat.le_of_ble_eq_true rfl) (Nat.le_of_ble_eq_true rfl) dX4_init_7 (fun q1 H hP hD hS => ?_)
  refine W.widen (k := 1) (n := 12) (Nat.le_of_ble_eq_true rfl) (Nat.le_of_ble_eq_true rfl) ?_
  have hP : va_P g.D xcl [(h0, .inr (4, [.null, .null, .int 0, .null, .int 0, .int 0, .null, .null, .null])), (q1, .inl (g.cA 0, 12, .inl (fun _ => 0)))] H := hP
  have hD : va_D A [(h0, .inr (4, [.null, .null, .int 0, .null, .int 0, .int 0, .null, .null, .null])), (q1, .inl (g.cA 0, 12, .inl (fun _ => 0)))] := hD
  refine kp_f (ci := 4) (k := 1) (q0 := 0) (ws' := [(h0, .inr (4, [.null, .ref q1, .int 0, .null, .int 0, .int 0, .null, .null, .null])), (q1, .inl (g.cA 0, 12, .inl (fun _ => 0)))]) hx hb hts hown hin hK hP hD hS rfl igX4 tyX4_ok nmX4 fl_4_13 (Nat.le_of_ble_eq_true rfl) rfl rfl rfl rfl (Nat.le_of_ble_eq_true rfl) rfl rfl dX4_init_9 (fun H locs hP hD hS => ?_)
  refine lv_aload_n hx hb dX4_init_12 rfl (lv_at hl 0 rfl) ?_
  refine lv_sipush (v := 1885) hx hb dX4_init_13 rfl ?_
  refine kn_i (N := 1885) hx hb hts hK hP hD hS hA (by decide) rfl (Nat.le_of_ble_eq_true rfl) (Nat.le_of_ble_eq_true rfl) (Nat.le_of_ble_eq_true rfl) dX4_init_16 (fun q2 H hP hD hS => ?_)
  refine W.widen (k := 2) (n := 1897) (Nat.le_of_ble_eq_true rfl) (Nat.le_of_ble_eq_true rfl) ?_
  have hP : va_P g.D xcl [(h0, .inr (4, [.null, .ref q1, .int 0, .null, .int 0, .int 0, .null, .null, .null])), (q1, .inl (g.cA 0, 12, .inl (fun _ => 0))), (q2, .inl (g.cA 0, 1885, .inl (fun _ => 0)))] H := hP
  have hD : va_D A [(h0, .inr (4, [.null, .ref q1, .int 0, .null, .int 0, .int 0, .null, .null, .null])), (q1, .inl (g.cA 0, 12, .inl (fun _ => 0))), (q2, .inl (g.cA 0, 1885, .inl (fun _ => 0)))] := hD
  refine kp_f (ci := 4) (k := 3) (q0 := 0) (ws' := [(h0, .inr (4, [.null, .ref q1, .int 0, .ref q2, .int 0, .int 0, .null, .null, .null])), (q1, .inl (g.cA 0, 12, .inl (fun _ => 0))), (q2, .inl (g.cA 0, 1885, .inl (fun _ => 0)))]) hx hb hts hown hin hK hP hD hS rfl igX4 tyX4_ok nmX4 fl_4_17 (Nat.le_of_ble_eq_true rfl) rfl rfl rfl rfl (Nat.le_of_ble_eq_true rfl) rfl rfl dX4_init_18 (fun H locs hP hD hS => ?_)
  refine lv_aload_n hx hb dX4_init_21 rfl (lv_at hl 0 rfl) ?_
  refine lv_bipush (v := 12) hx hb dX4_init_22 rfl ?_
  refine kn_i (N := 12) hx hb hts hK hP hD hS hA (by decide) rfl (Nat.le_of_ble_eq_true rfl) (Nat.le_of_ble_eq_true rfl) (Nat.le_of_ble_eq_true rfl) dX4_init_24 (fun q3 H hP hD hS => ?_)
  refine W.widen (k := 3) (n := 1909) (Nat.le_of_ble_eq_true rfl) (Nat.le_of_ble_eq_true rfl) ?_
  have hP : va_P g.D xcl [(h0, .inr (4, [.null, .ref q1, .int 0, .ref q2, .int 0, .int 0, .null, .null, .null])), (q1, .inl (g.cA 0, 12, .inl (fun _ => 0))), (q2, .inl (g.cA 0, 1885, .inl (fun _ => 0))), (q3, .inl (g.cA 0, 12, .inl (fun _ => 0)))] H := hP
  have hD : va_D A [(h0, .inr (4, [.null, .ref q1, .int 0, .ref q2, .int 0, .int 0, .null, .null, .null])), (q1, .inl (g.cA 0, 12, .inl (fun _ => 0))), (q2, .inl (g.cA 0, 1885, .inl (fun _ => 0))), (q3, .inl (g.cA 0, 12, .inl (fun _ => 0)))] := hD
  refine kp_f (ci := 4) (k := 6) (q0 := 0) (ws' := [(h0, .inr (4, [.null, .ref q1, .int 0, .ref q2, .int 0, .int 0, .ref q3, .null, .null])), (q1, .inl (g.cA 0, 12, .inl (fun _ => 0))), (q2, .inl (g.cA 0, 1885, .inl (fun _ => 0))), (q3, .inl (g.cA 0, 12, .inl (fun _ => 0)))]) hx hb hts hown hin hK hP hD hS rfl igX4 tyX4_ok nmX4 fl_4_20 (Nat.le_of_ble_eq_true rfl) rfl rfl rfl rfl (Nat.le_of_ble_eq_true rfl) rfl rfl dX4_init_26 (fun H locs hP hD hS => ?_)
  refine lv_aload_n hx hb dX4_init_29 rfl (lv_at hl 0 rfl) ?_
  refine lv_bipush (v := 12) hx hb dX4_init_30 rfl ?_
  refine kn_i (N := 12) hx hb hts hK hP hD hS hA (by decide) rfl (Nat.le_of_ble_eq_true rfl) (Nat.le_of_ble_eq_true rfl) (Nat.le_of_ble_eq_true rfl) dX4_init_32 (fun q4 H hP hD hS => ?_)
  refine W.widen (k := 4) (n := 1921) (Nat.le_of_ble_eq_true rfl) (Nat.le_of_ble_eq_true rfl) ?_
  have hP : va_P g.D xcl [(h0, .inr (4, [.null, .ref q1, .int 0, .ref q2, .int 0, .int 0, .ref q3, .null, .null])), (q1, .inl (g.cA 0, 12, .inl (fun _ => 0))), (q2, .inl (g.cA 0, 1885, .inl (fun _ => 0))), (q3, .inl (g.cA 0, 12, .inl (fun _ => 0))), (q4, .inl (g.cA 0, 12, .inl (fun _ => 0)))] H := hP
  have hD : va_D A [(h0, .inr (4, [.null, .ref q1, .int 0, .ref q2, .int 0, .int 0, .ref q3, .null, .null])), (q1, .inl (g.cA 0, 12, .inl (fun _ => 0))), (q2, .inl (g.cA 0, 1885, .inl (fun _ => 0))), (q3, .inl (g.cA 0, 12, .inl (fun _ => 0))), (q4, .inl (g.cA 0, 12, .inl (fun _ => 0)))] := hD
  refine kp_f (ci := 4) (k := 7) (q0 := 0) (ws' := [(h0, .inr (4, [.null, .ref q1, .int 0, .ref q2, .int 0, .int 0, .ref q3, .ref q4, .null])), (q1, .inl (g.cA 0, 12, .inl (fun _ => 0))), (q2, .inl (g.cA 0, 1885, .inl (fun _ => 0))), (q3, .inl (g.cA 0, 12, .inl (fun _ => 0))), (q4, .inl (g.cA 0, 12, .inl (fun _ => 0)))]) hx hb hts hown hin hK hP hD hS rfl igX4 tyX4_ok nmX4 fl_4_23 (Nat.le_of_ble_eq_true rfl) rfl rfl rfl rfl (Nat.le_of_ble_eq_true rfl) rfl rfl dX4_init_34 (fun H locs hP hD hS => ?_)
  refine lv_aload_n hx hb dX4_init_37 rfl (lv_at hl 0 rfl) ?_
  refine lv_bipush (v := 12) hx hb dX4_init_38 rfl ?_
  refine kn_l (N := 12) hx hb hts hK hP hD hS hA (by decide) rfl (Nat.le_of_ble_eq_true rfl) (Nat.le_of_ble_eq_true rfl) (Nat.le_of_ble_eq_true rfl) dX4_init_40 (fun q5 H hP hD hS => ?_)
  refine W.widen (k := 5) (n := 1933) (Nat.le_of_ble_eq_true rfl) (Nat.le_of_ble_eq_true rfl) ?_
  have hP : va_P g.D xcl [(h0, .inr (4, [.null, .ref q1, .int 0, .ref q2, .int 0, .int 0, .ref q3, .ref q4, .null])), (q1, .inl (g.cA 0, 12, .inl (fun _ => 0))), (q2, .inl (g.cA 0, 1885, .inl (fun _ => 0))), (q3, .inl (g.cA 0, 12, .inl (fun _ => 0))), (q4, .inl (g.cA 0, 12, .inl (fun _ => 0))), (q5, .inl (g.cA 1, 12, .inr (.inl (fun _ => 0))))] H := hP
  have hD : va_D A [(h0, .inr (4, [.null, .ref q1, .int 0, .ref q2, .int 0, .int 0, .ref q3, .ref q4, .null])), (q1, .inl (g.cA 0, 12, .inl (fun _ => 0))), (q2, .inl (g.cA 0, 1885, .inl (fun _ => 0))), (q3, .inl (g.cA 0, 12, .inl (fun _ => 0))), (q4, .inl (g.cA 0, 12, .inl (fun _ => 0))), (q5, .inl (g.cA 1, 12, .inr (.inl (fun _ => 0))))] := hD
  refine kp_f (ci := 4) (k := 8) (q0 := 0) (ws' := [(h0, .inr (4, [.null, .ref q1, .int 0, .ref q2, .int 0, .int 0, .ref q3, .ref q4, .ref q5])), (q1, .inl (g.cA 0, 12, .inl (fun _ => 0))), (q2, .inl (g.cA 0, 1885, .inl (fun _ => 0))), (q3, .inl (g.cA 0, 12, .inl (fun _ => 0))), (q4, .inl (g.cA 0, 12, .inl (fun _ => 0))), (q5, .inl (g.cA 1, 12, .inr (.inl (fun _ => 0))))]) hx hb hts hown hin hK hP hD hS rfl igX4 tyX4_ok nmX4 fl_4_26 (Nat.le_of_ble_eq_true rfl) rfl rfl rfl rfl (Nat.le_of_ble_eq_true rfl) rfl rfl dX4_init_42 (fun H locs hP hD hS => ?_)
  refine lv_aload_n hx hb dX4_init_45 rfl (lv_at hl 0 rfl) ?_
  refine lv_aload_n hx hb dX4_init_46 rfl (lv_at hl 1 rfl) ?_
  refine kp_f (ci := 4) (k := 0) (q0 := 0) (ws' := [(h0, .inr (4, [.ref a0, .ref q1, .int 0, .ref q2, .int 0, .int 0, .ref q3, .ref q4, .ref q5])), (q1, .inl (g.cA 0, 12, .inl (fun _ => 0))), (q2, .inl (g.cA 0, 1885, .inl (fun _ => 0))), (q3, .inl (g.cA 0, 12, .inl (fun _ => 0))), (q4, .inl (g.cA 0, 12, .inl (fun _ => 0))), (q5, .inl (g.cA 1, 12, .inr (.inl (fun _ => 0))))]) hx hb hts hown hin hK hP hD hS rfl igX4 tyX4_ok nmX4 fl_4_30 (Nat.le_of_ble_eq_true rfl) rfl rfl rfl rfl (Nat.le_of_ble_eq_true rfl) rfl rfl dX4_init_47 (fun H locs hP hD hS => ?_)
  exact W.vret hx hb hr (fun t ht hW => ⟨⟨(), rfl, trivial, q1, q2, q3, q4, q5, by rw [ht]; exact hP, hD⟩, hS.F ht⟩) hS.2.2 dX4_init_50
theorem dX10_init_0 : decode cX10_init 0 = .ok (.aload_n 0, 1) := by decide +kernel
theorem dX10_init_1 : decode cX10_init 1 = .ok (.invokespecial 3, 3) := by decide +kernel
theorem dX10_init_4 : decode cX10_init 4 = .ok (.aload_n 0, 1) := by decide +kernel
theorem dX10_init_5 : decode cX10_init 5 = .ok (.bipush 60, 2) := by decide +kernel
theorem dX10_init_7 : decode cX10_init 7 = .ok (.newarray .int, 2) := by decide +kernel
theorem dX10_init_9 : decode cX10_init 9 = .ok (.putfield 11, 3) := by decide +kernel
theorem dX10_init_12 : decode cX10_init 12 = .ok (.aload_n 0, 1) := by decide +kernel
theorem dX10_init_13 : decode cX10_init 13 = .ok (.bipush 60, 2) := by decide +kernel
theorem dX10_init_15 : decode cX10_init 15 = .ok (.newarray .int, 2) := by decide +kernel
theorem dX10_init_17 : decode cX10_init 17 = .ok (.putfield 15, 3) := by decide +kernel
theorem dX10_init_20 : decode cX10_init 20 = .ok (.aload_n 0, 1) := by decide +kernel
theorem dX10_init_21 : decode cX10_init 21 = .ok (.bipush 60, 2) := by decide +kernel
theorem dX10_init_23 : decode cX10_init 23 = .ok (.newarray .int, 2) := by decide +kernel
theorem dX10_init_25 : decode cX10_init 25 = .ok (.putfield 18, 3) := by decide +kernel
theorem dX10_init_28 : decode cX10_init 28 = .ok (.aload_n 0, 1) := by decide +kernel
theorem dX10_init_29 : decode cX10_init 29 = .ok (.bipush 60, 2) := by decide +kernel
theorem dX10_init_31 : decode cX10_init 31 = .ok (.newarray .int, 2) := by decide +kernel
theorem dX10_init_33 : decode cX10_init 33 = .ok (.putfield 21, 3) := by decide +kernel
theorem dX10_init_36 : decode cX10_init 36 = .ok (.aload_n 0, 1) := by decide +kernel
theorem dX10_init_37 : decode cX10_init 37 = .ok (.bipush 60, 2) := by decide +kernel
theorem dX10_init_39 : decode cX10_init 39 = .ok (.newarray .int, 2) := by decide +kernel
theorem dX10_init_41 : decode cX10_init 41 = .ok (.putfield 24, 3) := by decide +kernel
theorem dX10_init_44 : decode cX10_init 44 = .ok (.return_, 1) := by decide +kernel
set_option maxHeartbeats 4000000 in
set_option maxRecDepth 100000 in
theorem k_X10_init {l : Launch} {g : XG} (h0 sz : Nat) : Met l yX10_init (.code yX10_init cX10_init 1 none :: lw_g) { frames := 1, cells := 5, slots := 300, locals := 60 } (va_Pc [.ref h0] (fun U => U.heap.size = sz ∧ va_P g.D xcl [(h0, .inr (10, [.int 0, .int 0, .null, .null, .null, .null, .null]))] U.heap ∧ va_K g.D xcl (xty g.cA) U ∧ va_D (fun _ => True) [(h0, .inr (10, [.int 0, .int 0, .null, .null, .null, .null, .null]))] ∧ xcs (va_A [(h0, .inr (10, [.int 0, .int 0, .null, .null, .null, .null, .null]))] sz) g U U.heap)) (va_Qv (fun _ : Unit => True) (fun _ t => ∃ (q1 q2 q3 q4 q5 : Nat), va_P g.D xcl [(h0, .inr (10, [.int 0, .int 0, .ref q1, .ref q2, .ref q3, .ref q4, .ref q5])), (q1, .inl (g.cA 0, 60, .inl (fun _ => 0))), (q2, .inl (g.cA 0, 60, .inl (fun _ => 0))), (q3, .inl (g.cA 0, 60, .inl (fun _ => 0))), (q4, .inl (g.cA 0, 60, .inl (fun _ => 0))), (q5, .inl (g.cA 0, 60, .inl (fun _ => 0)))] t.heap ∧ va_D (va_A [(h0, .inr (10, [.int 0, .int 0, .null, .null, .null, .null, .null]))] sz) [(h0, .inr (10, [.int 0, .int 0, .ref q1, .ref q2, .ref q3, .ref q4, .ref q5])), (q1, .inl (g.cA 0, 60, .inl (fun _ => 0))), (q2, .inl (g.cA 0, 60, .inl (fun _ => 0))), (q3, .inl (g.cA 0, 60, .inl (fun _ => 0))), (q4, .inl (g.cA 0, 60, .inl (fun _ => 0))), (q5, .inl (g.cA 0, 60, .inl (fun _ => 0)))]) (va_A [(h0, .inr (10, [.int 0, .int 0, .null, .null, .null, .null, .null]))] sz)) 5 300 (va_A [(h0, .inr (10, [.int 0, .int 0, .null, .null, .null, .null, .null]))] sz) := by
  refine Met.ofW (cc := cX10_init) (maxL := 1) (ret := none) pn_X10 rfl ?_
  intro p e s m args below meth c s₁ B hml hv
  obtain ⟨rfl, hsz, hP, hK, hD0, hcs⟩ := hv
  have hx := B.exec
  have hb := B.bytes
  have hr := B.returns
  have hts1 := atoms_spec (ws := .code yX10_init cX10_init 1 none :: lw_g) B.pre
  have hts : ∀ w ∈ lw_g, w.before _ s = true := fun w hw => hts1 w (List.mem_cons_of_mem _ hw)
  have hown : s.vm.findClass RX10 = some m.cls := findClass_of_methodNamed B.named
  have hlocks := B.notSynchronized
  have hin : meth.name = "<init>" := (name_of_methodNamed B.named B.method).1
  subst hsz
  have hD := hD0.self (sz := s.heap.size)
  generalize hAe : va_A [(h0, .inr (10, [.int 0, .int 0, .null, .null, .null, .null, .null]))] s.heap.size = A at hD hcs ⊢
  have hA : ∀ q : Nat, s.heap.size ≤ q → A q := fun q h => by rw [← hAe]; exact Or.inr h
  have hS : va_S A s.heap s.heap [] := va_S.rf
  have hP : va_P g.D xcl [(h0, .inr (10, [.int 0, .int 0, .null, .null, .null, .null, .null]))] s.heap := hP
  have hl := lv_entry ([.ref h0]) (n := 1) (Nat.le_of_ble_eq_true rfl)
  rw [lg_entry_eq]
  generalize (lg_sl ([.ref h0]) ++ List.replicate (1 - (lg_sl ([.ref h0])).length) Slot.unset).toArray = ls at hl ⊢
  have hl : lv_has ls 1 [(0, .ref h0)] := hl
  refine lv_aload_n hx hb dX10_init_0 rfl (lv_at hl 0 rfl) ?_
  refine W.objInit hx hb hown (hts _ ml_X10_3) (hts _ xoi_i) (hts _ xoi_c) rfl (by rw [hml]; exact hl.1) rfl dX10_init_1 (Nat.le_of_ble_eq_true rfl) (Nat.le_of_ble_eq_true rfl) ?_
  refine W.eq (g2 := F0 m 4 ls []) rfl ?_
  refine lv_aload_n hx hb dX10_init_4 rfl (lv_at hl 0 rfl) ?_
  refine lv_bipush (v := 60) hx hb dX10_init_5 rfl ?_
  refine kn_i (N := 60) hx hb hts hK hP hD hS hA (by decide) rfl (Nat.le_of_ble_eq_true rfl) (Nat.le_of_ble_eq_true rfl) (Nat.le_of_ble_eq_true rfl) dX10_init_7 (fun q1 H hP hD hS => ?_)
  refine W.widen (k := 1) (n := 60) (Nat.le_of_ble_eq_true rfl) (Nat.le_of_ble_eq_true rfl) ?_
  have hP : va_P g.D xcl [(h0, .inr (10, [.int 0, .int 0, .null, .null, .null, .null, .null])), (q1, .inl (g.cA 0, 60, .inl (fun _ => 0)))] H := hP
  have hD : va_D A [(h0, .inr (10, [.int 0, .int 0, .null, .null, .null, .null, .null])), (q1, .inl (g.cA 0, 60, .inl (fun _ => 0)))] := hD
  refine kp_f (ci := 10) (k := 2) (q0 := 0) (ws' := [(h0, .inr (10, [.int 0, .int 0, .ref q1, .null, .null, .null, .null])), (q1, .inl (g.cA 0, 60, .inl (fun _ => 0)))]) hx hb hts hown hin hK hP hD hS rfl igX10 tyX10_ok nmX10 fl_10_11 (Nat.le_of_ble_eq_true rfl) rfl rfl rfl rfl (Nat.le_of_ble_eq_true rfl) rfl rfl dX10_init_9 (fun H locs hP hD hS => ?_)
  refine lv_aload_n hx hb dX10_init_12 rfl (lv_at hl 0 rfl) ?_
  refine lv_bipush (v := 60) hx hb dX10_init_13 rfl ?_
  refine kn_i (N := 60) hx hb hts hK hP hD hS hA (by decide) rfl (Nat.le_of_ble_eq_true rfl) (Nat.le_of_ble_eq_true rfl) (Nat.le_of_ble_eq_true rfl) dX10_init_15 (fun q2 H hP hD hS => ?_)
  refine W.widen (k := 2) (n := 120) (Nat.le_of_ble_eq_true rfl) (Nat.le_of_ble_eq_true rfl) ?_
  have hP : va_P g.D xcl [(h0, .inr (10, [.int 0, .int 0, .ref q1, .null, .null, .null, .null])), (q1, .inl (g.cA 0, 60, .inl (fun _ => 0))), (q2, .inl (g.cA 0, 60, .inl (fun _ => 0)))] H := hP
  have hD : va_D A [(h0, .inr (10, [.int 0, .int 0, .ref q1, .null, .null, .null, .null])), (q1, .inl (g.cA 0, 60, .inl (fun _ => 0))), (q2, .inl (g.cA 0, 60, .inl (fun _ => 0)))] := hD
  refine kp_f (ci := 10) (k := 3) (q0 := 0) (ws' := [(h0, .inr (10, [.int 0, .int 0, .ref q1, .ref q2, .null, .null, .null])), (q1, .inl (g.cA 0, 60, .inl (fun _ => 0))), (q2, .inl (g.cA 0, 60, .inl (fun _ => 0)))]) hx hb hts hown hin hK hP hD hS rfl igX10 tyX10_ok nmX10 fl_10_15 (Nat.le_of_ble_eq_true rfl) rfl rfl rfl rfl (Nat.le_of_ble_eq_true rfl) rfl rfl dX10_init_17 (fun H locs hP hD hS => ?_)
  refine lv_aload_n hx hb dX10_init_20 rfl (lv_at hl 0 rfl) ?_
  refine lv_bipush (v := 60) hx hb dX10_init_21 rfl ?_
  refine kn_i (N := 60) hx hb hts hK hP hD hS hA (by decide) rfl (Nat.le_of_ble_eq_true rfl) (Nat.le_of_ble_eq_true rfl) (Nat.le_of_ble_eq_true rfl) dX10_init_23 (fun q3 H hP hD hS => ?_)
  refine W.widen (k := 3) (n := 180) (Nat.le_of_ble_eq_true rfl) (Nat.le_of_ble_eq_true rfl) ?_
  have hP : va_P g.D xcl [(h0, .inr (10, [.int 0, .int 0, .ref q1, .ref q2, .null, .null, .null])), (q1, .inl (g.cA 0, 60, .inl (fun _ => 0))), (q2, .inl (g.cA 0, 60, .inl (fun _ => 0))), (q3, .inl (g.cA 0, 60, .inl (fun _ => 0)))] H := hP
  have hD : va_D A [(h0, .inr (10, [.int 0, .int 0, .ref q1, .ref q2, .null, .null, .null])), (q1, .inl (g.cA 0, 60, .inl (fun _ => 0))), (q2, .inl (g.cA 0, 60, .inl (fun _ => 0))), (q3, .inl (g.cA 0, 60, .inl (fun _ => 0)))] := hD
  refine kp_f (ci := 10) (k := 4) (q0 := 0) (ws' := [(h0, .inr (10, [.int 0, .int 0, .ref q1, .ref q2, .ref q3, .null, .null])), (q1, .inl (g.cA 0, 60, .inl (fun _ => 0))), (q2, .inl (g.cA 0, 60, .inl (fun _ => 0))), (q3, .inl (g.cA 0, 60, .inl (fun _ => 0)))]) hx hb hts hown hin hK hP hD hS rfl igX10 tyX10_ok nmX10 fl_10_18 (Nat.le_of_ble_eq_true rfl) rfl rfl rfl rfl (Nat.le_of_ble_eq_true rfl) rfl rfl dX10_init_25 (fun H locs hP hD hS => ?_)
  refine lv_aload_n hx hb dX10_init_28 rfl (lv_at hl 0 rfl) ?_
  refine lv_bipush (v := 60) hx hb dX10_init_29 rfl ?_
  refine kn_i (N := 60) hx hb hts hK hP hD hS hA (by decide) rfl (Nat.le_of_ble_eq_true rfl) (Nat.le_of_ble_eq_true rfl) (Nat.le_of_ble_eq_true rfl) dX10_init_31 (fun q4 H hP hD hS => ?_)
  refine W.widen (k := 4) (n := 240) (Nat.le_of_ble_eq_true rfl) (Nat.le_of_ble_eq_true rfl) ?_
  have hP : va_P g.D xcl [(h0, .inr (10, [.int 0, .int 0, .ref q1, .ref q2, .ref q3, .null, .null])), (q1, .inl (g.cA 0, 60, .inl (fun _ => 0))), (q2, .inl (g.cA 0, 60, .inl (fun _ => 0))), (q3, .inl (g.cA 0, 60, .inl (fun _ => 0))), (q4, .inl (g.cA 0, 60, .inl (fun _ => 0)))] H := hP
  have hD : va_D A [(h0, .inr (10, [.int 0, .int 0, .ref q1, .ref q2, .ref q3, .null, .null])), (q1, .inl (g.cA 0, 60, .inl (fun _ => 0))), (q2, .inl (g.cA 0, 60, .inl (fun _ => 0))), (q3, .inl (g.cA 0, 60, .inl (fun _ => 0))), (q4, .inl (g.cA 0, 60, .inl (fun _ => 0)))] := hD
  refine kp_f (ci := 10) (k := 5) (q0 := 0) (ws' := [(h0, .inr (10, [.int 0, .int 0, .ref q1, .ref q2, .ref q3, .ref q4, .null])), (q1, .inl (g.cA 0, 60, .inl (fun _ => 0))), (q2, .inl (g.cA 0, 60, .inl (fun _ => 0))), (q3, .inl (g.cA 0, 60, .inl (fun _ => 0))), (q4, .inl (g.cA 0, 60, .inl (fun _ => 0)))]) hx hb hts hown hin hK hP hD hS rfl igX10 tyX10_ok nmX10 fl_10_21 (Nat.le_of_ble_eq_true rfl) rfl rfl rfl rfl (Nat.le_of_ble_eq_true rfl) rfl rfl dX10_init_33 (fun H locs hP hD hS => ?_)
  refine lv_aload_n hx hb dX10_init_36 rfl (lv_at hl 0 rfl) ?_
  refine lv_bipush (v := 60) hx hb dX10_init_37 rfl ?_
  refine kn_i (N := 60) hx hb hts hK hP hD hS hA (by decide) rfl (Nat.le_of_ble_eq_true rfl) (Nat.le_of_ble_eq_true rfl) (Nat.le_of_ble_eq_true rfl) dX10_init_39 (fun q5 H hP hD hS => ?_)
  refine W.widen (k := 5) (n := 300) (Nat.le_of_ble_eq_true rfl) (Nat.le_of_ble_eq_true rfl) ?_
  have hP : va_P g.D xcl [(h0, .inr (10, [.int 0, .int 0, .ref q1, .ref q2, .ref q3, .ref q4, .null])), (q1, .inl (g.cA 0, 60, .inl (fun _ => 0))), (q2, .inl (g.cA 0, 60, .inl (fun _ => 0))), (q3, .inl (g.cA 0, 60, .inl (fun _ => 0))), (q4, .inl (g.cA 0, 60, .inl (fun _ => 0))), (q5, .inl (g.cA 0, 60, .inl (fun _ => 0)))] H := hP
  have hD : va_D A [(h0, .inr (10, [.int 0, .int 0, .ref q1, .ref q2, .ref q3, .ref q4, .null])), (q1, .inl (g.cA 0, 60, .inl (fun _ => 0))), (q2, .inl (g.cA 0, 60, .inl (fun _ => 0))), (q3, .inl (g.cA 0, 60, .inl (fun _ => 0))), (q4, .inl (g.cA 0, 60, .inl (fun _ => 0))), (q5, .inl (g.cA 0, 60, .inl (fun _ => 0)))] := hD
  refine kp_f (ci := 10) (k := 6) (q0 := 0) (ws' := [(h0, .inr (10, [.int 0, .int 0, .ref q1, .ref q2, .ref q3, .ref q4, .ref q5])), (q1, .inl (g.cA 0, 60, .inl (fun _ => 0))), (q2, .inl (g.cA 0, 60, .inl (fun _ => 0))), (q3, .inl (g.cA 0, 60, .inl (fun _ => 0))), (q4, .inl (g.cA 0, 60, .inl (fun _ => 0))), (q5, .inl (g.cA 0, 60, .inl (fun _ => 0)))]) hx hb hts hown hin hK hP hD hS rfl igX10 tyX10_ok nmX10 fl_10_24 (Nat.le_of_ble_eq_true rfl) rfl rfl rfl rfl (Nat.le_of_ble_eq_true rfl) rfl rfl dX10_init_41 (fun H locs hP hD hS => ?_)
  exact W.vret hx hb hr (fun t ht hW => ⟨⟨(), rfl, trivial, q1, q2, q3, q4, q5, by rw [ht]; exact hP, hD⟩, hS.F ht⟩) hS.2.2 dX10_init_44
