/-! the launch's constants: static rows of ints (class, name, contents), texts (class, entry, text, bytes), links between nest mates -/
def xst : List (String × String × List Int32) := [("ScribeBlocks$SignList", "UNTOLD", [1, 24, 50, 1]), ("ScribeBlocks$SignList", "LOWEST", [0, 8, 1, 0]), ("ScribeBlocks$SignList", "HIGHEST", [9, 99, 100, 3]), ("ScribeBlocks$Grouper", "SIGNS_OF", [1, 2, 2, 3, 3, 3, 3, 3, 3, 4, 4]), ("ScribeBlocks$Grouper", "IS_OVER", [0, 0, 1, 0, 1, 0, 0, 1, 1, 0, 1]), ("ScribeBlocks$Grouper", "PARTS", [1, 0, 0, 1, 1, 0, 1, 1, 0, 1, 1, 1, 1, 1, 1, 1, 2, 0, 2, 1, 0, 1, 2, 0, 2, 1, 0, 2, 2, 0, 2, 2, 0])]
def xtx : List (String × Nat × String) := [("ScribeBlocks$SignList", 65, "sign"), ("ScribeBlocks$SignList", 122, "sounds"), ("ScribeBlocks$SignList", 127, "means"), ("ScribeBlocks$SignList", 132, "kind"), ("ScribeBlocks$SignList", 102, "gap"), ("ScribeBlocks$SignList", 104, "square"), ("ScribeBlocks$SignList", 106, "least"), ("ScribeBlocks$SignList", 108, "echo"), ("ScribeBlocksModel", 242, "sign gap square least echo sounds means kind "), ("ScribeBlocksModel", 502, "12233333344")]
def xtb : List (List Int32) := [[115, 105, 103, 110], [115, 111, 117, 110, 100, 115], [109, 101, 97, 110, 115], [107, 105, 110, 100], [103, 97, 112], [115, 113, 117, 97, 114, 101], [108, 101, 97, 115, 116], [101, 99, 104, 111], [115, 105, 103, 110, 32, 103, 97, 112, 32, 115, 113, 117, 97, 114, 101, 32, 108, 101, 97, 115, 116, 32, 101, 99, 104, 111, 32, 115, 111, 117, 110, 100, 115, 32, 109, 101, 97, 110, 115, 32, 107, 105, 110, 100, 32], [49, 50, 50, 51, 51, 51, 51, 51, 51, 52, 52]]
def xtl : List Nat := [4, 6, 5, 4, 3, 6, 5, 4, 45, 11]
def xnl : List (String × Nat × MethodName × String) := [("ScribeBlocks", 9, ⟨"ScribeBlocks$Tape","<init>","()V"⟩, "ScribeBlocks"), ("ScribeBlocks", 46, ⟨"ScribeBlocks$Terms","<init>","()V"⟩, "ScribeBlocks"), ("ScribeBlocks", 96, ⟨"ScribeBlocks$ValueBook","<init>","()V"⟩, "ScribeBlocks"), ("ScribeBlocks$Blocks", 100, ⟨"ScribeBlocks","sizeOf","(II)I"⟩, "ScribeBlocks"), ("ScribeBlocks$Blocks", 127, ⟨"ScribeBlocks","heightOf","(I)I"⟩, "ScribeBlocks"), ("ScribeBlocks$Blocks", 130, ⟨"ScribeBlocks","widthOf","(I)I"⟩, "ScribeBlocks"), ("ScribeBlocks$Blocks", 133, ⟨"ScribeBlocks","edgeOf","(I)I"⟩, "ScribeBlocks"), ("ScribeBlocks$Speller", 71, ⟨"ScribeBlocks","soundAt","(II)I"⟩, "ScribeBlocks"), ("ScribeBlocks$Chooser", 130, ⟨"ScribeBlocks","withSign","(JI)J"⟩, "ScribeBlocks"), ("ScribeBlocks$Chooser", 90, ⟨"ScribeBlocks","signOf","(JII)I"⟩, "ScribeBlocks"), ("ScribeBlocks$Chooser", 172, ⟨"ScribeBlocks$Speller","coversBehind","(III)I"⟩, "ScribeBlocks")]
abbrev XG : Type := va_G × (Nat → ClassId) × (Nat → Nat) × (Nat → Nat) × (Nat → Nat) × (Nat → Nat)
abbrev XG.D (g : XG) : va_G := g.1
abbrev XG.cA (g : XG) : Nat → ClassId := g.2.1
abbrev XG.q (g : XG) : Nat → Nat := g.2.2.1
abbrev XG.ts (g : XG) : Nat → Nat := g.2.2.2.1
abbrev XG.aK (g : XG) : Nat → Nat := g.2.2.2.2.1
abbrev XG.aV (g : XG) : Nat → Nat := g.2.2.2.2.2
/-- what the constants are, in a state U with heap H; none of their cells is in A -/
def xcs (A : Nat → Prop) (g : XG) (U : State) (H : Heap) : Prop :=
  (∀ (i : Nat) (e : String × String × List Int32), xst[i]? = some e → va_Z e.1 e.2.1 "[I" (.ref (g.ts i)) A U H ∧ va_T .int (g.ts i) e.2.2.length (fun j => .int (e.2.2.getD j 0)) A U H) ∧
  vk_S 10 xtl xtb g.aK g.aV A U H ∧ (∀ (i : Nat) (e : String × Nat × String), xtx[i]? = some e → vk_R e.1 e.2.1 e.2.2 (g.aK i) U) ∧
  (∀ e ∈ xnl, va_Nw (.methodLinkNest e.1 e.2.1 e.2.2.1 e.2.2.2) U) ∧ va_Z "java/lang/String" "COMPACT_STRINGS" "Z" (.int 1) A U H ∧ va_Zq "jdk/internal/util/Preconditions" "SIOOBE_FORMATTER" "Ljava/util/function/BiFunction;" A U H
theorem xcs.kept {A : Nat → Prop} {g : XG} {U : State} {H H1 : Heap} (h : xcs A g U H) (hq : ∀ a : Nat, a < H.size → ¬ A a → H1[a]? = H[a]?) : xcs A g U H1 :=
  ⟨fun i e he => ⟨(h.1 i e he).1.kept hq, (h.1 i e he).2.kept hq⟩, h.2.1.kept hq, h.2.2.1, h.2.2.2.1, h.2.2.2.2.1.kept hq, h.2.2.2.2.2.kept hq⟩
theorem xcs.warm {A : Nat → Prop} {g : XG} {s U : State} {H : Heap} (hW : s.WarmedH U.vm) (h : xcs A g s H) : xcs A g U H :=
  ⟨fun i e he => ⟨(h.1 i e he).1.moved hW.alike, (h.1 i e he).2.moved hW.alike⟩, h.2.1.moved hW.alike, fun i e he => (h.2.2.1 i e he).warm hW, fun e he => va_Nw.warmM hW (h.2.2.2.1 e he), h.2.2.2.2.1.moved hW.alike, h.2.2.2.2.2.moved hW.alike⟩
theorem xcs.same {A : Nat → Prop} {g : XG} {s U : State} {H : Heap} (hv : s.vm = U.vm) (h : xcs A g s H) : xcs A g U H :=
  have ha : s.vm.Alike U.vm := hv ▸ Vm.Alike.refl s.vm
  ⟨fun i e he => ⟨(h.1 i e he).1.moved ha, (h.1 i e he).2.moved ha⟩, h.2.1.moved ha, fun i e he => (h.2.2.1 i e he).same hv.symm, fun e he => va_Nw.same rfl hv (h.2.2.2.1 e he), h.2.2.2.2.1.moved ha, h.2.2.2.2.2.moved ha⟩
/-- a method's activation -/
def xC (K : List Lk) (g : XG) (own : String) (cc : ByteArray) (nL : Nat) (rt : Option FieldType) (p : Program) (s : State) (m : MethodId) (args : Array Value) (meth : Method) (c : Code) : Prop :=
  p.tables.exec = Jvm.exec ∧ c.code = cc ∧ c.maxLocals = nL ∧ s.vm.findClass own = some m.cls ∧ (∀ w ∈ lw_g, w.before args s = true) ∧ meth.sig.returnType = rt ∧ meth.locks = false ∧ va_K g.D xcl (xty g.cA) s ∧ xD K g.q ∧ xok K ∧ xcs (xA K g.q) g s s.heap
/-- the system's cells hold σ, and nothing else has changed -/
def xW (K : List Lk) (g : XG) (s : State) (σ : St) (H : Heap) (locs : List Loc) : Prop := va_P g.D xcl (xws K g.cA g.q σ) H ∧ va_S (xA K g.q) s.heap H locs
def xPre (K : List Lk) (g : XG) (av : List Value) (σ : St) : Array Value → State → Prop := va_Pc av (fun U => va_P g.D xcl (xws K g.cA g.q σ) U.heap ∧ va_K g.D xcl (xty g.cA) U ∧ xD K g.q ∧ xok K ∧ xcs (xA K g.q) g U U.heap)
def xPost (K : List Lk) (g : XG) (res : Option Value) (σ' : St) : Array Value → State → Outcome → State → Prop := fun _ st oc t => oc = .returned res ∧ va_P g.D xcl (xws K g.cA g.q σ') t.heap ∧ va_F (xA K g.q) st t
/-- a method's contract: called with these values where the cells hold σ, it answers res, and they hold σ' -/
abbrev xM (l : Launch) (K : List Lk) (g : XG) (y : MethodName) (cc : ByteArray) (nL : Nat) (rt : Option FieldType) (rm : Room) (av : List Value) (σ : St) (res : Option Value) (σ' : St) : Prop :=
  Met l y (.code y cc nL rt :: lw_g) rm (xPre K g av σ) (xPost K g res σ') 0 0 (xA K g.q)
/-- an index into a row of n -/
def ib (i : Int32) (n : Nat) : Bool := decide (¬ (i < 0 ∨ n ≤ i.toNatClampNeg))
theorem ib_in {i : Int32} {n : Nat} (h : ib i n = true) : vp_in i n := by
  have h2 : ¬ (i < 0 ∨ n ≤ i.toNatClampNeg) := of_decide_eq_true h
  exact h2
def grd {α : Type} (b : Bool) (x : Option α) : Option α := if b = true then x else none
theorem xgd {α : Type} {b : Bool} {x : Option α} {z : α} (h : grd b x = some z) : b = true ∧ x = some z := by
  unfold grd at h
  by_cases hb : b = true
  · rw [if_pos hb] at h; exact ⟨hb, h⟩
  · rw [if_neg hb] at h; cases h
def bo {α β : Type} (x : Option α) (f : α → Option β) : Option β := match x with
  | some a => f a
  | none => none
theorem xbo {α β : Type} {x : Option α} {f : α → Option β} {z : β} (h : bo x f = some z) : ∃ a, x = some a ∧ f a = some z := by
  cases x with
  | none => cases h
  | some a => exact ⟨a, rfl, h⟩
def bd {α β : Type} (x : Option (α × St)) (f : α → St → Option β) : Option β := match x with
  | some (a, s) => f a s
  | none => none
theorem xbd {α β : Type} {x : Option (α × St)} {f : α → St → Option β} {z : β} (h : bd x f = some z) : ∃ a s, x = some (a, s) ∧ f a s = some z := by
  match x, h with
  | some (a, s), h => exact ⟨a, s, rfl, h⟩
theorem xit {α : Type} {c : Prop} [Decidable c] {a b z : α} (hc : c) (h : (if c then a else b) = z) : a = z := by rw [if_pos hc] at h; exact h
theorem xif {α : Type} {c : Prop} [Decidable c] {a b z : α} (hc : ¬ c) (h : (if c then a else b) = z) : b = z := by rw [if_neg hc] at h; exact h
def ushr (x y : Int32) : Int32 := (x.toUInt32 >>> (y.toUInt32 &&& Int32.toUInt32 31)).toInt32
def lushr (x : Int64) (y : Int32) : Int64 := (x.toUInt64 >>> (y.toInt64.toUInt64 &&& Int64.toUInt64 63)).toInt64
def imax (x y : Int32) : Int32 := if x < y then y else x
def imin (x y : Int32) : Int32 := if y < x then y else x
def zbb (x : Int32) : Bool := decide (x = 0 ∨ x = 1)
theorem zbb_n {x : Int32} (h : zbb x = true) : narrow .boolean (.int x) = .int x := by
  rcases of_decide_eq_true h with rfl | rfl <;> rfl
theorem zbb_f {x : Int32} (h : zbb x = true) : fits .boolean (.int x) = true := by
  rcases of_decide_eq_true h with rfl | rfl <;> rfl
/-- field links: class own's entry ix is field k of class ci -/
def xFL (own : String) (ix ci k : Nat) : Prop := ∃ (C : String) (T : u_T) (N : Nat), xcl[ci]? = some (C, T, N) ∧ k < N ∧ (∀ w ∈ u_ws C T N, w ∈ lw_g) ∧ Cond.fieldLink own ix (T k).1 (T k).2.1 (T k).2.2.1 ∈ lw_g
def xFP (own : String) (ix ci k : Nat) (ty : FieldType) : Prop := ∃ (C : String) (T : u_T) (N : Nat) (ty0 : Nat → FieldType), xcl[ci]? = some (C, T, N) ∧ k < N ∧ (∀ w ∈ u_ws C T N, w ∈ lw_g) ∧ Cond.fieldLink own ix (T k).1 (T k).2.1 (T k).2.2.1 ∈ lw_g ∧ (∀ k, k < N → parseFieldDescriptor (T k).2.2.1 = some (ty0 k)) ∧ (∀ a, a < N → ∀ b, b < N → a ≠ b → (T a).2.1 ≠ (T b).2.1) ∧ (T k).2.2.2 = false ∧ parseFieldDescriptor (T k).2.2.1 = some ty
def xMf (y : MethodName) (cc : ByteArray) (nL : Nat) (rt : Option FieldType) (n : Nat) : Prop := Cond.code y cc nL rt ∈ lw_g ∧ Cond.initialized y.cls ∈ lw_g ∧ y.cls ≠ "java/lang/invoke/MethodHandle" ∧ y.cls ≠ "java/lang/invoke/VarHandle" ∧ (parseMethodDescriptor y.desc).map (fun d => d.parameters.length) = some n
def xMv (y : MethodName) : Prop := Cond.instanceMethod y ∈ lw_g ∧ Cond.selects y.cls y y ∈ lw_g
theorem xgood {y : MethodName} {cc : ByteArray} {nL n : Nat} {rt : Option FieldType} (h : xMf y cc nL rt n) : GoodIn lw_g (.code y cc nL rt :: lw_g) := fun w hw => by
  rcases List.mem_cons.mp hw with rfl | hw
  · exact ⟨h.1, lw_g_good _ h.1⟩
  · exact ⟨hw, lw_g_good _ hw⟩
theorem xblind (K : List Lk) (g : XG) (av : List Value) (σ : St) : FrameBlind (xPre K g av σ) := fun a U g2 mk h => ⟨h.1, h.2.1, va_K.moved (u := U) (U := U.calling g2 mk a) (Vm.Alike.refl U.vm) h.2.2.1, h.2.2.2.1, h.2.2.2.2.1, xcs.same (s := U) (U := U.calling g2 mk a) rfl h.2.2.2.2.2⟩
section XW
variable {p : Program} {l : Launch} {e : Env} {R : Room} {s : State} {m : MethodId} {args : Array Value} {below : List Frame} {meth : Method} {c : Code} {H : Heap} {locs : List Loc} {cells slots : Nat} {Q : State → Prop}
variable {K : List Lk} {g : XG} {own : String} {cc : ByteArray} {nL : Nat} {rt : Option FieldType} {σ : St} {pc : Nat} {ls : Array Slot} {rest : List Value}
theorem xC.hts (C : xC K g own cc nL rt p s m args meth c) : ∀ w ∈ lw_g, w.before args s = true := C.2.2.2.2.1
theorem xC.ow (C : xC K g own cc nL rt p s m args meth c) : s.vm.findClass own = some m.cls := C.2.2.2.1
theorem xC.hK (C : xC K g own cc nL rt p s m args meth c) : va_K g.D xcl (xty g.cA) s := C.2.2.2.2.2.2.2.1
theorem xC.hD (C : xC K g own cc nL rt p s m args meth c) (σ : St) : va_D (xA K g.q) (xws K g.cA g.q σ) := xws_D C.2.2.2.2.2.2.2.2.1
theorem xC.ok (C : xC K g own cc nL rt p s m args meth c) : xok K := C.2.2.2.2.2.2.2.2.2.1
theorem xC.cs (C : xC K g own cc nL rt p s m args meth c) : xcs (xA K g.q) g s s.heap := C.2.2.2.2.2.2.2.2.2.2
theorem xC.ret (C : xC K g own cc nL rt p s m args meth c) : meth.sig.returnType = rt := C.2.2.2.2.2.1
theorem xC.lk (C : xC K g own cc nL rt p s m args meth c) : meth.locks = false := C.2.2.2.2.2.2.1
theorem xobj {o ci : Nat} {fts : List (Nat × Nat)} (hk : K[o]? = some (.inl (ci, fts))) : (xws K g.cA g.q σ)[o]? = some (g.q o, .inr (ci, fts.mapIdx (fun j f => xfv g.q σ o j f))) := xws_at hk
theorem xari {o t n : Nat} (hk : K[o]? = some (.inr (t, n))) (ht : t ≠ 1) : (xws K g.cA g.q σ)[o]? = some (g.q o, .inl (g.cA t, n, .inl (σ.1 o))) := by
  rw [xws_at hk]; unfold xen; dsimp only; rw [if_neg ht]
theorem xarl {o n : Nat} (hk : K[o]? = some (.inr (1, n))) : (xws K g.cA g.q σ)[o]? = some (g.q o, .inl (g.cA 1, n, .inr (.inl (σ.2 o)))) := by
  rw [xws_at hk]; unfold xen; dsimp only; rw [if_pos rfl]
theorem xg_i (C : xC K g own cc nL rt p s m args meth c) (hW : xW K g s σ H locs) {ix ci k o t : Nat} {fts : List (Nat × Nat)} (hL : xFL own ix ci k) (hk : K[o]? = some (.inl (ci, fts))) (hf : fts[k]? = some (0, t)) {v : Nat} (hv0 : xv o k = v) {x : Int32} (hv : σ.1 v 0 = x) (hdg : decode cc pc = .ok (.getfield ix, 3))
    (kk : W p l e R s m args below meth c H locs cells slots Q (F0 m (pc + 3) ls (.int x :: rest))) : W p l e R s m args below meth c H locs cells slots Q (F0 m pc ls (.ref (g.q o) :: rest)) := by
  obtain ⟨Cn, T, N, hc, hN, hin, hl⟩ := hL
  refine va_get C.1 C.2.1 C.hts hin C.ow C.hK hW.1 o (xobj hk) hc k hN (C.hts _ hl) (fun _ h9 => h9) (v := .int x) ?_ hdg kk
  rw [List.getElem?_mapIdx, hf, Option.map_some, ← hv, ← hv0]; rfl
theorem xg_l (C : xC K g own cc nL rt p s m args meth c) (hW : xW K g s σ H locs) {ix ci k o t : Nat} {fts : List (Nat × Nat)} (hL : xFL own ix ci k) (hk : K[o]? = some (.inl (ci, fts))) (hf : fts[k]? = some (1, t)) {v : Nat} (hv0 : xv o k = v) {x : Int64} (hv : σ.2 v 0 = x) (hdg : decode cc pc = .ok (.getfield ix, 3))
    (kk : W p l e R s m args below meth c H locs cells slots Q (F0 m (pc + 3) ls (.long x :: rest))) : W p l e R s m args below meth c H locs cells slots Q (F0 m pc ls (.ref (g.q o) :: rest)) := by
  obtain ⟨Cn, T, N, hc, hN, hin, hl⟩ := hL
  refine va_get C.1 C.2.1 C.hts hin C.ow C.hK hW.1 o (xobj hk) hc k hN (C.hts _ hl) (fun _ h9 => h9) (v := .long x) ?_ hdg kk
  rw [List.getElem?_mapIdx, hf, Option.map_some, ← hv, ← hv0]; rfl
theorem xg_r (C : xC K g own cc nL rt p s m args meth c) (hW : xW K g s σ H locs) {ix ci k o t : Nat} {fts : List (Nat × Nat)} (hL : xFL own ix ci k) (hk : K[o]? = some (.inl (ci, fts))) (hf : fts[k]? = some (2, t)) (hdg : decode cc pc = .ok (.getfield ix, 3))
    (kk : W p l e R s m args below meth c H locs cells slots Q (F0 m (pc + 3) ls (.ref (g.q t) :: rest))) : W p l e R s m args below meth c H locs cells slots Q (F0 m pc ls (.ref (g.q o) :: rest)) := by
  obtain ⟨Cn, T, N, hc, hN, hin, hl⟩ := hL
  refine va_get C.1 C.2.1 C.hts hin C.ow C.hK hW.1 o (xobj hk) hc k hN (C.hts _ hl) (fun _ h9 => h9) (v := .ref (g.q t)) ?_ hdg kk
  rw [List.getElem?_mapIdx, hf, Option.map_some]; rfl
theorem xg_v (C : xC K g own cc nL rt p s m args meth c) (hW : xW K g s σ H locs) {ix ci k o t : Nat} {fts : List (Nat × Nat)} (hL : xFL own ix ci k) (hk : K[o]? = some (.inl (ci, fts))) (hf : fts[k]? = some (3, t)) {v : Nat} (hv0 : xv o k = v) {x : Int32} (hv : σ.1 v 0 = x) (hdg : decode cc pc = .ok (.getfield ix, 3))
    (kk : W p l e R s m args below meth c H locs cells slots Q (F0 m (pc + 3) ls (.ref (g.q x.toNatClampNeg) :: rest))) : W p l e R s m args below meth c H locs cells slots Q (F0 m pc ls (.ref (g.q o) :: rest)) := by
  obtain ⟨Cn, T, N, hc, hN, hin, hl⟩ := hL
  refine va_get C.1 C.2.1 C.hts hin C.ow C.hK hW.1 o (xobj hk) hc k hN (C.hts _ hl) (fun _ h9 => h9) (v := .ref (g.q x.toNatClampNeg)) ?_ hdg kk
  rw [List.getElem?_mapIdx, hf, Option.map_some, ← hv, ← hv0]; rfl
theorem xp_i (C : xC K g own cc nL rt p s m args meth c) (hW : xW K g s σ H locs) {ix ci k o t : Nat} {fts : List (Nat × Nat)} {ty : FieldType} {x : Int32} (hL : xFP own ix ci k ty) (hk : K[o]? = some (.inl (ci, fts))) (hf : fts[k]? = some (0, t)) {v : Nat} (hv0 : xv o k = v) (hn : narrow ty (.int x) = .int x) (hfit : fits ty (.int x) = true) (hdg : decode cc pc = .ok (.putfield ix, 3))
    (kk : ∀ (H1 : Heap) (locs1 : List Loc), xW K g s (si σ v 0 x) H1 locs1 → W p l e R s m args below meth c H1 locs1 cells slots Q (F0 m (pc + 3) ls rest)) : W p l e R s m args below meth c H locs cells slots Q (F0 m pc ls (.int x :: .ref (g.q o) :: rest)) := by
  obtain ⟨Cn, T, N, ty0, hc, hN, hin, hl, hty, hnm, hfin, hd⟩ := hL
  refine va_put C.1 C.2.1 C.hts hin ty0 hty hnm C.ow C.hK hW.1 (C.hD σ) hW.2 o (xobj hk) hc k hN (C.hts _ hl) (fun _ h9 => h9) hfin hd hn hfit (by rw [List.length_mapIdx]; exact xlt hf) hdg (fun H1 locs1 h1 _ h3 => kk H1 locs1 ⟨?_, h3⟩)
  rw [← hv0, xws_fld C.ok hk hf]; exact h1
theorem xp_l (C : xC K g own cc nL rt p s m args meth c) (hW : xW K g s σ H locs) {ix ci k o t : Nat} {fts : List (Nat × Nat)} {x : Int64} (hL : xFP own ix ci k .long) (hk : K[o]? = some (.inl (ci, fts))) (hf : fts[k]? = some (1, t)) {v : Nat} (hv0 : xv o k = v) (hdg : decode cc pc = .ok (.putfield ix, 3))
    (kk : ∀ (H1 : Heap) (locs1 : List Loc), xW K g s (sl σ v 0 x) H1 locs1 → W p l e R s m args below meth c H1 locs1 cells slots Q (F0 m (pc + 3) ls rest)) : W p l e R s m args below meth c H locs cells slots Q (F0 m pc ls (.long x :: .ref (g.q o) :: rest)) := by
  obtain ⟨Cn, T, N, ty0, hc, hN, hin, hl, hty, hnm, hfin, hd⟩ := hL
  refine va_put C.1 C.2.1 C.hts hin ty0 hty hnm C.ow C.hK hW.1 (C.hD σ) hW.2 o (xobj hk) hc k hN (C.hts _ hl) (fun _ h9 => h9) hfin hd rfl rfl (by rw [List.length_mapIdx]; exact xlt hf) hdg (fun H1 locs1 h1 _ h3 => kk H1 locs1 ⟨?_, h3⟩)
  rw [← hv0, xws_fldl C.ok hk hf]; exact h1
theorem xp_v (C : xC K g own cc nL rt p s m args meth c) (hW : xW K g s σ H locs) {ix ci k o t b : Nat} {fts : List (Nat × Nat)} {ty : FieldType} {x : Int32} (hL : xFP own ix ci k ty) (hk : K[o]? = some (.inl (ci, fts))) (hf : fts[k]? = some (3, t)) {v : Nat} (hv0 : xv o k = v) (hb : x.toNatClampNeg = b) (hn : ∀ a : Nat, narrow ty (.ref a) = .ref a ∧ fits ty (.ref a) = true) (hdg : decode cc pc = .ok (.putfield ix, 3))
    (kk : ∀ (H1 : Heap) (locs1 : List Loc), xW K g s (si σ v 0 x) H1 locs1 → W p l e R s m args below meth c H1 locs1 cells slots Q (F0 m (pc + 3) ls rest)) : W p l e R s m args below meth c H locs cells slots Q (F0 m pc ls (.ref (g.q b) :: .ref (g.q o) :: rest)) := by
  obtain ⟨Cn, T, N, ty0, hc, hN, hin, hl, hty, hnm, hfin, hd⟩ := hL
  refine va_put C.1 C.2.1 C.hts hin ty0 hty hnm C.ow C.hK hW.1 (C.hD σ) hW.2 o (xobj hk) hc k hN (C.hts _ hl) (fun _ h9 => h9) hfin hd (hn _).1 (hn _).2 (by rw [List.length_mapIdx]; exact xlt hf) hdg (fun H1 locs1 h1 _ h3 => kk H1 locs1 ⟨?_, h3⟩)
  rw [← hv0, xws_fldr C.ok hk hf, hb]; exact h1
theorem xa_i (C : xC K g own cc nL rt p s m args meth c) (hW : xW K g s σ H locs) {o n : Nat} {i : Int32} (hk : K[o]? = some (.inr (0, n))) (hin : ib i n = true) {x : Int32} (hv : σ.1 o i.toNatClampNeg = x) (hdg : decode cc pc = .ok (.iaload, 1))
    (kk : W p l e R s m args below meth c H locs cells slots Q (F0 m (pc + 1) ls (.int x :: rest))) : W p l e R s m args below meth c H locs cells slots Q (F0 m pc ls (.int i :: .ref (g.q o) :: rest)) := by
  subst hv; exact va_iald C.1 C.2.1 C.hK hW.1 o 0 (xari hk (by decide)) rfl (ib_in hin) hdg kk
theorem xa_b (C : xC K g own cc nL rt p s m args meth c) (hW : xW K g s σ H locs) {o n : Nat} {i : Int32} (hk : K[o]? = some (.inr (2, n))) (hin : ib i n = true) {x : Int32} (hv : σ.1 o i.toNatClampNeg = x) (hdg : decode cc pc = .ok (.baload, 1))
    (kk : W p l e R s m args below meth c H locs cells slots Q (F0 m (pc + 1) ls (.int x :: rest))) : W p l e R s m args below meth c H locs cells slots Q (F0 m pc ls (.int i :: .ref (g.q o) :: rest)) := by
  subst hv; exact va_bald C.1 C.2.1 C.hK hW.1 o 2 (xari hk (by decide)) rfl (ib_in hin) hdg kk
theorem xa_z (C : xC K g own cc nL rt p s m args meth c) (hW : xW K g s σ H locs) {o n : Nat} {i : Int32} (hk : K[o]? = some (.inr (3, n))) (hin : ib i n = true) {x : Int32} (hv : σ.1 o i.toNatClampNeg = x) (hdg : decode cc pc = .ok (.baload, 1))
    (kk : W p l e R s m args below meth c H locs cells slots Q (F0 m (pc + 1) ls (.int x :: rest))) : W p l e R s m args below meth c H locs cells slots Q (F0 m pc ls (.int i :: .ref (g.q o) :: rest)) := by
  subst hv; exact va_zald C.1 C.2.1 C.hK hW.1 o 3 (xari hk (by decide)) rfl (ib_in hin) hdg kk
theorem xa_l (C : xC K g own cc nL rt p s m args meth c) (hW : xW K g s σ H locs) {o n : Nat} {i : Int32} (hk : K[o]? = some (.inr (1, n))) (hin : ib i n = true) {x : Int64} (hv : σ.2 o i.toNatClampNeg = x) (hdg : decode cc pc = .ok (.laload, 1))
    (kk : W p l e R s m args below meth c H locs cells slots Q (F0 m (pc + 1) ls (.long x :: rest))) : W p l e R s m args below meth c H locs cells slots Q (F0 m pc ls (.int i :: .ref (g.q o) :: rest)) := by
  subst hv; exact va_lald C.1 C.2.1 C.hK hW.1 o 1 (xarl hk) rfl (ib_in hin) hdg kk
theorem xa_n (C : xC K g own cc nL rt p s m args meth c) (hW : xW K g s σ H locs) {o n : Nat} (hk : K[o]? = some (.inr (0, n))) {x : Int32} (hv : Int32.ofNat n = x) (hdg : decode cc pc = .ok (.arraylength, 1))
    (kk : W p l e R s m args below meth c H locs cells slots Q (F0 m (pc + 1) ls (.int x :: rest))) : W p l e R s m args below meth c H locs cells slots Q (F0 m pc ls (.ref (g.q o) :: rest)) :=
  va_alen C.1 C.2.1 C.hK hW.1 o 0 (xari hk (by decide)) rfl hv hdg kk
theorem xs_i (C : xC K g own cc nL rt p s m args meth c) (hW : xW K g s σ H locs) {o n : Nat} {i x : Int32} (hk : K[o]? = some (.inr (0, n))) (hin : ib i n = true) (hdg : decode cc pc = .ok (.iastore, 1))
    (kk : ∀ (H1 : Heap) (locs1 : List Loc), xW K g s (si σ o i.toNatClampNeg x) H1 locs1 → W p l e R s m args below meth c H1 locs1 cells slots Q (F0 m (pc + 1) ls rest)) : W p l e R s m args below meth c H locs cells slots Q (F0 m pc ls (.int x :: .int i :: .ref (g.q o) :: rest)) :=
  va_iast C.1 C.2.1 C.hK hW.1 (C.hD σ) hW.2 o 0 (xari hk (by decide)) rfl (ib_in hin) hdg (fun H1 locs1 h1 _ h3 => kk H1 locs1 ⟨by rw [si_sr, xws_arr C.ok hk (by decide)]; exact h1, h3⟩)
theorem xs_b (C : xC K g own cc nL rt p s m args meth c) (hW : xW K g s σ H locs) {o n : Nat} {i x : Int32} (hk : K[o]? = some (.inr (2, n))) (hin : ib i n = true) (hdg : decode cc pc = .ok (.bastore, 1))
    (kk : ∀ (H1 : Heap) (locs1 : List Loc), xW K g s (si σ o i.toNatClampNeg x.toInt8.toInt32) H1 locs1 → W p l e R s m args below meth c H1 locs1 cells slots Q (F0 m (pc + 1) ls rest)) : W p l e R s m args below meth c H locs cells slots Q (F0 m pc ls (.int x :: .int i :: .ref (g.q o) :: rest)) :=
  va_bast C.1 C.2.1 C.hK hW.1 (C.hD σ) hW.2 o 2 (xari hk (by decide)) rfl (ib_in hin) hdg (fun H1 locs1 h1 _ h3 => kk H1 locs1 ⟨by rw [si_sr, xws_arr C.ok hk (by decide), ← vp_nar_byte]; exact h1, h3⟩)
theorem xs_z (C : xC K g own cc nL rt p s m args meth c) (hW : xW K g s σ H locs) {o n : Nat} {i x : Int32} (hk : K[o]? = some (.inr (3, n))) (hin : ib i n = true) (hdg : decode cc pc = .ok (.bastore, 1))
    (kk : ∀ (H1 : Heap) (locs1 : List Loc), xW K g s (si σ o i.toNatClampNeg (vp_nar .boolean x)) H1 locs1 → W p l e R s m args below meth c H1 locs1 cells slots Q (F0 m (pc + 1) ls rest)) : W p l e R s m args below meth c H locs cells slots Q (F0 m pc ls (.int x :: .int i :: .ref (g.q o) :: rest)) :=
  va_zast C.1 C.2.1 C.hK hW.1 (C.hD σ) hW.2 o 3 (xari hk (by decide)) rfl (ib_in hin) hdg (fun H1 locs1 h1 _ h3 => kk H1 locs1 ⟨by rw [si_sr, xws_arr C.ok hk (by decide)]; exact h1, h3⟩)
theorem xs_l (C : xC K g own cc nL rt p s m args meth c) (hW : xW K g s σ H locs) {o n : Nat} {i : Int32} {x : Int64} (hk : K[o]? = some (.inr (1, n))) (hin : ib i n = true) (hdg : decode cc pc = .ok (.lastore, 1))
    (kk : ∀ (H1 : Heap) (locs1 : List Loc), xW K g s (sl σ o i.toNatClampNeg x) H1 locs1 → W p l e R s m args below meth c H1 locs1 cells slots Q (F0 m (pc + 1) ls rest)) : W p l e R s m args below meth c H locs cells slots Q (F0 m pc ls (.long x :: .int i :: .ref (g.q o) :: rest)) :=
  va_last C.1 C.2.1 C.hK hW.1 (C.hD σ) hW.2 o 1 (xarl hk) rfl (ib_in hin) hdg (fun H1 locs1 h1 _ h3 => kk H1 locs1 ⟨by rw [sl_srl, xws_arrl C.ok hk]; exact h1, h3⟩)
/-- a static row: its reference, and what it holds -/
theorem xt_r (C : xC K g own cc nL rt p s m args meth c) (hW : xW K g s σ H locs) {ix i : Nat} {en : String × String × List Int32} (hi : xst[i]? = some en) (hl : Cond.fieldLink own ix en.1 en.2.1 "[I" ∈ lw_g) (hdg : decode cc pc = .ok (.getstatic ix, 3))
    (kk : W p l e R s m args below meth c H locs cells slots Q (F0 m (pc + 3) ls (.ref (g.ts i) :: rest))) : W p l e R s m args below meth c H locs cells slots Q (F0 m pc ls rest) :=
  va_gets C.1 C.2.1 (C.cs.1 i en hi).1 hW.2 C.ow (C.hts _ hl) (fun _ h9 => h9) hdg kk
theorem xt_i (C : xC K g own cc nL rt p s m args meth c) (hW : xW K g s σ H locs) {k : Nat} {en : String × String × List Int32} (hi : xst[k]? = some en) {i : Int32} (hin : ib i en.2.2.length = true) (hdg : decode cc pc = .ok (.iaload, 1))
    (kk : W p l e R s m args below meth c H locs cells slots Q (F0 m (pc + 1) ls (.int (en.2.2.getD i.toNatClampNeg 0) :: rest))) : W p l e R s m args below meth c H locs cells slots Q (F0 m pc ls (.int i :: .ref (g.ts k) :: rest)) :=
  va_ti C.1 C.2.1 (C.cs.1 k en hi).2 hW.2 (ib_in hin) rfl hdg kk
/-- a text's reference -/
theorem xx_s (C : xC K g own cc nL rt p s m args meth c) {ix i : Nat} {tx : String} (hi : xtx[i]? = some (own, ix, tx)) (hdg : decode cc pc = .ok (.ldc ix, 2))
    (kk : W p l e R s m args below meth c H locs cells slots Q (F0 m (pc + 2) ls (.ref (g.aK i) :: rest))) : W p l e R s m args below meth c H locs cells slots Q (F0 m pc ls rest) :=
  va_ldcS C.1 C.2.1 C.ow (C.cs.2.2.1 i _ hi) hdg kk
theorem xr_i {v : Int32} (C : xC K g own cc nL (some .int) p s m args meth c) (hW : xW K g s σ H locs) (hdg : decode cc pc = .ok (.ireturn, 1)) : W p l e R s m args below meth c H locs 0 0 (MQ below (xPost K g (some (.int v)) σ) args s 0 0 (xA K g.q)) (F0 m pc ls [.int v]) :=
  W.iret C.1 C.2.1 C.ret (fun t ht hw => ⟨rfl, by rw [ht]; exact hW.1, hW.2.F ht⟩) hW.2.2.2 hdg C.lk
theorem xr_z {v : Int32} (C : xC K g own cc nL (some .boolean) p s m args meth c) (hW : xW K g s σ H locs) (hz : zbb v = true) (hdg : decode cc pc = .ok (.ireturn, 1)) : W p l e R s m args below meth c H locs 0 0 (MQ below (xPost K g (some (.int v)) σ) args s 0 0 (xA K g.q)) (F0 m pc ls [.int v]) :=
  W.zret C.1 C.2.1 C.ret (zbb_n hz) (fun t ht hw => ⟨rfl, by rw [ht]; exact hW.1, hW.2.F ht⟩) hW.2.2.2 hdg C.lk
theorem xr_l {v : Int64} (C : xC K g own cc nL (some .long) p s m args meth c) (hW : xW K g s σ H locs) (hdg : decode cc pc = .ok (.lreturn, 1)) : W p l e R s m args below meth c H locs 0 0 (MQ below (xPost K g (some (.long v)) σ) args s 0 0 (xA K g.q)) (F0 m pc ls [.long v]) :=
  W.lret C.1 C.2.1 C.ret (fun t ht hw => ⟨rfl, by rw [ht]; exact hW.1, hW.2.F ht⟩) hW.2.2.2 hdg C.lk
theorem xr_v (C : xC K g own cc nL none p s m args meth c) (hW : xW K g s σ H locs) (hdg : decode cc pc = .ok (.return_, 1)) : W p l e R s m args below meth c H locs 0 0 (MQ below (xPost K g none σ) args s 0 0 (xA K g.q)) (F0 m pc ls []) :=
  W.vret C.1 C.2.1 C.ret (fun t ht hw => ⟨rfl, by rw [ht]; exact hW.1, hW.2.F ht⟩) hW.2.2.2 hdg C.lk
/-- behind a call -/
theorem xback {y : MethodName} {av : List Value} {res : Option Value} {σ' : St} {st0 : List Value} (C : xC K g own cc nL rt p s m args meth c) (hW : xW K g s σ H locs) (hr : va_Run p l e R s m args below meth c H locs 0 0 0 0 (F0 m pc ls st0) rest (xPost K g res σ' av.toArray) (xA K g.q))
    (kk : ∀ (H1 : Heap) (locs1 : List Loc), xW K g s σ' H1 locs1 → W p l e R s m args below meth c H1 locs1 0 0 Q (F0 m (pc + 3) ls (res.toList ++ rest))) : W p l e R s m args below meth c H locs 0 0 Q (F0 m pc ls st0) := by
  intro T hT X
  obtain ⟨v, st₀, t, T', L, h0, X', hL, e1, e2, ⟨hv, hp, hz, hk⟩, st⟩ := hr T hT X
  cases hv
  rw [h0] at hz hk
  obtain ⟨t2, a1, b1⟩ := kk T'.heap (locs ++ L) ⟨by rw [e1]; exact hp, Nat.le_trans hW.2.1 (by rw [e1]; exact hz), fun q h1 h2 => by
      rw [e1, hk q (Nat.lt_of_lt_of_le h1 hW.2.1) h2]; exact hW.2.2.1 q h1 h2, fun q hq => by
      rcases List.mem_append.mp hq with h | h
      · exact hW.2.2.2 q h
      · exact hL q h⟩ T' rfl X'
  exact ⟨t2, st t2 a1, b1⟩
theorem xpre (C : xC K g own cc nL rt p s m args meth c) (hW : xW K g s σ H locs) (av : List Value) : ∀ U : State, U.heap = H → s.WarmedH U.vm → xPre K g av σ av.toArray U := fun U hU hw =>
  ⟨rfl, by rw [hU]; exact hW.1, va_K.moved hw.alike C.hK, C.2.2.2.2.2.2.2.2.1, C.ok, by rw [hU]; exact (C.cs.warm hw).kept hW.2.2.1⟩
theorem xc_V {y : MethodName} {bytes : ByteArray} {maxL n ix o ci : Nat} {ret : Option FieldType} {rm : Room} {As : List Value} {res : Option Value} {σ' : St} {fts : List (Nat × Nat)} {st0 : List Value} (C : xC K g own cc nL rt p s m args meth c) (hW : xW K g s σ H locs) (hM : xM l K g y bytes maxL ret rm (.ref (g.q o) :: As) σ res σ') (hf : xMf y bytes maxL ret n) (hv : xMv y) (hl : Cond.methodLink own ix y ∈ lw_g)
    (hrc : rm.cells = 0 ∧ rm.slots = 0) (hR : rm.frames + 1 ≤ R.frames ∧ 8 + (maxL + 11) + rm.locals ≤ R.locals) (hk : K[o]? = some (.inl (ci, fts))) (hc : xcl[ci]?.map (fun q => q.1) = some y.cls) (hls : ls.size = nL) (hn : As.length = n) (hst : st0 = As.reverse ++ .ref (g.q o) :: rest) (hroom : (rest.map fun v => v.category).sum ≤ 8) (hdg : decode cc pc = .ok (.invokevirtual ix, 3))
    (kk : ∀ (H1 : Heap) (locs1 : List Loc), xW K g s σ' H1 locs1 → W p l e R s m args below meth c H1 locs1 0 0 Q (F0 m (pc + 3) ls (res.toList ++ rest))) : W p l e R s m args below meth c H locs 0 0 Q (F0 m pc ls st0) := by
  obtain ⟨q0, hq0, hq1⟩ : ∃ q0 : vw_C, xcl[ci]? = some q0 ∧ q0.1 = y.cls := by
    cases h : xcl[ci]? with
    | none => rw [h] at hc; cases hc
    | some q0 => rw [h] at hc; exact ⟨q0, rfl, Option.some.inj hc⟩
  have hg : GoodIn lw_g (wsV own ix y.cls y (.code y bytes maxL ret :: lw_g)) := fun w hw => by
    rcases List.mem_append.mp hw with h | h
    · simp only [List.mem_cons, List.not_mem_nil, or_false] at h
      rcases h with rfl | rfl | rfl | rfl
      · exact ⟨hl, lw_g_good _ hl⟩
      · exact ⟨hv.1, lw_g_good _ hv.1⟩
      · exact ⟨hv.2, lw_g_good _ hv.2⟩
      · exact ⟨hf.2.1, lw_g_good _ hf.2.1⟩
    · exact xgood hf w h
  have cw := cwV (R := R) (s := s) (args := args) (own := own) (C := y.cls) (index := ix) (y := y) (bytes := bytes) (maxL := maxL) (ret := ret) (ws := .code y bytes maxL ret :: lw_g) (rm := rm) (mc := 0) (ms := 0) n C.hts hg rfl hrc.1 hrc.2 ⟨rfl, hf.2.2⟩ hR
  have hrecv := va_recv (s := s) C.hK hW.1 hq0 (xobj hk)
  rw [hq1] at hrecv
  exact xback (y := y) C hW (va_runV (As := As) (rest := rest) ⟨C.1, C.2.1, C.2.2.1, C.ow, C.hts⟩ hM cw ⟨xblind K g _ σ, hrecv, xpre C hW _⟩ rfl hn hls hst (lv_room hroom) hdg ⟨Nat.zero_le _, Nat.zero_le _⟩) kk
theorem xc_S {y : MethodName} {bytes : ByteArray} {maxL n ix : Nat} {ret : Option FieldType} {rm : Room} {As : List Value} {res : Option Value} {σ' : St} {st0 : List Value} (C : xC K g own cc nL rt p s m args meth c) (hW : xW K g s σ H locs) (hM : xM l K g y bytes maxL ret rm As σ res σ') (hf : xMf y bytes maxL ret n) (hv : Cond.static y ∈ lw_g) (hl : Cond.methodLink own ix y ∈ lw_g)
    (hrc : rm.cells = 0 ∧ rm.slots = 0) (hR : rm.frames + 1 ≤ R.frames ∧ 8 + (maxL + 11) + rm.locals ≤ R.locals) (hls : ls.size = nL) (hn : As.length = n) (hst : st0 = As.reverse ++ rest) (hroom : (rest.map fun v => v.category).sum ≤ 8) (hdg : decode cc pc = .ok (.invokestatic ix, 3))
    (kk : ∀ (H1 : Heap) (locs1 : List Loc), xW K g s σ' H1 locs1 → W p l e R s m args below meth c H1 locs1 0 0 Q (F0 m (pc + 3) ls (res.toList ++ rest))) : W p l e R s m args below meth c H locs 0 0 Q (F0 m pc ls st0) := by
  have hg : GoodIn lw_g (va_wsS own ix y (.code y bytes maxL ret :: lw_g)) := fun w hw => by
    rcases List.mem_append.mp hw with h | h
    · simp only [List.mem_cons, List.not_mem_nil, or_false] at h
      rcases h with rfl | rfl | rfl
      · exact ⟨hl, lw_g_good _ hl⟩
      · exact ⟨hv, lw_g_good _ hv⟩
      · exact ⟨hf.2.1, lw_g_good _ hf.2.1⟩
    · exact xgood hf w h
  have cw := va_cwS (R := R) (s := s) (args := args) (own := own) (index := ix) (y := y) (bytes := bytes) (maxL := maxL) (ret := ret) (ws := .code y bytes maxL ret :: lw_g) (rm := rm) (mc := 0) (ms := 0) n C.hts hg rfl hrc.1 hrc.2 hf.2.2 hR
  exact xback (y := y) C hW (va_runS (As := As) (rest := rest) ⟨C.1, C.2.1, C.2.2.1, C.ow, C.hts⟩ hM cw ⟨xblind K g _ σ, xpre C hW _⟩ rfl hn hls hst (lv_room hroom) hdg ⟨Nat.zero_le _, Nat.zero_le _⟩) kk
theorem xc_SN {y : MethodName} {bytes : ByteArray} {maxL n ix : Nat} {host : String} {ret : Option FieldType} {rm : Room} {As : List Value} {res : Option Value} {σ' : St} {st0 : List Value} (C : xC K g own cc nL rt p s m args meth c) (hW : xW K g s σ H locs) (hM : xM l K g y bytes maxL ret rm As σ res σ') (hf : xMf y bytes maxL ret n) (hv : Cond.static y ∈ lw_g) (hl : (own, ix, y, host) ∈ xnl)
    (hrc : rm.cells = 0 ∧ rm.slots = 0) (hR : rm.frames + 1 ≤ R.frames ∧ 8 + (maxL + 11) + rm.locals ≤ R.locals) (hls : ls.size = nL) (hn : As.length = n) (hst : st0 = As.reverse ++ rest) (hroom : (rest.map fun v => v.category).sum ≤ 8) (hdg : decode cc pc = .ok (.invokestatic ix, 3))
    (kk : ∀ (H1 : Heap) (locs1 : List Loc), xW K g s σ' H1 locs1 → W p l e R s m args below meth c H1 locs1 0 0 Q (F0 m (pc + 3) ls (res.toList ++ rest))) : W p l e R s m args below meth c H locs 0 0 Q (F0 m pc ls st0) := by
  have cw := va_cnB (R := R) (s := s) (args := args) (own := own) (host := host) (index := ix) (y := y) (bytes := bytes) (maxL := maxL) (ret := ret) (ws := .code y bytes maxL ret :: lw_g) (rm := rm) (mc := 0) (ms := 0) n C.hts (xgood hf) rfl hrc.1 hrc.2 (C.cs.2.2.2.1 _ hl) (C.hts _ hf.2.1) hf.2.2 hR
  exact xback (y := y) C hW (va_runSN (As := As) (rest := rest) ⟨C.1, C.2.1, C.2.2.1, C.ow, C.hts⟩ hM ⟨cw, C.hts _ hv, trivial⟩ ⟨xblind K g _ σ, xpre C hW _⟩ rfl hn hls hst (lv_room hroom) hdg ⟨Nat.zero_le _, Nat.zero_le _⟩) kk
theorem xc_VN {y : MethodName} {bytes : ByteArray} {maxL n ix o ci : Nat} {host : String} {ret : Option FieldType} {rm : Room} {As : List Value} {res : Option Value} {σ' : St} {fts : List (Nat × Nat)} {st0 : List Value} (C : xC K g own cc nL rt p s m args meth c) (hW : xW K g s σ H locs) (hM : xM l K g y bytes maxL ret rm (.ref (g.q o) :: As) σ res σ') (hf : xMf y bytes maxL ret n) (hv : xMv y) (hl : (own, ix, y, host) ∈ xnl)
    (hrc : rm.cells = 0 ∧ rm.slots = 0) (hR : rm.frames + 1 ≤ R.frames ∧ 8 + (maxL + 11) + rm.locals ≤ R.locals) (hk : K[o]? = some (.inl (ci, fts))) (hc : xcl[ci]?.map (fun q => q.1) = some y.cls) (hls : ls.size = nL) (hn : As.length = n) (hst : st0 = As.reverse ++ .ref (g.q o) :: rest) (hroom : (rest.map fun v => v.category).sum ≤ 8) (hdg : decode cc pc = .ok (.invokevirtual ix, 3))
    (kk : ∀ (H1 : Heap) (locs1 : List Loc), xW K g s σ' H1 locs1 → W p l e R s m args below meth c H1 locs1 0 0 Q (F0 m (pc + 3) ls (res.toList ++ rest))) : W p l e R s m args below meth c H locs 0 0 Q (F0 m pc ls st0) := by
  obtain ⟨q0, hq0, hq1⟩ : ∃ q0 : vw_C, xcl[ci]? = some q0 ∧ q0.1 = y.cls := by
    cases h : xcl[ci]? with
    | none => rw [h] at hc; cases hc
    | some q0 => rw [h] at hc; exact ⟨q0, rfl, Option.some.inj hc⟩
  have cw := va_cnB (R := R) (s := s) (args := args) (own := own) (host := host) (index := ix) (y := y) (bytes := bytes) (maxL := maxL) (ret := ret) (ws := .code y bytes maxL ret :: lw_g) (rm := rm) (mc := 0) (ms := 0) n C.hts (xgood hf) rfl hrc.1 hrc.2 (C.cs.2.2.2.1 _ hl) (C.hts _ hf.2.1) hf.2.2 hR
  have hrecv := va_recv (s := s) C.hK hW.1 hq0 (xobj hk)
  rw [hq1] at hrecv
  exact xback (y := y) C hW (va_runVN (As := As) (rest := rest) ⟨C.1, C.2.1, C.2.2.1, C.ow, C.hts⟩ hM ⟨cw, C.hts _ hv.1, C.hts _ hv.2⟩ ⟨xblind K g _ σ, hrecv, xpre C hW _⟩ rfl hn hls hst (lv_room hroom) hdg ⟨Nat.zero_le _, Nat.zero_le _⟩) kk
end XW
/-- a contract out of a walk of the body -/
theorem xmet {l : Launch} {K : List Lk} {g : XG} {y : MethodName} {own : String} {cc : ByteArray} {nL : Nat} {rt : Option FieldType} {rm : Room} {av : List Value} {σ : St} {res : Option Value} {σ' : St} (hy : plainName y.cls = true) (ho : y.cls = own) (hn : (lg_sl av).length ≤ nL) {lv : List (Nat × Value)} (hlv : lv_args 0 av = lv)
    (body : ∀ (p : Program) (e : Env) (s : State) (m : MethodId) (args : Array Value) (below : List Frame) (meth : Method) (c : Code) (ls : Array Slot), xC K g own cc nL rt p s m args meth c → xW K g s σ s.heap [] → lv_has ls nL lv → W p l e rm s m args below meth c s.heap [] 0 0 (MQ below (xPost K g res σ') args s 0 0 (xA K g.q)) (F0 m 0 ls [])) : xM l K g y cc nL rt rm av σ res σ' := by
  refine Met.ofW (cc := cc) (maxL := nL) (ret := rt) hy rfl ?_
  intro p e s m args below meth c s₁ B hml hv
  obtain ⟨rfl, hP, hK, hD, hok, hcs⟩ := hv
  have hts := atoms_spec (ws := .code y cc nL rt :: lw_g) B.pre
  have hown : s.vm.findClass y.cls = some m.cls := findClass_of_methodNamed B.named
  have hl := lv_entry av (n := nL) hn
  rw [hlv] at hl
  rw [lg_entry_eq]
  exact body p e s m _ below meth c _ ⟨B.exec, B.bytes, hml, ho ▸ hown, fun w hw => hts w (List.mem_cons_of_mem _ hw), B.returns, B.notSynchronized, hK, hD, hok, hcs⟩ ⟨hP, va_S.rf⟩ hl
