/-! the state of a system of cells as numbers: ints and longs by (variable, place); a variable is an array (its cell's number) or a field (1000 + 200 * cell + slot) -/
abbrev St : Type := (Nat → Nat → Int32) × (Nat → Nat → Int64)
def si (σ : St) (o j : Nat) (x : Int32) : St := (fun a => if a = o then upd (σ.1 o) j x else σ.1 a, σ.2)
def sl (σ : St) (o j : Nat) (x : Int64) : St := (σ.1, fun a => if a = o then vp_updL (σ.2 o) j x else σ.2 a)
/-- a whole row of ints put in the place of another -/
def sr (σ : St) (o : Nat) (f : Nat → Int32) : St := (fun a => if a = o then f else σ.1 a, σ.2)
def srl (σ : St) (o : Nat) (f : Nat → Int64) : St := (σ.1, fun a => if a = o then f else σ.2 a)
theorem si_is (σ : St) (o j : Nat) (x : Int32) : (si σ o j x).1 o = upd (σ.1 o) j x := if_pos rfl
theorem si_ne (σ : St) {o a : Nat} (j : Nat) (x : Int32) (h : a ≠ o) : (si σ o j x).1 a = σ.1 a := if_neg h
theorem sl_is (σ : St) (o j : Nat) (x : Int64) : (sl σ o j x).2 o = vp_updL (σ.2 o) j x := if_pos rfl
theorem sl_ne (σ : St) {o a : Nat} (j : Nat) (x : Int64) (h : a ≠ o) : (sl σ o j x).2 a = σ.2 a := if_neg h
theorem sr_is (σ : St) (o : Nat) (f : Nat → Int32) : (sr σ o f).1 o = f := if_pos rfl
theorem sr_ne (σ : St) {o a : Nat} (f : Nat → Int32) (h : a ≠ o) : (sr σ o f).1 a = σ.1 a := if_neg h
theorem srl_is (σ : St) (o : Nat) (f : Nat → Int64) : (srl σ o f).2 o = f := if_pos rfl
theorem srl_ne (σ : St) {o a : Nat} (f : Nat → Int64) (h : a ≠ o) : (srl σ o f).2 a = σ.2 a := if_neg h
theorem sr_2 (σ : St) (o : Nat) (f : Nat → Int32) : (sr σ o f).2 = σ.2 := rfl
theorem srl_1 (σ : St) (o : Nat) (f : Nat → Int64) : (srl σ o f).1 = σ.1 := rfl
theorem si_sr (σ : St) (o j : Nat) (x : Int32) : si σ o j x = sr σ o (upd (σ.1 o) j x) := rfl
theorem sl_srl (σ : St) (o j : Nat) (x : Int64) : sl σ o j x = srl σ o (vp_updL (σ.2 o) j x) := rfl
/-- a cell: an object (its class, its fields: 0 int, 1 long, 2 the cell of that number, 3 the cell whose number the variable holds), or an array (0 int, 1 long, 2 byte, 3 boolean; its length) -/
def xv (o j : Nat) : Nat := 1000 + 200 * o + j
abbrev Lk : Type := (Nat × List (Nat × Nat)) ⊕ (Nat × Nat)
def xfv (q : Nat → Nat) (σ : St) (o j : Nat) (f : Nat × Nat) : Value := match f.1 with
  | 0 => .int (σ.1 (xv o j) 0)
  | 1 => .long (σ.2 (xv o j) 0)
  | 2 => .ref (q f.2)
  | _ => .ref (q (σ.1 (xv o j) 0).toNatClampNeg)
def xen (cA : Nat → ClassId) (q : Nat → Nat) (σ : St) (o : Nat) (k : Lk) : va_E := match k with
  | .inl a => .inr (a.1, a.2.mapIdx (fun j f => xfv q σ o j f))
  | .inr b => .inl (cA b.1, b.2, if b.1 = 1 then .inr (.inl (σ.2 o)) else .inl (σ.1 o))
def xws (K : List Lk) (cA : Nat → ClassId) (q : Nat → Nat) (σ : St) : va_W := K.mapIdx (fun o k => (q o, xen cA q σ o k))
def xA (K : List Lk) (q : Nat → Nat) : Nat → Prop := fun a => ∃ o, o < K.length ∧ q o = a
def xD (K : List Lk) (q : Nat → Nat) : Prop := ∀ i j, i < K.length → j < K.length → q i = q j → i = j
def xok (K : List Lk) : Prop := K.length ≤ 1000 ∧ ∀ (i : Nat) (a : Nat × List (Nat × Nat)), K[i]? = some (Sum.inl a) → a.2.length ≤ 200
abbrev xty (cA : Nat → ClassId) : List (ClassId × FieldType) := [(cA 0, .int), (cA 1, .long), (cA 2, .byte), (cA 3, .boolean)]
theorem xws_get (K : List Lk) (cA : Nat → ClassId) (q : Nat → Nat) (σ : St) (i : Nat) : (xws K cA q σ)[i]? = K[i]?.map (fun k => (q i, xen cA q σ i k)) := by
  simp [xws, List.getElem?_mapIdx]
theorem xws_at {K : List Lk} {cA : Nat → ClassId} {q : Nat → Nat} {σ : St} {o : Nat} {k : Lk} (h : K[o]? = some k) : (xws K cA q σ)[o]? = some (q o, xen cA q σ o k) := by
  rw [xws_get, h, Option.map_some]
theorem xlt {α : Type} {l : List α} {i : Nat} {x : α} (h : l[i]? = some x) : i < l.length := (List.getElem?_eq_some_iff.mp h).1
theorem xws_D {K : List Lk} {cA : Nat → ClassId} {q : Nat → Nat} {σ : St} (h : xD K q) : va_D (xA K q) (xws K cA q σ) := by
  have key : ∀ (i : Nat) (p : Nat × va_E), (xws K cA q σ)[i]? = some p → i < K.length ∧ p.1 = q i := by
    intro i p hp
    rw [xws_get] at hp
    cases hk : K[i]? with
    | none => rw [hk] at hp; cases hp
    | some k => rw [hk] at hp; cases hp; exact ⟨xlt hk, rfl⟩
  refine ⟨fun i j p r hp hr he => ?_, fun k r hr => ?_⟩
  · obtain ⟨a1, a2⟩ := key i p hp
    obtain ⟨b1, b2⟩ := key j r hr
    exact h i j a1 b1 (by rw [← a2, ← b2]; exact he)
  · obtain ⟨a1, a2⟩ := key k r hr
    exact ⟨k, a1, a2.symm⟩
theorem xfv_sr {q : Nat → Nat} {σ : St} {i j v : Nat} {f : Nat → Int32} {f0 : Nat × Nat} (h1 : xv i j ≠ v) : xfv q (sr σ v f) i j f0 = xfv q σ i j f0 := by
  unfold xfv
  rw [sr_ne σ f h1, sr_2]
theorem xfv_srl {q : Nat → Nat} {σ : St} {i j v : Nat} {f : Nat → Int64} {f0 : Nat × Nat} (h1 : xv i j ≠ v) : xfv q (srl σ v f) i j f0 = xfv q σ i j f0 := by
  unfold xfv
  rw [srl_ne σ f h1, srl_1]
theorem xmi {q : Nat → Nat} {σ σ' : St} {i : Nat} {l : List (Nat × Nat)} (h : ∀ j f0, l[j]? = some f0 → xfv q σ' i j f0 = xfv q σ i j f0) : l.mapIdx (fun j f => xfv q σ' i j f) = l.mapIdx (fun j f => xfv q σ i j f) := by
  apply List.ext_getElem?
  intro j
  rw [List.getElem?_mapIdx, List.getElem?_mapIdx]
  cases hj : l[j]? with
  | none => rw [Option.map_none, Option.map_none]
  | some f0 => rw [Option.map_some, Option.map_some, h j f0 hj]
theorem xms {q : Nat → Nat} {σ σ' : St} {i k : Nat} {l : List (Nat × Nat)} {f1 : Nat × Nat} {v : Value} (hk : l[k]? = some f1) (hv : xfv q σ' i k f1 = v) (h : ∀ j f0, l[j]? = some f0 → j ≠ k → xfv q σ' i j f0 = xfv q σ i j f0) : l.mapIdx (fun j f => xfv q σ' i j f) = (l.mapIdx (fun j f => xfv q σ i j f)).set k v := by
  apply List.ext_getElem?
  intro j
  rw [List.getElem?_set, List.getElem?_mapIdx, List.getElem?_mapIdx]
  by_cases e : k = j
  · subst e
    rw [if_pos rfl, if_pos (by rw [List.length_mapIdx]; exact xlt hk), hk, Option.map_some, hv]
  · rw [if_neg e]
    cases hj : l[j]? with
    | none => rw [Option.map_none, Option.map_none]
    | some f0 => rw [Option.map_some, Option.map_some, h j f0 hj (fun e2 => e e2.symm)]
def xfl (k : Lk) : Nat := match k with
  | .inl a => a.2.length
  | .inr _ => 0
theorem xen_sr {cA : Nat → ClassId} {q : Nat → Nat} {σ : St} {i v : Nat} {f : Nat → Int32} {k : Lk} (hi : i ≠ v) (hf : ∀ j, j < xfl k → xv i j ≠ v) : xen cA q (sr σ v f) i k = xen cA q σ i k := by
  cases k with
  | inl a =>
    unfold xen
    dsimp only
    rw [xmi (fun j f0 hj => xfv_sr (hf j (xlt hj)))]
  | inr b =>
    unfold xen
    dsimp only
    rw [sr_ne σ f hi, sr_2]
theorem xen_srl {cA : Nat → ClassId} {q : Nat → Nat} {σ : St} {i v : Nat} {f : Nat → Int64} {k : Lk} (hi : i ≠ v) (hf : ∀ j, j < xfl k → xv i j ≠ v) : xen cA q (srl σ v f) i k = xen cA q σ i k := by
  cases k with
  | inl a =>
    unfold xen
    dsimp only
    rw [xmi (fun j f0 hj => xfv_srl (hf j (xlt hj)))]
  | inr b =>
    unfold xen
    dsimp only
    rw [srl_ne σ f hi, srl_1]
theorem xws_len (K : List Lk) (cA : Nat → ClassId) (q : Nat → Nat) (σ : St) : (xws K cA q σ).length = K.length := by
  unfold xws; rw [List.length_mapIdx]
theorem xws_same {K : List Lk} {cA : Nat → ClassId} {q : Nat → Nat} {σ σ' : St} {i : Nat} (hne : ∀ k', K[i]? = some k' → xen cA q σ' i k' = xen cA q σ i k') : (xws K cA q σ')[i]? = (xws K cA q σ)[i]? := by
  cases hi : K[i]? with
  | none => rw [xws_get, xws_get, hi, Option.map_none, Option.map_none]
  | some k' => rw [xws_at hi, xws_at hi, hne k' hi]
theorem xws_here {K : List Lk} {cA : Nat → ClassId} {q : Nat → Nat} {σ σ' : St} {o : Nat} {k : Lk} {en : va_E} (hk : K[o]? = some k) (he : xen cA q σ' o k = en) (hl : o < (xws K cA q σ).length) : (xws K cA q σ')[o]? = ((xws K cA q σ).set o (q o, en))[o]? := by
  rw [List.getElem?_set, if_pos rfl, if_pos hl, xws_at hk, he]
theorem xws_set {K : List Lk} {cA : Nat → ClassId} {q : Nat → Nat} {σ σ' : St} {o : Nat} {k : Lk} {en : va_E} (hk : K[o]? = some k) (he : xen cA q σ' o k = en) (hne : ∀ i k', K[i]? = some k' → i ≠ o → xen cA q σ' i k' = xen cA q σ i k') : xws K cA q σ' = (xws K cA q σ).set o (q o, en) := by
  apply List.ext_getElem?
  intro i
  by_cases h : o = i
  · subst h
    exact xws_here hk he (by rw [xws_len]; exact xlt hk)
  · rw [List.getElem?_set, if_neg h]
    exact xws_same (fun k' hi => hne i k' hi (fun e => h e.symm))
theorem xv_big (o j : Nat) : 1000 ≤ xv o j := by unfold xv; omega
theorem xv_inj {o j o' j' : Nat} (h : j < 200) (h' : j' < 200) (e : xv o j = xv o' j') : o = o' ∧ j = j' := by unfold xv at e; omega
theorem xfl_le {K : List Lk} (ok : xok K) {i : Nat} {k : Lk} (h : K[i]? = some k) : xfl k ≤ 200 := by
  cases k with
  | inl a => exact ok.2 i a h
  | inr b => exact Nat.zero_le _
theorem xws_arr {K : List Lk} (ok : xok K) {cA : Nat → ClassId} {q : Nat → Nat} {σ : St} {o t n : Nat} (hk : K[o]? = some (.inr (t, n))) (ht : t ≠ 1) (f : Nat → Int32) : xws K cA q (sr σ o f) = (xws K cA q σ).set o (q o, .inl (cA t, n, .inl f)) := by
  have ho := xlt hk
  refine xws_set hk ?_ (fun i k' hi hne => xen_sr hne (fun j hj => ?_))
  · unfold xen
    dsimp only
    rw [sr_is, if_neg ht]
  · have := ok.1
    have := xv_big i j
    omega
theorem xws_arrl {K : List Lk} (ok : xok K) {cA : Nat → ClassId} {q : Nat → Nat} {σ : St} {o n : Nat} (hk : K[o]? = some (.inr (1, n))) (f : Nat → Int64) : xws K cA q (srl σ o f) = (xws K cA q σ).set o (q o, .inl (cA 1, n, .inr (.inl f))) := by
  have ho := xlt hk
  refine xws_set hk ?_ (fun i k' hi hne => xen_srl hne (fun j hj => ?_))
  · unfold xen
    dsimp only
    rw [srl_is, if_pos rfl]
  · have := ok.1
    have := xv_big i j
    omega
theorem xfar {K : List Lk} (ok : xok K) {o k i : Nat} {ci t t2 : Nat} {fts : List (Nat × Nat)} {k' : Lk} (hk : K[o]? = some (.inl (ci, fts))) (hf : fts[k]? = some (t, t2)) (hi : K[i]? = some k') (hne : i ≠ o) : i ≠ xv o k ∧ ∀ j, j < xfl k' → xv i j ≠ xv o k := by
  have h1 := ok.1
  have h2 := xlt hi
  have h3 := xv_big o k
  have h4 : fts.length ≤ 200 := ok.2 o _ hk
  have h5 := xlt hf
  have h6 := xfl_le ok hi
  exact ⟨by omega, fun j hj e => hne (xv_inj (by omega) (by omega) e).1⟩
theorem xnear {K : List Lk} (ok : xok K) {o k j : Nat} {ci : Nat} {fts : List (Nat × Nat)} {f0 f1 : Nat × Nat} (hk : K[o]? = some (.inl (ci, fts))) (hf : fts[k]? = some f1) (hj : fts[j]? = some f0) (hne : j ≠ k) : xv o j ≠ xv o k := by
  have h4 : fts.length ≤ 200 := ok.2 o _ hk
  have h5 := xlt hf
  have h6 := xlt hj
  exact fun e => hne (xv_inj (by omega) (by omega) e).2
theorem xws_fld {K : List Lk} (ok : xok K) {cA : Nat → ClassId} {q : Nat → Nat} {σ : St} {o ci k t : Nat} {fts : List (Nat × Nat)} (hk : K[o]? = some (.inl (ci, fts))) (hf : fts[k]? = some (0, t)) (x : Int32) : xws K cA q (si σ (xv o k) 0 x) = (xws K cA q σ).set o (q o, .inr (ci, (fts.mapIdx (fun j f => xfv q σ o j f)).set k (.int x))) := by
  rw [si_sr]
  refine xws_set hk ?_ (fun i k' hi hne => xen_sr (xfar ok hk hf hi hne).1 (xfar ok hk hf hi hne).2)
  unfold xen
  dsimp only
  rw [xms (σ := σ) (k := k) (v := .int x) hf ?_ (fun j f0 hj hne => xfv_sr (xnear ok hk hf hj hne))]
  unfold xfv
  dsimp only
  rw [sr_is]
  rfl
theorem xws_fldl {K : List Lk} (ok : xok K) {cA : Nat → ClassId} {q : Nat → Nat} {σ : St} {o ci k t : Nat} {fts : List (Nat × Nat)} (hk : K[o]? = some (.inl (ci, fts))) (hf : fts[k]? = some (1, t)) (x : Int64) : xws K cA q (sl σ (xv o k) 0 x) = (xws K cA q σ).set o (q o, .inr (ci, (fts.mapIdx (fun j f => xfv q σ o j f)).set k (.long x))) := by
  rw [sl_srl]
  refine xws_set hk ?_ (fun i k' hi hne => xen_srl (xfar ok hk hf hi hne).1 (xfar ok hk hf hi hne).2)
  unfold xen
  dsimp only
  rw [xms (σ := σ) (k := k) (v := .long x) hf ?_ (fun j f0 hj hne => xfv_srl (xnear ok hk hf hj hne))]
  unfold xfv
  dsimp only
  rw [srl_is]
  rfl
theorem xws_fldr {K : List Lk} (ok : xok K) {cA : Nat → ClassId} {q : Nat → Nat} {σ : St} {o ci k t : Nat} {fts : List (Nat × Nat)} (hk : K[o]? = some (.inl (ci, fts))) (hf : fts[k]? = some (3, t)) (x : Int32) : xws K cA q (si σ (xv o k) 0 x) = (xws K cA q σ).set o (q o, .inr (ci, (fts.mapIdx (fun j f => xfv q σ o j f)).set k (.ref (q x.toNatClampNeg)))) := by
  rw [si_sr]
  refine xws_set hk ?_ (fun i k' hi hne => xen_sr (xfar ok hk hf hi hne).1 (xfar ok hk hf hi hne).2)
  unfold xen
  dsimp only
  rw [xms (σ := σ) (k := k) (v := .ref (q x.toNatClampNeg)) hf ?_ (fun j f0 hj hne => xfv_sr (xnear ok hk hf hj hne))]
  unfold xfv
  dsimp only
  rw [sr_is]
  rfl
