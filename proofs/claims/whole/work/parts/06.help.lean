set_option maxRecDepth 20000 in
theorem xacn : Cond.native arraycopyName ∈ lw_g := lw_c1 107 rfl rfl
set_option maxRecDepth 20000 in
theorem xacs : Cond.static arraycopyName ∈ lw_g := lw_c1 106 rfl rfl
set_option maxRecDepth 20000 in
theorem xaci : Cond.initialized "java/lang/System" ∈ lw_g := lw_c1 4 rfl rfl
theorem dJ0_length_8abf5_0 : decode cJ0_length_8abf5 0 = .ok (.aload_n 0, 1) := by decide +kernel
theorem dJ0_length_8abf5_1 : decode cJ0_length_8abf5 1 = .ok (.getfield 9, 3) := by decide +kernel
theorem dJ0_length_8abf5_4 : decode cJ0_length_8abf5 4 = .ok (.arraylength, 1) := by decide +kernel
theorem dJ0_length_8abf5_5 : decode cJ0_length_8abf5 5 = .ok (.aload_n 0, 1) := by decide +kernel
theorem dJ0_length_8abf5_6 : decode cJ0_length_8abf5 6 = .ok (.invokevirtual 335, 3) := by decide +kernel
theorem dJ0_length_8abf5_9 : decode cJ0_length_8abf5 9 = .ok (.ishr, 1) := by decide +kernel
theorem dJ0_length_8abf5_10 : decode cJ0_length_8abf5 10 = .ok (.ireturn, 1) := by decide +kernel
theorem dJ0_charAt_5068e_0 : decode cJ0_charAt_5068e 0 = .ok (.aload_n 0, 1) := by decide +kernel
theorem dJ0_charAt_5068e_1 : decode cJ0_charAt_5068e 1 = .ok (.invokevirtual 492, 3) := by decide +kernel
theorem dJ0_charAt_5068e_4 : decode cJ0_charAt_5068e 4 = .ok (.ifCond .eq 12, 3) := by decide +kernel
theorem dJ0_charAt_5068e_7 : decode cJ0_charAt_5068e 7 = .ok (.aload_n 0, 1) := by decide +kernel
theorem dJ0_charAt_5068e_8 : decode cJ0_charAt_5068e 8 = .ok (.getfield 9, 3) := by decide +kernel
theorem dJ0_charAt_5068e_11 : decode cJ0_charAt_5068e 11 = .ok (.iload_n 1, 1) := by decide +kernel
theorem dJ0_charAt_5068e_12 : decode cJ0_charAt_5068e 12 = .ok (.invokestatic 495, 3) := by decide +kernel
theorem dJ0_charAt_5068e_15 : decode cJ0_charAt_5068e 15 = .ok (.ireturn, 1) := by decide +kernel
theorem dJ0_charAt_5068e_16 : decode cJ0_charAt_5068e 16 = .ok (.aload_n 0, 1) := by decide +kernel
theorem dJ0_charAt_5068e_17 : decode cJ0_charAt_5068e 17 = .ok (.getfield 9, 3) := by decide +kernel
theorem dJ0_charAt_5068e_20 : decode cJ0_charAt_5068e 20 = .ok (.iload_n 1, 1) := by decide +kernel
theorem dJ0_charAt_5068e_21 : decode cJ0_charAt_5068e 21 = .ok (.invokestatic 498, 3) := by decide +kernel
theorem dJ0_charAt_5068e_24 : decode cJ0_charAt_5068e 24 = .ok (.ireturn, 1) := by decide +kernel
theorem dJ0_coder_7d493_0 : decode cJ0_coder_7d493 0 = .ok (.getstatic 38, 3) := by decide +kernel
theorem dJ0_coder_7d493_3 : decode cJ0_coder_7d493 3 = .ok (.ifCond .eq 10, 3) := by decide +kernel
theorem dJ0_coder_7d493_6 : decode cJ0_coder_7d493 6 = .ok (.aload_n 0, 1) := by decide +kernel
theorem dJ0_coder_7d493_7 : decode cJ0_coder_7d493 7 = .ok (.getfield 15, 3) := by decide +kernel
theorem dJ0_coder_7d493_10 : decode cJ0_coder_7d493 10 = .ok (.goto 4, 3) := by decide +kernel
theorem dJ0_coder_7d493_13 : decode cJ0_coder_7d493 13 = .ok (.iconst 1, 1) := by decide +kernel
theorem dJ0_coder_7d493_14 : decode cJ0_coder_7d493 14 = .ok (.ireturn, 1) := by decide +kernel
theorem dJ0_isLatin1_aae02_0 : decode cJ0_isLatin1_aae02 0 = .ok (.getstatic 38, 3) := by decide +kernel
theorem dJ0_isLatin1_aae02_3 : decode cJ0_isLatin1_aae02 3 = .ok (.ifCond .eq 14, 3) := by decide +kernel
theorem dJ0_isLatin1_aae02_6 : decode cJ0_isLatin1_aae02 6 = .ok (.aload_n 0, 1) := by decide +kernel
theorem dJ0_isLatin1_aae02_7 : decode cJ0_isLatin1_aae02 7 = .ok (.getfield 15, 3) := by decide +kernel
theorem dJ0_isLatin1_aae02_10 : decode cJ0_isLatin1_aae02 10 = .ok (.ifCond .ne 7, 3) := by decide +kernel
theorem dJ0_isLatin1_aae02_13 : decode cJ0_isLatin1_aae02 13 = .ok (.iconst 1, 1) := by decide +kernel
theorem dJ0_isLatin1_aae02_14 : decode cJ0_isLatin1_aae02 14 = .ok (.goto 4, 3) := by decide +kernel
theorem dJ0_isLatin1_aae02_17 : decode cJ0_isLatin1_aae02 17 = .ok (.iconst 0, 1) := by decide +kernel
theorem dJ0_isLatin1_aae02_18 : decode cJ0_isLatin1_aae02 18 = .ok (.ireturn, 1) := by decide +kernel
theorem dJ0_checkIndex_df160_0 : decode cJ0_checkIndex_df160 0 = .ok (.iload_n 0, 1) := by decide +kernel
theorem dJ0_checkIndex_df160_1 : decode cJ0_checkIndex_df160 1 = .ok (.iload_n 1, 1) := by decide +kernel
theorem dJ0_checkIndex_df160_2 : decode cJ0_checkIndex_df160 2 = .ok (.getstatic 1053, 3) := by decide +kernel
theorem dJ0_checkIndex_df160_5 : decode cJ0_checkIndex_df160 5 = .ok (.invokestatic 1059, 3) := by decide +kernel
theorem dJ0_checkIndex_df160_8 : decode cJ0_checkIndex_df160 8 = .ok (.pop, 1) := by decide +kernel
theorem dJ0_checkIndex_df160_9 : decode cJ0_checkIndex_df160 9 = .ok (.return_, 1) := by decide +kernel
theorem dJ1_charAt_3b067_0 : decode cJ1_charAt_3b067 0 = .ok (.iload_n 1, 1) := by decide +kernel
theorem dJ1_charAt_3b067_1 : decode cJ1_charAt_3b067 1 = .ok (.aload_n 0, 1) := by decide +kernel
theorem dJ1_charAt_3b067_2 : decode cJ1_charAt_3b067 2 = .ok (.arraylength, 1) := by decide +kernel
theorem dJ1_charAt_3b067_3 : decode cJ1_charAt_3b067 3 = .ok (.invokestatic 9, 3) := by decide +kernel
theorem dJ1_charAt_3b067_6 : decode cJ1_charAt_3b067 6 = .ok (.aload_n 0, 1) := by decide +kernel
theorem dJ1_charAt_3b067_7 : decode cJ1_charAt_3b067 7 = .ok (.iload_n 1, 1) := by decide +kernel
theorem dJ1_charAt_3b067_8 : decode cJ1_charAt_3b067 8 = .ok (.baload, 1) := by decide +kernel
theorem dJ1_charAt_3b067_9 : decode cJ1_charAt_3b067 9 = .ok (.sipush 255, 3) := by decide +kernel
theorem dJ1_charAt_3b067_12 : decode cJ1_charAt_3b067 12 = .ok (.iand, 1) := by decide +kernel
theorem dJ1_charAt_3b067_13 : decode cJ1_charAt_3b067 13 = .ok (.i2c, 1) := by decide +kernel
theorem dJ1_charAt_3b067_14 : decode cJ1_charAt_3b067 14 = .ok (.ireturn, 1) := by decide +kernel
theorem dJ3_checkIndex_8e157_0 : decode cJ3_checkIndex_8e157 0 = .ok (.iload_n 0, 1) := by decide +kernel
theorem dJ3_checkIndex_8e157_1 : decode cJ3_checkIndex_8e157 1 = .ok (.ifCond .lt 8, 3) := by decide +kernel
theorem dJ3_checkIndex_8e157_4 : decode cJ3_checkIndex_8e157 4 = .ok (.iload_n 0, 1) := by decide +kernel
theorem dJ3_checkIndex_8e157_5 : decode cJ3_checkIndex_8e157 5 = .ok (.iload_n 1, 1) := by decide +kernel
theorem dJ3_checkIndex_8e157_6 : decode cJ3_checkIndex_8e157 6 = .ok (.if_icmp .lt 10, 3) := by decide +kernel
theorem dJ3_checkIndex_8e157_9 : decode cJ3_checkIndex_8e157 9 = .ok (.aload_n 2, 1) := by decide +kernel
theorem dJ3_checkIndex_8e157_10 : decode cJ3_checkIndex_8e157 10 = .ok (.iload_n 0, 1) := by decide +kernel
theorem dJ3_checkIndex_8e157_11 : decode cJ3_checkIndex_8e157 11 = .ok (.iload_n 1, 1) := by decide +kernel
theorem dJ3_checkIndex_8e157_12 : decode cJ3_checkIndex_8e157 12 = .ok (.invokestatic 95, 3) := by decide +kernel
theorem dJ3_checkIndex_8e157_15 : decode cJ3_checkIndex_8e157 15 = .ok (.athrow, 1) := by decide +kernel
theorem dJ3_checkIndex_8e157_16 : decode cJ3_checkIndex_8e157 16 = .ok (.iload_n 0, 1) := by decide +kernel
theorem dJ3_checkIndex_8e157_17 : decode cJ3_checkIndex_8e157 17 = .ok (.ireturn, 1) := by decide +kernel
def xrm (r : Room) (a b : Nat) : Room := { frames := r.frames + a, cells := 0, slots := 0, locals := r.locals + b }
def rmd (f l a b : Nat) : Nat → Room
  | 0 => { frames := f, cells := 0, slots := 0, locals := l }
  | d + 1 => xrm (rmd f l a b d) a b
theorem rmd_ok (f l a b : Nat) : ∀ d : Nat, (rmd f l a b d).cells = 0 ∧ (rmd f l a b d).slots = 0 ∧ f ≤ (rmd f l a b d).frames ∧ l ≤ (rmd f l a b d).locals
  | 0 => ⟨rfl, rfl, Nat.le_refl _, Nat.le_refl _⟩
  | d + 1 => ⟨rfl, rfl, Nat.le_trans (rmd_ok f l a b d).2.2.1 (Nat.le_add_right _ _), Nat.le_trans (rmd_ok f l a b d).2.2.2 (Nat.le_add_right _ _)⟩
theorem xle1 {x B r a : Nat} (hB : B ≤ r) (h : x ≤ B) : x ≤ r + a := Nat.le_trans h (Nat.le_trans hB (Nat.le_add_right _ _))
def sgb (x : Int32) : Bool := decide (x.toNatClampNeg = 1 ∨ x.toNatClampNeg = 2)
theorem sgb_o {x : Int32} (h : sgb x = true) : x.toNatClampNeg = 1 ∨ x.toNatClampNeg = 2 := of_decide_eq_true h
def cpb (sp dp n : Int32) (n0 n1 : Nat) : Bool := decide (¬ sp < 0 ∧ ¬ dp < 0 ∧ ¬ n < 0 ∧ sp.toNatClampNeg + n.toNatClampNeg ≤ n0 ∧ dp.toNatClampNeg + n.toNatClampNeg ≤ n1)
theorem xnarrow_obj {n : String} (a : Nat) : narrow (.object n) (.ref a) = .ref a ∧ fits (.object n) (.ref a) = true := ⟨rfl, rfl⟩
theorem xsw_out {x : Int32} {lo hi : Int} (h : ∀ k : Int, lo ≤ k → k ≤ hi → ¬ x = Int32.ofInt k) : x.toInt < lo ∨ hi < x.toInt := by
  rcases Int.lt_or_le x.toInt lo with h1 | h1
  · exact Or.inl h1
  · rcases Int.lt_or_le hi x.toInt with h2 | h2
    · exact Or.inr h2
    · exact absurd (Int32.ofInt_toInt x).symm (h x.toInt h1 h2)
theorem xlk_out {x : Int32} {d : Int} : ∀ {ps : List (Int × Int)}, (∀ k ∈ ps.map Prod.fst, ¬ x = Int32.ofInt k) → Op.lookupswitch.offset ps d x.toInt = d
  | [], _ => rfl
  | (a, o) :: r, h => by
    rw [Op.lookupswitch.offset_cons, if_neg (fun e => h a (by simp) (by rw [e]; exact (Int32.ofInt_toInt x).symm))]
    exact xlk_out (fun k hk => h k (by simp only [List.map_cons, List.mem_cons]; exact Or.inr hk))
section XH
variable {p : Program} {l : Launch} {e : Env} {R : Room} {s : State} {m : MethodId} {args : Array Value} {below : List Frame} {meth : Method} {c : Code} {H : Heap} {locs : List Loc} {cells slots : Nat} {Q : State → Prop}
variable {K : List Lk} {g : XG} {own : String} {cc : ByteArray} {nL : Nat} {rt : Option FieldType} {σ : St} {pc : Nat} {ls : Array Slot} {rest : List Value}
theorem xx_sw (C : xC K g own cc nL rt p s m args meth c) {ix i : Nat} {tx : String} (hi : xtx[i]? = some (own, ix, tx)) (hdg : decode cc pc = .ok (.ldc_w ix, 3))
    (kk : W p l e R s m args below meth c H locs cells slots Q (F0 m (pc + 3) ls (.ref (g.aK i) :: rest))) : W p l e R s m args below meth c H locs cells slots Q (F0 m pc ls rest) := by
  intro T hT X
  obtain ⟨t, a1, b1⟩ := kk T hT X
  have hZ := C.cs.2.2.1 i _ hi
  exact ⟨t, X.ldcStringW C.1 C.ow (text := tx) (a := g.aK i) hZ.1 hZ.2 (g := F0 m pc ls rest) rfl (by rw [C.2.1]; exact hdg) t a1, b1⟩
/-- a call on a text -/
theorem xc_T {y : MethodName} {bytes : ByteArray} {maxL n ix w : Nat} {ret : Option FieldType} {rm : Room} {As : List Value} {res : Option Value} {σ' : St} {st0 : List Value} (C : xC K g own cc nL rt p s m args meth c) (hW : xW K g s σ H locs) (hw : w < 10) (hM : xM l K g y bytes maxL ret rm (.ref (g.aK w) :: As) σ res σ') (hf : xMf y bytes maxL ret n) (hv : xMv y) (hl : Cond.methodLink own ix y ∈ lw_g) (hcls : y.cls = "java/lang/String")
    (hrc : rm.cells = 0 ∧ rm.slots = 0) (hR : rm.frames + 1 ≤ R.frames ∧ 8 + (maxL + 11) + rm.locals ≤ R.locals) (hls : ls.size = nL) (hn : As.length = n) (hst : st0 = As.reverse ++ .ref (g.aK w) :: rest) (hroom : (rest.map fun v => v.category).sum ≤ 8) (hdg : decode cc pc = .ok (.invokevirtual ix, 3))
    (kk : ∀ (H1 : Heap) (locs1 : List Loc), xW K g s σ' H1 locs1 → W p l e R s m args below meth c H1 locs1 0 0 Q (F0 m (pc + 3) ls (res.toList ++ rest))) : W p l e R s m args below meth c H locs 0 0 Q (F0 m pc ls st0) := by
  have hg : GoodIn lw_g (wsV own ix y.cls y (.code y bytes maxL ret :: lw_g)) := fun w hw => by
    rcases List.mem_append.mp hw with h | h
    · simp only [List.mem_cons, List.not_mem_nil, or_false] at h
      rcases h with rfl | rfl | rfl | rfl
      · exact ⟨hl, lw_g_good _ hl⟩
      · exact ⟨hv.1, lw_g_good _ hv.1⟩
      · exact ⟨hv.2, lw_g_good _ hv.2⟩
      · exact ⟨hf.2.1, lw_g_good _ hf.2.1⟩
    · exact xgood hf w h
  have cw := cwV (R := R) (s := s) (args := args) (own := own) (C := y.cls) (index := ix) (y := y) (bytes := bytes) (maxL := maxL) (ret := ret) (ws := .code y bytes maxL ret :: lw_g) (rm := rm) (mc := 0) (ms := 0) n C.hts hg rfl hrc.1 hrc.2 ⟨rfl, hf.2.2⟩ hR
  have hrecv := vk_recv C.cs.2.1 hw hW.2
  rw [← hcls] at hrecv
  exact xback (y := y) C hW (va_runV (As := As) (rest := rest) ⟨C.1, C.2.1, C.2.2.1, C.ow, C.hts⟩ hM cw ⟨xblind K g _ σ, hrecv, xpre C hW _⟩ rfl hn hls hst (lv_room hroom) hdg ⟨Nat.zero_le _, Nat.zero_le _⟩) kk
/-- rows of the system copied -/
theorem xcp_i {o1 o2 n1 n2 ix : Nat} {sp dp n : Int32} (C : xC K g own cc nL rt p s m args meth c) (hW : xW K g s σ H locs) (h1 : K[o1]? = some (.inr (0, n1))) (h2 : K[o2]? = some (.inr (0, n2))) (hg : cpb sp dp n n1 n2 = true) (hl : Cond.methodLink own ix ⟨"java/lang/System", "arraycopy", "(Ljava/lang/Object;ILjava/lang/Object;II)V"⟩ ∈ lw_g) (hfr : 1 ≤ R.frames) (hlo : 60 ≤ R.locals) (hls : ls.size = nL) (hroom : (rest.map fun v => v.category).sum ≤ 8) (hdg : decode cc pc = .ok (.invokestatic ix, 3))
    (kk : ∀ (H1 : Heap) (locs1 : List Loc), xW K g s (sr σ o2 (va_cpy (σ.1 o1) (σ.1 o2) sp.toNatClampNeg dp.toNatClampNeg n.toNatClampNeg)) H1 locs1 → W p l e R s m args below meth c H1 locs1 cells slots Q (F0 m (pc + 3) ls rest)) : W p l e R s m args below meth c H locs cells slots Q (F0 m pc ls (.int n :: .int dp :: .ref (g.q o2) :: .int sp :: .ref (g.q o1) :: rest)) := by
  obtain ⟨a1, a2, a3, a4, a5⟩ := of_decide_eq_true hg
  have hlt : nativeFrameWords "java/lang/System" "arraycopy" 5 + 11 ≤ 52 := by decide +kernel
  exact va_copyi C.1 C.2.1 (C.2.2.1.trans hls.symm) C.ow (C.hts _ hl) (C.hts _ xacn) (C.hts _ xacs) (C.hts _ xaci) C.hK hW.1 (C.hD σ) hW.2 o1 o2 0 0 (xari h1 (by decide)) (xari h2 (by decide)) rfl rfl rfl a1 a2 a3 a4 a5 (fun _ _ => rfl) hfr (by omega) hdg
    (fun H1 locs1 b1 _ b3 => kk H1 locs1 ⟨by rw [xws_arr C.ok h2 (by decide)]; exact b1, b3⟩)
theorem xcp_l {o1 o2 n1 n2 ix : Nat} {sp dp n : Int32} (C : xC K g own cc nL rt p s m args meth c) (hW : xW K g s σ H locs) (h1 : K[o1]? = some (.inr (1, n1))) (h2 : K[o2]? = some (.inr (1, n2))) (hg : cpb sp dp n n1 n2 = true) (hl : Cond.methodLink own ix ⟨"java/lang/System", "arraycopy", "(Ljava/lang/Object;ILjava/lang/Object;II)V"⟩ ∈ lw_g) (hfr : 1 ≤ R.frames) (hlo : 60 ≤ R.locals) (hls : ls.size = nL) (hroom : (rest.map fun v => v.category).sum ≤ 8) (hdg : decode cc pc = .ok (.invokestatic ix, 3))
    (kk : ∀ (H1 : Heap) (locs1 : List Loc), xW K g s (srl σ o2 (va_cpy (σ.2 o1) (σ.2 o2) sp.toNatClampNeg dp.toNatClampNeg n.toNatClampNeg)) H1 locs1 → W p l e R s m args below meth c H1 locs1 cells slots Q (F0 m (pc + 3) ls rest)) : W p l e R s m args below meth c H locs cells slots Q (F0 m pc ls (.int n :: .int dp :: .ref (g.q o2) :: .int sp :: .ref (g.q o1) :: rest)) := by
  obtain ⟨a1, a2, a3, a4, a5⟩ := of_decide_eq_true hg
  have hlt : nativeFrameWords "java/lang/System" "arraycopy" 5 + 11 ≤ 52 := by decide +kernel
  exact va_copyl C.1 C.2.1 (C.2.2.1.trans hls.symm) C.ow (C.hts _ hl) (C.hts _ xacn) (C.hts _ xacs) (C.hts _ xaci) C.hK hW.1 (C.hD σ) hW.2 o1 o2 1 1 (xarl h1) (xarl h2) rfl rfl rfl a1 a2 a3 a4 a5 (fun _ _ => rfl) hfr (by omega) hdg
    (fun H1 locs1 b1 _ b3 => kk H1 locs1 ⟨by rw [xws_arrl C.ok h2]; exact b1, b3⟩)
/-- a static row copied into a row of the system -/
theorem xcp_t {k o2 n2 ix : Nat} {en : String × String × List Int32} {sp dp n : Int32} (C : xC K g own cc nL rt p s m args meth c) (hW : xW K g s σ H locs) (hi : xst[k]? = some en) (h2 : K[o2]? = some (.inr (0, n2))) (hg : cpb sp dp n en.2.2.length n2 = true) (hl : Cond.methodLink own ix ⟨"java/lang/System", "arraycopy", "(Ljava/lang/Object;ILjava/lang/Object;II)V"⟩ ∈ lw_g) (hfr : 1 ≤ R.frames) (hlo : 60 ≤ R.locals) (hls : ls.size = nL) (hroom : (rest.map fun v => v.category).sum ≤ 8) (hdg : decode cc pc = .ok (.invokestatic ix, 3))
    (kk : ∀ (H1 : Heap) (locs1 : List Loc), xW K g s (sr σ o2 (va_cpy (fun j => en.2.2.getD j 0) (σ.1 o2) sp.toNatClampNeg dp.toNatClampNeg n.toNatClampNeg)) H1 locs1 → W p l e R s m args below meth c H1 locs1 cells slots Q (F0 m (pc + 3) ls rest)) : W p l e R s m args below meth c H locs cells slots Q (F0 m pc ls (.int n :: .int dp :: .ref (g.q o2) :: .int sp :: .ref (g.ts k) :: rest)) := by
  obtain ⟨a1, a2, a3, a4, a5⟩ := of_decide_eq_true hg
  have nn : ∀ z : Int32, ¬ z < 0 → z.toInt = (z.toNatClampNeg : Int) := by
    intro z hz
    have hz0 : (0 : Int) ≤ z.toInt := by
      have := Int32.not_lt.mp hz
      simpa using Int32.le_iff_toInt_le.mp this
    show z.toInt = ((z.toInt.toNat : Nat) : Int)
    omega
  have ha1 := xari (g := g) (σ := σ) h2 (by decide)
  have hD := C.hD σ
  have hlt : nativeFrameWords "java/lang/System" "arraycopy" 5 + 11 ≤ 52 := by decide +kernel
  intro T hT X
  obtain ⟨scr, hs1, hs2, hs3, hs4, -, hs5, hs7⟩ := (C.cs.1 k en hi).2
  have hc0 : H[g.ts k]? = some scr := by rw [hW.2.2.1 _ (Array.getElem?_eq_some_iff.mp hs1).1 hs7]; exact hs1
  have hc1 : H[g.q o2]? = some (vp_cell (g.cA 0) (n2, .inl (σ.1 o2))) := hW.1 o2 _ ha1
  obtain ⟨hs6, k0, hk0, cm0, hkk0⟩ := hs2
  obtain ⟨-, k1, hk1, cm1, hkk1⟩ := (C.hK.2 0 (g.cA 0, .int) rfl).1 n2 (fun j => .int (σ.1 o2 j))
  obtain ⟨vm', X', step⟩ := X.arraycopy C.1 C.ow (C.hts _ hl) (C.hts _ xacn) (C.hts _ xacs) (C.hts _ xaci) (src := g.ts k) (dst := g.q o2) (cs := scr) (cd := vp_cell (g.cA 0) (n2, .inl (σ.1 o2))) (srcPos := sp) (destPos := dp) (n := n) (by rw [hT]; exact hc0) (by rw [hT]; exact hc1)
    hs6 (fun _ h => by cases h) hs3 (fun h => by cases h) hk0 hk1 hkk0 hkk1 (by simp [refKind]) a1 a2 a3
    (by rw [nn sp a1, nn n a3]; omega)
    (by rw [nn dp a2, nn n a3]; show ¬ _ > ((arrV (g.cA 0) n2 (fun j => .int (σ.1 o2 j))).slots.size : Int); rw [arrV_size]; omega)
    (fun vm₁ _ i hi => by
      have e : scr.slots.getD (sp.toNatClampNeg + i) .null = .int (en.2.2.getD (sp.toNatClampNeg + i) 0) := by
        rw [Array.getD_eq_getD_getElem?, hs5 _ (by omega)]
        rfl
      refine ⟨?_, ?_⟩
      · rw [e]
        rfl
      · rw [e]
        exact trivial)
    (g := F0 m pc ls (.int n :: .int dp :: .ref (g.q o2) :: .int sp :: .ref (g.ts k) :: rest)) rfl (by rw [C.2.2.1]; exact hls) (rest := rest) rfl (by rw [C.2.1]; exact hdg) hfr (by show 2 * 0 + _ + _ ≤ _; omega)
  have e1 : copied scr (vp_cell (g.cA 0) (n2, .inl (σ.1 o2))) sp dp n = vp_cell (g.cA 0) (n2, .inl (va_cpy (fun j => en.2.2.getD j 0) (σ.1 o2) sp.toNatClampNeg dp.toNatClampNeg n.toNatClampNeg)) := va_copiedX (fun z => .int z) scr (g.cA 0) (fun j => en.2.2.getD j 0) (σ.1 o2) hs5 a4
  rw [e1] at X' step
  have hl2 : g.q o2 < H.size := (Array.getElem?_eq_some_iff.mp hc1).1
  have hheap : ((T.setVm vm').setCell (g.q o2) (vp_cell (g.cA 0) (n2, .inl (va_cpy (fun j => en.2.2.getD j 0) (σ.1 o2) sp.toNatClampNeg dp.toNatClampNeg n.toNatClampNeg)))).heap = H.setIfInBounds (g.q o2) (vp_cell (g.cA 0) (n2, .inl (va_cpy (fun j => en.2.2.getD j 0) (σ.1 o2) sp.toNatClampNeg dp.toNatClampNeg n.toNatClampNeg))) := by rw [← hT]; rfl
  have oq : ∀ q : Nat, q ≠ g.q o2 → (H.setIfInBounds (g.q o2) (vp_cell (g.cA 0) (n2, .inl (va_cpy (fun j => en.2.2.getD j 0) (σ.1 o2) sp.toNatClampNeg dp.toNatClampNeg n.toNatClampNeg))))[q]? = H[q]? := fun q hq => by simp [Array.getElem?_setIfInBounds, Ne.symm hq]
  obtain ⟨t, b1, b2⟩ := kk _ _ ⟨by rw [xws_arr C.ok h2 (by decide)]; exact hW.1.set hD ha1 (show (H.setIfInBounds (g.q o2) _)[g.q o2]? = some _ by simp [Array.getElem?_setIfInBounds, hl2]) oq, ⟨by simp; exact hW.2.1, fun q g1 g2 => by
      rw [oq q (fun e => g2 (by rw [e]; exact hD.2 o2 _ ha1))]
      exact hW.2.2.1 q g1 g2, fun q hq => by
      rcases List.mem_append.mp hq with h | h
      · exact hW.2.2.2 q h
      · obtain ⟨z, -, hz⟩ := List.mem_map.mp h
        rw [← hz]
        exact hD.2 o2 _ ha1⟩⟩ _ hheap X'
  exact ⟨t, step t b1, b2⟩
def lmin (x y : Int64) : Int64 := if y < x then y else x
theorem xmm_max {ix : Nat} {x y : Int32} (C : xC K g own cc nL rt p s m args meth c) (hW : xW K g s σ H locs) (hl : Cond.methodLink own ix yJ9_max_7cf53 ∈ lw_g) (hfr : 1 ≤ R.frames) (hlo : 60 ≤ R.locals) (hls : ls.size = nL) (hroom : (rest.map fun v => v.category).sum ≤ 8) (hdg : decode cc pc = .ok (.invokestatic ix, 3))
    (kk : W p l e R s m args below meth c H locs 0 0 Q (F0 m (pc + 3) ls (.int (imax x y) :: rest))) : W p l e R s m args below meth c H locs 0 0 Q (F0 m pc ls (.int y :: .int x :: rest)) :=
  va_mmax C.1 C.2.1 (C.2.2.1.trans hls.symm) C.ow (C.hts _ hl) (C.hts _ mt_J9_max_7cf53) (C.hts _ cl_J9.1) (C.hts _ mf_J9_max_7cf53.1) hfr (by omega) (Nat.zero_le _) (Nat.zero_le _) hdg kk
theorem xmm_min {ix : Nat} {x y : Int32} (C : xC K g own cc nL rt p s m args meth c) (hW : xW K g s σ H locs) (hl : Cond.methodLink own ix yJ9_min_7cf53 ∈ lw_g) (hfr : 1 ≤ R.frames) (hlo : 60 ≤ R.locals) (hls : ls.size = nL) (hroom : (rest.map fun v => v.category).sum ≤ 8) (hdg : decode cc pc = .ok (.invokestatic ix, 3))
    (kk : W p l e R s m args below meth c H locs 0 0 Q (F0 m (pc + 3) ls (.int (imin x y) :: rest))) : W p l e R s m args below meth c H locs 0 0 Q (F0 m pc ls (.int y :: .int x :: rest)) :=
  va_mmin C.1 C.2.1 (C.2.2.1.trans hls.symm) C.ow (C.hts _ hl) (C.hts _ mt_J9_min_7cf53) (C.hts _ cl_J9.1) (C.hts _ mf_J9_min_7cf53.1) hfr (by omega) (Nat.zero_le _) (Nat.zero_le _) hdg kk
theorem xmm_minl {ix : Nat} {x y : Int64} (C : xC K g own cc nL rt p s m args meth c) (hW : xW K g s σ H locs) (hl : Cond.methodLink own ix yJ9_min_f86c9 ∈ lw_g) (hfr : 1 ≤ R.frames) (hlo : 60 ≤ R.locals) (hls : ls.size = nL) (hroom : (rest.map fun v => v.category).sum ≤ 8) (hdg : decode cc pc = .ok (.invokestatic ix, 3))
    (kk : W p l e R s m args below meth c H locs 0 0 Q (F0 m (pc + 3) ls (.long (lmin x y) :: rest))) : W p l e R s m args below meth c H locs 0 0 Q (F0 m pc ls (.long y :: .long x :: rest)) := by
  intro T hT X
  obtain ⟨vm', X', st⟩ := X.mathMinLH C.1 C.ow (C.hts _ hl) (C.hts _ mt_J9_min_f86c9) (C.hts _ cl_J9.1) (C.hts _ mf_J9_min_f86c9.1) (g := F0 m pc ls (.long y :: .long x :: rest)) rfl (hls.trans C.2.2.1.symm) rfl (by rw [C.2.1]; exact hdg) hfr (by have := lv_room (m := m) (pc := pc) (ls := ls) (rest := .long y :: .long x :: rest) hroom; omega) (Nat.zero_le _) (Nat.zero_le _)
  obtain ⟨t, a1, b1⟩ := kk (T.setVm vm') hT X'
  exact ⟨t, st t a1, b1⟩
end XH
theorem xtb_ok : ∀ w, w < 10 → ∀ j, j < 50 → (((xtb.getD w []).getD j 0 &&& 255).toUInt32 % 65536).toInt32 = (xtb.getD w []).getD j 0 ∧ xtl.getD w 0 ≤ 50 := by decide +kernel
section XT
variable {p : Program} {l : Launch} {e : Env} {R : Room} {s : State} {m : MethodId} {args : Array Value} {below : List Frame} {meth : Method} {c : Code} {H : Heap} {locs : List Loc} {Q : State → Prop}
variable {K : List Lk} {g : XG} {own : String} {cc : ByteArray} {nL : Nat} {rt : Option FieldType} {σ : St} {pc : Nat} {ls : Array Slot} {rest : List Value}
theorem xr_n {v : Int32} {ty : FieldType} (C : xC K g own cc nL (some ty) p s m args meth c) (hW : xW K g s σ H locs) (hn : narrow ty (.int v) = .int v) (hdg : decode cc pc = .ok (.ireturn, 1)) : W p l e R s m args below meth c H locs 0 0 (MQ below (xPost K g (some (.int v)) σ) args s 0 0 (xA K g.q)) (F0 m pc ls [.int v]) :=
  W.zret C.1 C.2.1 C.ret hn (fun t ht hw => ⟨rfl, by rw [ht]; exact hW.1, hW.2.F ht⟩) hW.2.2.2 hdg C.lk
theorem m_coder (w : Nat) (hw : w < 10) (σ : St) : xM l K g yJ0_coder_7d493 cJ0_coder_7d493 1 (some .byte) { frames := 0, cells := 0, slots := 0, locals := 0 } [.ref (g.aK w)] σ (some (.int 0)) σ := by
  refine xmet pn_J0 rfl (Nat.le_of_ble_eq_true rfl) (lv := [(0, .ref (g.aK w))]) rfl (fun p e s m args below meth c ls C hW hl => ?_)
  have hx := C.1
  have hb := C.2.1
  refine va_gets hx hb C.cs.2.2.2.2.1 hW.2 C.ow (C.hts _ fs_J0_38) (fun _ h9 => h9) dJ0_coder_7d493_0 ?_
  refine lv_if_eq (tgt := 13) hx hb dJ0_coder_7d493_3 (by decide) (fun c1 => absurd c1 (by decide)) (fun c1 => ?_)
  refine lv_aload_n hx hb dJ0_coder_7d493_6 rfl (lv_at hl 0 rfl) ?_
  refine vk_getf hx hb (C.cs.2.1.1 w hw).2.1 hW.2 C.ow (C.hts _ fs_J0_15) (fun _ h9 => h9) dJ0_coder_7d493_7 ?_
  refine lv_goto (tgt := 14) hx hb dJ0_coder_7d493_10 (by decide) ?_
  exact xr_n C hW rfl dJ0_coder_7d493_14
theorem m_isLatin1 (w : Nat) (hw : w < 10) (σ : St) : xM l K g yJ0_isLatin1_aae02 cJ0_isLatin1_aae02 1 (some .boolean) { frames := 0, cells := 0, slots := 0, locals := 0 } [.ref (g.aK w)] σ (some (.int 1)) σ := by
  refine xmet pn_J0 rfl (Nat.le_of_ble_eq_true rfl) (lv := [(0, .ref (g.aK w))]) rfl (fun p e s m args below meth c ls C hW hl => ?_)
  have hx := C.1
  have hb := C.2.1
  refine va_gets hx hb C.cs.2.2.2.2.1 hW.2 C.ow (C.hts _ fs_J0_38) (fun _ h9 => h9) dJ0_isLatin1_aae02_0 ?_
  refine lv_if_eq (tgt := 17) hx hb dJ0_isLatin1_aae02_3 (by decide) (fun c1 => absurd c1 (by decide)) (fun c1 => ?_)
  refine lv_aload_n hx hb dJ0_isLatin1_aae02_6 rfl (lv_at hl 0 rfl) ?_
  refine vk_getf hx hb (C.cs.2.1.1 w hw).2.1 hW.2 C.ow (C.hts _ fs_J0_15) (fun _ h9 => h9) dJ0_isLatin1_aae02_7 ?_
  refine lv_if_ne (tgt := 17) hx hb dJ0_isLatin1_aae02_10 (by decide) (fun c1 => absurd rfl c1) (fun c1 => ?_)
  refine lv_iconst (v := 1) hx hb dJ0_isLatin1_aae02_13 rfl ?_
  refine lv_goto (tgt := 18) hx hb dJ0_isLatin1_aae02_14 (by decide) ?_
  exact xr_n C hW rfl dJ0_isLatin1_aae02_18
theorem m_length (w : Nat) (hw : w < 10) (σ : St) : xM l K g yJ0_length_8abf5 cJ0_length_8abf5 1 (some .int) { frames := 1, cells := 0, slots := 0, locals := 20 } [.ref (g.aK w)] σ (some (.int (nI (xtl.getD w 0)))) σ := by
  refine xmet pn_J0 rfl (Nat.le_of_ble_eq_true rfl) (lv := [(0, .ref (g.aK w))]) rfl (fun p e s m args below meth c ls C hW hl => ?_)
  have hx := C.1
  have hb := C.2.1
  refine lv_aload_n hx hb dJ0_length_8abf5_0 rfl (lv_at hl 0 rfl) ?_
  refine vk_getf hx hb (C.cs.2.1.1 w hw).2.2.1 hW.2 C.ow (C.hts _ fs_J0_9) (fun _ h9 => h9) dJ0_length_8abf5_1 ?_
  refine va_tlen (v := nI (xtl.getD w 0)) hx hb (C.cs.2.1.1 w hw).2.2.2 hW.2 rfl dJ0_length_8abf5_4 ?_
  refine lv_aload_n hx hb dJ0_length_8abf5_5 rfl (lv_at hl 0 rfl) ?_
  refine xc_T (As := []) (rest := [.int (nI (xtl.getD w 0))]) C hW hw (m_coder w hw σ) mf_J0_coder_7d493 mv_J0_coder_7d493 ml_J0_335 rfl ⟨rfl, rfl⟩ ⟨Nat.le_of_ble_eq_true rfl, Nat.le_of_ble_eq_true rfl⟩ hl.1 rfl rfl (Nat.le_of_ble_eq_true rfl) dJ0_length_8abf5_6 (fun H locs hW => W.eq (g2 := F0 m 9 ls [.int 0, .int (nI (xtl.getD w 0))]) rfl ?_)
  refine lv_ishr hx hb dJ0_length_8abf5_9 ?_
  rw [sb_shr0]
  exact xr_i C hW dJ0_length_8abf5_10
theorem m_ci3 (i n : Int32) (f : Value) (hf : f = .null ∨ ∃ t, f = .ref t) (h1 : ¬ i < 0) (h2 : i < n) (σ : St) : xM l K g yJ3_checkIndex_8e157 cJ3_checkIndex_8e157 3 (some .int) { frames := 0, cells := 0, slots := 0, locals := 0 } [.int i, .int n, f] σ (some (.int i)) σ := by
  refine xmet pn_J3 rfl (by rcases hf with rfl | ⟨t, rfl⟩ <;> exact Nat.le_of_ble_eq_true rfl) (lv := [(0, .int i), (1, .int n), (2, f)]) rfl (fun p e s m args below meth c ls C hW hl => ?_)
  have hx := C.1
  have hb := C.2.1
  refine lv_iload_n hx hb dJ3_checkIndex_8e157_0 rfl (lv_at hl 0 rfl) ?_
  refine lv_if_lt (tgt := 9) hx hb dJ3_checkIndex_8e157_1 (by decide) (fun c1 => absurd c1 h1) (fun c1 => ?_)
  refine lv_iload_n hx hb dJ3_checkIndex_8e157_4 rfl (lv_at hl 0 rfl) ?_
  refine lv_iload_n hx hb dJ3_checkIndex_8e157_5 rfl (lv_at hl 1 rfl) ?_
  refine lv_icmp_lt (tgt := 16) hx hb dJ3_checkIndex_8e157_6 (by decide) (fun c1 => ?_) (fun c1 => absurd h2 c1)
  refine lv_iload_n hx hb dJ3_checkIndex_8e157_16 rfl (lv_at hl 0 rfl) ?_
  exact xr_i C hW dJ3_checkIndex_8e157_17
theorem m_ci2 (i n : Int32) (h1 : ¬ i < 0) (h2 : i < n) (σ : St) : xM l K g yJ0_checkIndex_df160 cJ0_checkIndex_df160 2 none { frames := 1, cells := 0, slots := 0, locals := 22 } [.int i, .int n] σ none σ := by
  refine xmet pn_J0 rfl (Nat.le_of_ble_eq_true rfl) (lv := [(0, .int i), (1, .int n)]) rfl (fun p e s m args below meth c ls C hW hl => ?_)
  have hx := C.1
  have hb := C.2.1
  refine lv_iload_n hx hb dJ0_checkIndex_df160_0 rfl (lv_at hl 0 rfl) ?_
  refine lv_iload_n hx hb dJ0_checkIndex_df160_1 rfl (lv_at hl 1 rfl) ?_
  rcases C.cs.2.2.2.2.2 with hz | ⟨t, hz⟩
  · refine va_gets hx hb hz hW.2 C.ow (C.hts _ fs_J0_1053) (fun _ h9 => h9) dJ0_checkIndex_df160_2 ?_
    refine xc_S (As := [.int i, .int n, .null]) (rest := []) C hW (m_ci3 i n _ (Or.inl rfl) h1 h2 σ) mf_J3_checkIndex_8e157 mt_J3_checkIndex_8e157 ml_J0_1059 ⟨rfl, rfl⟩ ⟨Nat.le_of_ble_eq_true rfl, Nat.le_of_ble_eq_true rfl⟩ hl.1 rfl rfl (Nat.le_of_ble_eq_true rfl) dJ0_checkIndex_df160_5 (fun H locs hW => W.eq (g2 := F0 m 8 ls [.int i]) rfl ?_)
    refine lv_pop hx hb dJ0_checkIndex_df160_8 rfl ?_
    exact xr_v C hW dJ0_checkIndex_df160_9
  · refine va_gets hx hb hz hW.2 C.ow (C.hts _ fs_J0_1053) (fun _ h9 => h9) dJ0_checkIndex_df160_2 ?_
    refine xc_S (As := [.int i, .int n, .ref t]) (rest := []) C hW (m_ci3 i n _ (Or.inr ⟨t, rfl⟩) h1 h2 σ) mf_J3_checkIndex_8e157 mt_J3_checkIndex_8e157 ml_J0_1059 ⟨rfl, rfl⟩ ⟨Nat.le_of_ble_eq_true rfl, Nat.le_of_ble_eq_true rfl⟩ hl.1 rfl rfl (Nat.le_of_ble_eq_true rfl) dJ0_checkIndex_df160_5 (fun H locs hW => W.eq (g2 := F0 m 8 ls [.int i]) rfl ?_)
    refine lv_pop hx hb dJ0_checkIndex_df160_8 rfl ?_
    exact xr_v C hW dJ0_checkIndex_df160_9
theorem m_latin (w : Nat) (hw : w < 10) (i : Int32) (hi : ib i (xtl.getD w 0) = true) (σ : St) : xM l K g yJ1_charAt_3b067 cJ1_charAt_3b067 2 (some .char) { frames := 2, cells := 0, slots := 0, locals := 43 } [.ref (g.aV w), .int i] σ (some (.int ((xtb.getD w []).getD i.toNatClampNeg 0))) σ := by
  refine xmet pn_J1 rfl (Nat.le_of_ble_eq_true rfl) (lv := [(0, .ref (g.aV w)), (1, .int i)]) rfl (fun p e s m args below meth c ls C hW hl => ?_)
  have hx := C.1
  have hb := C.2.1
  have hin := ib_in hi
  have hlen := (xtb_ok w hw 0 (by decide)).2
  obtain ⟨j, hj, rfl⟩ := vp_in_of hin (by omega)
  have hjc : (nI j).toNatClampNeg = j := nI_clamp (by omega)
  refine lv_iload_n hx hb dJ1_charAt_3b067_0 rfl (lv_at hl 1 rfl) ?_
  refine lv_aload_n hx hb dJ1_charAt_3b067_1 rfl (lv_at hl 0 rfl) ?_
  refine va_tlen (v := nI (xtl.getD w 0)) hx hb (C.cs.2.1.1 w hw).2.2.2 hW.2 rfl dJ1_charAt_3b067_2 ?_
  refine xc_S (As := [.int (nI j), .int (nI (xtl.getD w 0))]) (rest := []) C hW (m_ci2 (nI j) (nI (xtl.getD w 0)) (nI_pos (by omega)) (nI_lt hj (by omega)) σ) mf_J0_checkIndex_df160 mt_J0_checkIndex_df160 ml_J1_9 ⟨rfl, rfl⟩ ⟨Nat.le_of_ble_eq_true rfl, Nat.le_of_ble_eq_true rfl⟩ hl.1 rfl rfl (Nat.le_of_ble_eq_true rfl) dJ1_charAt_3b067_3 (fun H locs hW => W.eq (g2 := F0 m 6 ls []) rfl ?_)
  refine lv_aload_n hx hb dJ1_charAt_3b067_6 rfl (lv_at hl 0 rfl) ?_
  refine lv_iload_n hx hb dJ1_charAt_3b067_7 rfl (lv_at hl 1 rfl) ?_
  refine va_tb (v := .int ((xtb.getD w []).getD (nI j).toNatClampNeg 0)) hx hb (C.cs.2.1.1 w hw).2.2.2 hW.2 hin rfl dJ1_charAt_3b067_8 ?_
  refine lv_sipush (v := 255) hx hb dJ1_charAt_3b067_9 rfl ?_
  refine lv_iand hx hb dJ1_charAt_3b067_12 ?_
  have hk := (xtb_ok w hw j (by omega)).1
  rw [hjc]
  refine lv_i2c (v := (xtb.getD w []).getD j 0) hx hb dJ1_charAt_3b067_13 hk ?_
  refine xr_n C hW ?_ dJ1_charAt_3b067_14
  rw [← hk]
  exact pk_nc _
theorem m_charAt (w : Nat) (hw : w < 10) (i : Int32) (hi : ib i (xtl.getD w 0) = true) (σ : St) : xM l K g yJ0_charAt_5068e cJ0_charAt_5068e 2 (some .char) { frames := 3, cells := 0, slots := 0, locals := 64 } [.ref (g.aK w), .int i] σ (some (.int ((xtb.getD w []).getD i.toNatClampNeg 0))) σ := by
  refine xmet pn_J0 rfl (Nat.le_of_ble_eq_true rfl) (lv := [(0, .ref (g.aK w)), (1, .int i)]) rfl (fun p e s m args below meth c ls C hW hl => ?_)
  have hx := C.1
  have hb := C.2.1
  refine lv_aload_n hx hb dJ0_charAt_5068e_0 rfl (lv_at hl 0 rfl) ?_
  refine xc_T (As := []) (rest := []) C hW hw (m_isLatin1 w hw σ) mf_J0_isLatin1_aae02 mv_J0_isLatin1_aae02 ml_J0_492 rfl ⟨rfl, rfl⟩ ⟨Nat.le_of_ble_eq_true rfl, Nat.le_of_ble_eq_true rfl⟩ hl.1 rfl rfl (Nat.le_of_ble_eq_true rfl) dJ0_charAt_5068e_1 (fun H locs hW => W.eq (g2 := F0 m 4 ls [.int 1]) rfl ?_)
  refine lv_if_eq (tgt := 16) hx hb dJ0_charAt_5068e_4 (by decide) (fun c1 => absurd c1 (by decide)) (fun c1 => ?_)
  refine lv_aload_n hx hb dJ0_charAt_5068e_7 rfl (lv_at hl 0 rfl) ?_
  refine vk_getf hx hb (C.cs.2.1.1 w hw).2.2.1 hW.2 C.ow (C.hts _ fs_J0_9) (fun _ h9 => h9) dJ0_charAt_5068e_8 ?_
  refine lv_iload_n hx hb dJ0_charAt_5068e_11 rfl (lv_at hl 1 rfl) ?_
  refine xc_S (As := [.ref (g.aV w), .int i]) (rest := []) C hW (m_latin w hw i hi σ) mf_J1_charAt_3b067 mt_J1_charAt_3b067 ml_J0_495 ⟨rfl, rfl⟩ ⟨Nat.le_of_ble_eq_true rfl, Nat.le_of_ble_eq_true rfl⟩ hl.1 rfl rfl (Nat.le_of_ble_eq_true rfl) dJ0_charAt_5068e_12 (fun H locs hW => W.eq (g2 := F0 m 15 ls [.int ((xtb.getD w []).getD i.toNatClampNeg 0)]) rfl ?_)
  have hin := ib_in hi
  have hlen := (xtb_ok w hw 0 (by decide)).2
  obtain ⟨j, hj, rfl⟩ := vp_in_of hin (by omega)
  have hjc : (nI j).toNatClampNeg = j := nI_clamp (by omega)
  refine xr_n C hW ?_ dJ0_charAt_5068e_15
  rw [hjc, ← (xtb_ok w hw j (by omega)).1]
  exact pk_nc _
theorem xs_len {w ix : Nat} (C : xC K g own cc nL rt p s m args meth c) (hW : xW K g s σ H locs) (hw : w < 10) (hl : Cond.methodLink own ix yJ0_length_8abf5 ∈ lw_g) (hfr : 4 ≤ R.frames) (hlo : 120 ≤ R.locals) (hls : ls.size = nL) (hroom : (rest.map fun v => v.category).sum ≤ 8) (hdg : decode cc pc = .ok (.invokevirtual ix, 3))
    (kk : ∀ (H1 : Heap) (locs1 : List Loc), xW K g s σ H1 locs1 → W p l e R s m args below meth c H1 locs1 0 0 Q (F0 m (pc + 3) ls (.int (nI (xtl.getD w 0)) :: rest))) : W p l e R s m args below meth c H locs 0 0 Q (F0 m pc ls (.ref (g.aK w) :: rest)) :=
  xc_T (As := []) (rest := rest) C hW hw (m_length w hw σ) mf_J0_length_8abf5 mv_J0_length_8abf5 hl rfl ⟨rfl, rfl⟩ ⟨Nat.le_trans (Nat.le_of_ble_eq_true rfl) hfr, Nat.le_trans (Nat.le_of_ble_eq_true rfl) hlo⟩ hls rfl rfl hroom hdg (fun H1 locs1 h => kk H1 locs1 h)
theorem xs_cha {w ix : Nat} {i : Int32} (C : xC K g own cc nL rt p s m args meth c) (hW : xW K g s σ H locs) (hw : w < 10) (hi : ib i (xtl.getD w 0) = true) (hl : Cond.methodLink own ix yJ0_charAt_5068e ∈ lw_g) (hfr : 4 ≤ R.frames) (hlo : 120 ≤ R.locals) (hls : ls.size = nL) (hroom : (rest.map fun v => v.category).sum ≤ 8) (hdg : decode cc pc = .ok (.invokevirtual ix, 3))
    (kk : ∀ (H1 : Heap) (locs1 : List Loc), xW K g s σ H1 locs1 → W p l e R s m args below meth c H1 locs1 0 0 Q (F0 m (pc + 3) ls (.int ((xtb.getD w []).getD i.toNatClampNeg 0) :: rest))) : W p l e R s m args below meth c H locs 0 0 Q (F0 m pc ls (.int i :: .ref (g.aK w) :: rest)) :=
  xc_T (As := [.int i]) (rest := rest) C hW hw (m_charAt w hw i hi σ) mf_J0_charAt_5068e mv_J0_charAt_5068e hl rfl ⟨rfl, rfl⟩ ⟨Nat.le_trans (Nat.le_of_ble_eq_true rfl) hfr, Nat.le_trans (Nat.le_of_ble_eq_true rfl) hlo⟩ hls rfl rfl hroom hdg (fun H1 locs1 h => kk H1 locs1 h)
end XT
