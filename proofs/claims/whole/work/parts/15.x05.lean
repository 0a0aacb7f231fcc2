theorem dX7_countAll_0 : decode cX7_countAll 0 = .ok (.iconst 0, 1) := by decide +kernel
theorem dX7_countAll_1 : decode cX7_countAll 1 = .ok (.istore_n 1, 1) := by decide +kernel
theorem dX7_countAll_2 : decode cX7_countAll 2 = .ok (.iconst 0, 1) := by decide +kernel
theorem dX7_countAll_3 : decode cX7_countAll 3 = .ok (.istore_n 2, 1) := by decide +kernel
theorem dX7_countAll_4 : decode cX7_countAll 4 = .ok (.iconst 0, 1) := by decide +kernel
theorem dX7_countAll_5 : decode cX7_countAll 5 = .ok (.istore_n 3, 1) := by decide +kernel
theorem dX7_countAll_6 : decode cX7_countAll 6 = .ok (.iconst 0, 1) := by decide +kernel
theorem dX7_countAll_7 : decode cX7_countAll 7 = .ok (.istore 4, 2) := by decide +kernel
theorem dX7_countAll_9 : decode cX7_countAll 9 = .ok (.iload 4, 2) := by decide +kernel
theorem dX7_countAll_11 : decode cX7_countAll 11 = .ok (.aload_n 0, 1) := by decide +kernel
theorem dX7_countAll_12 : decode cX7_countAll 12 = .ok (.getfield 17, 3) := by decide +kernel
theorem dX7_countAll_15 : decode cX7_countAll 15 = .ok (.getfield 111, 3) := by decide +kernel
theorem dX7_countAll_18 : decode cX7_countAll 18 = .ok (.if_icmp .ge 60, 3) := by decide +kernel
theorem dX7_countAll_21 : decode cX7_countAll 21 = .ok (.iload_n 1, 1) := by decide +kernel
theorem dX7_countAll_22 : decode cX7_countAll 22 = .ok (.aload_n 0, 1) := by decide +kernel
theorem dX7_countAll_23 : decode cX7_countAll 23 = .ok (.iload 4, 2) := by decide +kernel
theorem dX7_countAll_25 : decode cX7_countAll 25 = .ok (.invokevirtual 84, 3) := by decide +kernel
theorem dX7_countAll_28 : decode cX7_countAll 28 = .ok (.ifCond .eq 7, 3) := by decide +kernel
theorem dX7_countAll_31 : decode cX7_countAll 31 = .ok (.iconst 1, 1) := by decide +kernel
theorem dX7_countAll_32 : decode cX7_countAll 32 = .ok (.goto 4, 3) := by decide +kernel
theorem dX7_countAll_35 : decode cX7_countAll 35 = .ok (.iconst 0, 1) := by decide +kernel
theorem dX7_countAll_36 : decode cX7_countAll 36 = .ok (.iadd, 1) := by decide +kernel
theorem dX7_countAll_37 : decode cX7_countAll 37 = .ok (.istore_n 1, 1) := by decide +kernel
theorem dX7_countAll_38 : decode cX7_countAll 38 = .ok (.iload_n 2, 1) := by decide +kernel
theorem dX7_countAll_39 : decode cX7_countAll 39 = .ok (.aload_n 0, 1) := by decide +kernel
theorem dX7_countAll_40 : decode cX7_countAll 40 = .ok (.iload 4, 2) := by decide +kernel
theorem dX7_countAll_42 : decode cX7_countAll 42 = .ok (.invokevirtual 88, 3) := by decide +kernel
theorem dX7_countAll_45 : decode cX7_countAll 45 = .ok (.ifCond .eq 7, 3) := by decide +kernel
theorem dX7_countAll_48 : decode cX7_countAll 48 = .ok (.iconst 1, 1) := by decide +kernel
theorem dX7_countAll_49 : decode cX7_countAll 49 = .ok (.goto 4, 3) := by decide +kernel
theorem dX7_countAll_52 : decode cX7_countAll 52 = .ok (.iconst 0, 1) := by decide +kernel
theorem dX7_countAll_53 : decode cX7_countAll 53 = .ok (.iadd, 1) := by decide +kernel
theorem dX7_countAll_54 : decode cX7_countAll 54 = .ok (.istore_n 2, 1) := by decide +kernel
theorem dX7_countAll_55 : decode cX7_countAll 55 = .ok (.iload_n 3, 1) := by decide +kernel
theorem dX7_countAll_56 : decode cX7_countAll 56 = .ok (.aload_n 0, 1) := by decide +kernel
theorem dX7_countAll_57 : decode cX7_countAll 57 = .ok (.iload 4, 2) := by decide +kernel
theorem dX7_countAll_59 : decode cX7_countAll 59 = .ok (.invokevirtual 108, 3) := by decide +kernel
theorem dX7_countAll_62 : decode cX7_countAll 62 = .ok (.ifCond .eq 7, 3) := by decide +kernel
theorem dX7_countAll_65 : decode cX7_countAll 65 = .ok (.iconst 1, 1) := by decide +kernel
theorem dX7_countAll_66 : decode cX7_countAll 66 = .ok (.goto 4, 3) := by decide +kernel
theorem dX7_countAll_69 : decode cX7_countAll 69 = .ok (.iconst 0, 1) := by decide +kernel
theorem dX7_countAll_70 : decode cX7_countAll 70 = .ok (.iadd, 1) := by decide +kernel
theorem dX7_countAll_71 : decode cX7_countAll 71 = .ok (.istore_n 3, 1) := by decide +kernel
theorem dX7_countAll_72 : decode cX7_countAll 72 = .ok (.iinc 4 1, 3) := by decide +kernel
theorem dX7_countAll_75 : decode cX7_countAll 75 = .ok (.goto (-66), 3) := by decide +kernel
theorem dX7_countAll_78 : decode cX7_countAll 78 = .ok (.aload_n 0, 1) := by decide +kernel
theorem dX7_countAll_79 : decode cX7_countAll 79 = .ok (.invokevirtual 112, 3) := by decide +kernel
theorem dX7_countAll_82 : decode cX7_countAll 82 = .ok (.iload_n 1, 1) := by decide +kernel
theorem dX7_countAll_83 : decode cX7_countAll 83 = .ok (.iconst 1, 1) := by decide +kernel
theorem dX7_countAll_84 : decode cX7_countAll 84 = .ok (.iload_n 2, 1) := by decide +kernel
theorem dX7_countAll_85 : decode cX7_countAll 85 = .ok (.iadd, 1) := by decide +kernel
theorem dX7_countAll_86 : decode cX7_countAll 86 = .ok (.imul, 1) := by decide +kernel
theorem dX7_countAll_87 : decode cX7_countAll 87 = .ok (.aload_n 0, 1) := by decide +kernel
theorem dX7_countAll_88 : decode cX7_countAll 88 = .ok (.iconst 1, 1) := by decide +kernel
theorem dX7_countAll_89 : decode cX7_countAll 89 = .ok (.iconst 0, 1) := by decide +kernel
theorem dX7_countAll_90 : decode cX7_countAll 90 = .ok (.iconst 0, 1) := by decide +kernel
theorem dX7_countAll_91 : decode cX7_countAll 91 = .ok (.invokevirtual 115, 3) := by decide +kernel
theorem dX7_countAll_94 : decode cX7_countAll 94 = .ok (.iadd, 1) := by decide +kernel
theorem dX7_countAll_95 : decode cX7_countAll 95 = .ok (.istore 4, 2) := by decide +kernel
theorem dX7_countAll_97 : decode cX7_countAll 97 = .ok (.ldc 118, 2) := by decide +kernel
theorem dX7_countAll_99 : decode cX7_countAll 99 = .ok (.iload 4, 2) := by decide +kernel
theorem dX7_countAll_101 : decode cX7_countAll 101 = .ok (.aload_n 0, 1) := by decide +kernel
theorem dX7_countAll_102 : decode cX7_countAll 102 = .ok (.invokevirtual 91, 3) := by decide +kernel
theorem dX7_countAll_105 : decode cX7_countAll 105 = .ok (.ifCond .eq 7, 3) := by decide +kernel
theorem dX7_countAll_108 : decode cX7_countAll 108 = .ok (.iload_n 3, 1) := by decide +kernel
theorem dX7_countAll_109 : decode cX7_countAll 109 = .ok (.goto 4, 3) := by decide +kernel
theorem dX7_countAll_112 : decode cX7_countAll 112 = .ok (.iconst 1, 1) := by decide +kernel
theorem dX7_countAll_113 : decode cX7_countAll 113 = .ok (.imul, 1) := by decide +kernel
theorem dX7_countAll_114 : decode cX7_countAll 114 = .ok (.invokestatic 119, 3) := by decide +kernel
theorem dX7_countAll_117 : decode cX7_countAll 117 = .ok (.ireturn, 1) := by decide +kernel
abbrev rm_X7_countAll : Room := { frames := 24, cells := 0, slots := 0, locals := 1295 }
def f_X7_countAll_53 (N : Nat) (k9 : Int32 → Int32 → Int32 → Int32 → St → Option (Int32 × St)) (x1 : Int32) (x3 : Int32) (x4 : Int32) (t0 : Int32) (t1 : Int32) (σ : St) : Option (Int32 × St) := bo (f_X7_isOfKind x4 σ) (fun r10_ => (if r10_ = 0 then k9 x1 (t0 + t1) (x3 + 0) (x4 + 1) σ else k9 x1 (t0 + t1) (x3 + 1) (x4 + 1) σ))
def f_X7_countAll_36 (N : Nat) (k9 : Int32 → Int32 → Int32 → Int32 → St → Option (Int32 × St)) (x2 : Int32) (x3 : Int32) (x4 : Int32) (t0 : Int32) (t1 : Int32) (σ : St) : Option (Int32 × St) := bo (f_X7_isTail x4 σ) (fun r8_ => (if r8_ = 0 then f_X7_countAll_53 N k9 (t0 + t1) x3 x4 x2 0 σ else f_X7_countAll_53 N k9 (t0 + t1) x3 x4 x2 1 σ))
def f_X7_countAll_113 (N : Nat) (t0 : Int32) (t1 : Int32) (t2 : Int32) (σ : St) : Option (Int32 × St) := some (imin t0 (t1 * t2), σ)
def f_X7_countAll_9 (N : Nat) : Nat → Int32 → Int32 → Int32 → Int32 → St → Option (Int32 × St)
  | 0, _, _, _, _, _ => none
  | n + 1, x1, x2, x3, x4, σ => grd (sgb (σ.1 8601 0)) ((if (σ.1 (1000 + 200 * ((σ.1 8601 0).toNatClampNeg) + 0) 0) ≤ x4 then bo (f_X7_forgetCovers N σ) (fun σ3 => bd (f_X7_coversBehind N 20 1 0 0 σ3) (fun r4_ σ4 => (if (f_X7_hasKind σ4) = 0 then f_X7_countAll_113 N 100001 ((x1 * (1 + x2)) + r4_) 1 σ4 else f_X7_countAll_113 N 100001 ((x1 * (1 + x2)) + r4_) x3 σ4))) else bo (f_X7_isIdea x4 σ) (fun r6_ => (if r6_ = 0 then f_X7_countAll_36 N (f_X7_countAll_9 N n) x2 x3 x4 x1 0 σ else f_X7_countAll_36 N (f_X7_countAll_9 N n) x2 x3 x4 x1 1 σ))))
def f_X7_countAll (N : Nat) (σ : St) : Option (Int32 × St) := f_X7_countAll_9 N N 0 0 0 0 σ
section
variable {p : Program} {l : Launch} {e : Env} {s : State} {m : MethodId} {args : Array Value} {below : List Frame} {meth : Method} {c : Code} {g : XG}
set_option maxRecDepth 4000 in
theorem w_X7_countAll_53 (N : Nat) (k9 : Int32 → Int32 → Int32 → Int32 → St → Option (Int32 × St)) {r : Int32} {σ' : St} (C : xC KX g RX7 cX7_countAll 5 (some .int) p s m args meth c) (hk9 : ∀ (x1 : Int32) (x2 : Int32) (x3 : Int32) (x4 : Int32) (σ : St) (H : Heap) (locs : List Loc) (ls : Array Slot), xW KX g s σ H locs → lv_has ls 5 [(0, .ref (g.q 38)), (1, .int x1), (2, .int x2), (3, .int x3), (4, .int x4)] → k9 x1 x2 x3 x4 σ = some (r, σ') → W p l e rm_X7_countAll s m args below meth c H locs 0 0 (MQ below (xPost KX g (some (.int r)) σ') args s 0 0 (xA KX g.q)) (F0 m 9 ls [])) : ∀ (x1 : Int32) (x3 : Int32) (x4 : Int32) (t0 : Int32) (t1 : Int32) (σ : St) (H : Heap) (locs : List Loc) (ls : Array Slot), xW KX g s σ H locs → lv_has ls 5 [(0, .ref (g.q 38)), (1, .int x1), (3, .int x3), (4, .int x4)] → f_X7_countAll_53 N k9 x1 x3 x4 t0 t1 σ = some (r, σ') → W p l e rm_X7_countAll s m args below meth c H locs 0 0 (MQ below (xPost KX g (some (.int r)) σ') args s 0 0 (xA KX g.q)) (F0 m 53 ls [.int t1, .int t0]) := by
  have hx := C.1
  have hb := C.2.1
  intro x1 x3 x4 t0 t1 σ H locs ls hW hl h
  unfold f_X7_countAll_53 at h
  refine lv_iadd hx hb dX7_countAll_53 ?_
  refine lv_istore_n (lv' := [(2, .int (t0 + t1)), (0, .ref (g.q 38)), (1, .int x1), (3, .int x3), (4, .int x4)]) hx hb dX7_countAll_54 rfl hl (Nat.le_of_ble_eq_true rfl) rfl (fun ls hl => ?_)
  refine lv_iload_n hx hb dX7_countAll_55 rfl (lv_at hl 3 rfl) ?_
  refine lv_aload_n hx hb dX7_countAll_56 rfl (lv_at hl 1 rfl) ?_
  refine lv_iload hx hb dX7_countAll_57 (lv_at hl 4 rfl) ?_
  obtain ⟨r10_, e10, h⟩ := xbo h
  refine xc_V (As := [.int x4]) (rest := [.int x3]) C hW (m_X7_isOfKind x4 _ e10) mf_X7_isOfKind mv_X7_isOfKind ml_X7_108 ⟨rfl, rfl⟩ ⟨Nat.le_of_ble_eq_true rfl, Nat.le_of_ble_eq_true rfl⟩ KX_38 rfl hl.1 rfl rfl (Nat.le_of_ble_eq_true rfl) dX7_countAll_59 (fun H locs hW => W.eq (g2 := F0 m 62 ls [.int r10_, .int x3]) rfl ?_)
  refine lv_if_eq (tgt := 69) hx hb dX7_countAll_62 (by decide) (fun c11 => ?_) (fun c11 => ?_)
  · have h := xit c11 h
    refine lv_iconst (v := 0) hx hb dX7_countAll_69 rfl ?_
    refine lv_iadd hx hb dX7_countAll_70 ?_
    refine lv_istore_n (lv' := [(3, .int (x3 + 0)), (2, .int (t0 + t1)), (0, .ref (g.q 38)), (1, .int x1), (4, .int x4)]) hx hb dX7_countAll_71 rfl hl (Nat.le_of_ble_eq_true rfl) rfl (fun ls hl => ?_)
    refine lv_iinc (v := x4 + 1) (lv' := [(4, .int (x4 + 1)), (3, .int (x3 + 0)), (2, .int (t0 + t1)), (0, .ref (g.q 38)), (1, .int x1)]) hx hb dX7_countAll_72 hl (k := 4) rfl rfl (Nat.le_of_ble_eq_true rfl) rfl (fun ls hl => ?_)
    refine lv_goto (tgt := 9) hx hb dX7_countAll_75 (by decide) ?_
    exact hk9 x1 (t0 + t1) (x3 + 0) (x4 + 1) _ _ _ _ hW (lv_sub hl [3, 4, 2, 1, 0] rfl) h
  · have h := xif c11 h
    refine lv_iconst (v := 1) hx hb dX7_countAll_65 rfl ?_
    refine lv_goto (tgt := 70) hx hb dX7_countAll_66 (by decide) ?_
    refine lv_iadd hx hb dX7_countAll_70 ?_
    refine lv_istore_n (lv' := [(3, .int (x3 + 1)), (2, .int (t0 + t1)), (0, .ref (g.q 38)), (1, .int x1), (4, .int x4)]) hx hb dX7_countAll_71 rfl hl (Nat.le_of_ble_eq_true rfl) rfl (fun ls hl => ?_)
    refine lv_iinc (v := x4 + 1) (lv' := [(4, .int (x4 + 1)), (3, .int (x3 + 1)), (2, .int (t0 + t1)), (0, .ref (g.q 38)), (1, .int x1)]) hx hb dX7_countAll_72 hl (k := 4) rfl rfl (Nat.le_of_ble_eq_true rfl) rfl (fun ls hl => ?_)
    refine lv_goto (tgt := 9) hx hb dX7_countAll_75 (by decide) ?_
    exact hk9 x1 (t0 + t1) (x3 + 1) (x4 + 1) _ _ _ _ hW (lv_sub hl [3, 4, 2, 1, 0] rfl) h
set_option maxRecDepth 4000 in
theorem w_X7_countAll_36 (N : Nat) (k9 : Int32 → Int32 → Int32 → Int32 → St → Option (Int32 × St)) {r : Int32} {σ' : St} (C : xC KX g RX7 cX7_countAll 5 (some .int) p s m args meth c) (hk9 : ∀ (x1 : Int32) (x2 : Int32) (x3 : Int32) (x4 : Int32) (σ : St) (H : Heap) (locs : List Loc) (ls : Array Slot), xW KX g s σ H locs → lv_has ls 5 [(0, .ref (g.q 38)), (1, .int x1), (2, .int x2), (3, .int x3), (4, .int x4)] → k9 x1 x2 x3 x4 σ = some (r, σ') → W p l e rm_X7_countAll s m args below meth c H locs 0 0 (MQ below (xPost KX g (some (.int r)) σ') args s 0 0 (xA KX g.q)) (F0 m 9 ls [])) : ∀ (x2 : Int32) (x3 : Int32) (x4 : Int32) (t0 : Int32) (t1 : Int32) (σ : St) (H : Heap) (locs : List Loc) (ls : Array Slot), xW KX g s σ H locs → lv_has ls 5 [(0, .ref (g.q 38)), (2, .int x2), (3, .int x3), (4, .int x4)] → f_X7_countAll_36 N k9 x2 x3 x4 t0 t1 σ = some (r, σ') → W p l e rm_X7_countAll s m args below meth c H locs 0 0 (MQ below (xPost KX g (some (.int r)) σ') args s 0 0 (xA KX g.q)) (F0 m 36 ls [.int t1, .int t0]) := by
  have hx := C.1
  have hb := C.2.1
  intro x2 x3 x4 t0 t1 σ H locs ls hW hl h
  unfold f_X7_countAll_36 at h
  refine lv_iadd hx hb dX7_countAll_36 ?_
  refine lv_istore_n (lv' := [(1, .int (t0 + t1)), (0, .ref (g.q 38)), (2, .int x2), (3, .int x3), (4, .int x4)]) hx hb dX7_countAll_37 rfl hl (Nat.le_of_ble_eq_true rfl) rfl (fun ls hl => ?_)
  refine lv_iload_n hx hb dX7_countAll_38 rfl (lv_at hl 2 rfl) ?_
  refine lv_aload_n hx hb dX7_countAll_39 rfl (lv_at hl 1 rfl) ?_
  refine lv_iload hx hb dX7_countAll_40 (lv_at hl 4 rfl) ?_
  obtain ⟨r8_, e8, h⟩ := xbo h
  refine xc_V (As := [.int x4]) (rest := [.int x2]) C hW (m_X7_isTail x4 _ e8) mf_X7_isTail mv_X7_isTail ml_X7_88 ⟨rfl, rfl⟩ ⟨Nat.le_of_ble_eq_true rfl, Nat.le_of_ble_eq_true rfl⟩ KX_38 rfl hl.1 rfl rfl (Nat.le_of_ble_eq_true rfl) dX7_countAll_42 (fun H locs hW => W.eq (g2 := F0 m 45 ls [.int r8_, .int x2]) rfl ?_)
  refine lv_if_eq (tgt := 52) hx hb dX7_countAll_45 (by decide) (fun c9 => ?_) (fun c9 => ?_)
  · have h := xit c9 h
    refine lv_iconst (v := 0) hx hb dX7_countAll_52 rfl ?_
    exact w_X7_countAll_53 N k9 C hk9 (t0 + t1) x3 x4 x2 0 _ _ _ _ hW (lv_sub hl [1, 0, 3, 4] rfl) h
  · have h := xif c9 h
    refine lv_iconst (v := 1) hx hb dX7_countAll_48 rfl ?_
    refine lv_goto (tgt := 53) hx hb dX7_countAll_49 (by decide) ?_
    exact w_X7_countAll_53 N k9 C hk9 (t0 + t1) x3 x4 x2 1 _ _ _ _ hW (lv_sub hl [1, 0, 3, 4] rfl) h
set_option maxRecDepth 4000 in
theorem w_X7_countAll_113 (N : Nat) {r : Int32} {σ' : St} (C : xC KX g RX7 cX7_countAll 5 (some .int) p s m args meth c) : ∀ (t0 : Int32) (t1 : Int32) (t2 : Int32) (σ : St) (H : Heap) (locs : List Loc) (ls : Array Slot), xW KX g s σ H locs → lv_has ls 5 [] → f_X7_countAll_113 N t0 t1 t2 σ = some (r, σ') → W p l e rm_X7_countAll s m args below meth c H locs 0 0 (MQ below (xPost KX g (some (.int r)) σ') args s 0 0 (xA KX g.q)) (F0 m 113 ls [.int t2, .int t1, .int t0]) := by
  have hx := C.1
  have hb := C.2.1
  intro t0 t1 t2 σ H locs ls hW hl h
  unfold f_X7_countAll_113 at h
  refine lv_imul hx hb dX7_countAll_113 ?_
  refine xmm_min C hW ml_X7_119 (Nat.le_of_ble_eq_true rfl) (Nat.le_of_ble_eq_true rfl) hl.1 (Nat.le_of_ble_eq_true rfl) dX7_countAll_114 ?_
  cases h
  exact xr_i C hW dX7_countAll_117
set_option maxRecDepth 4000 in
theorem w_X7_countAll_9 (N : Nat) {r : Int32} {σ' : St} (C : xC KX g RX7 cX7_countAll 5 (some .int) p s m args meth c) : ∀ (n : Nat), ∀ (x1 : Int32) (x2 : Int32) (x3 : Int32) (x4 : Int32) (σ : St) (H : Heap) (locs : List Loc) (ls : Array Slot), xW KX g s σ H locs → lv_has ls 5 [(0, .ref (g.q 38)), (1, .int x1), (2, .int x2), (3, .int x3), (4, .int x4)] → f_X7_countAll_9 N n x1 x2 x3 x4 σ = some (r, σ') → W p l e rm_X7_countAll s m args below meth c H locs 0 0 (MQ below (xPost KX g (some (.int r)) σ') args s 0 0 (xA KX g.q)) (F0 m 9 ls []) := by
  have hx := C.1
  have hb := C.2.1
  intro n
  induction n with
  | zero => intro x1 x2 x3 x4 σ H locs ls hW hl h; rw [f_X7_countAll_9] at h; cases h
  | succ n ih =>
    intro x1 x2 x3 x4 σ H locs ls hW hl h
    rw [f_X7_countAll_9] at h
    refine lv_iload hx hb dX7_countAll_9 (lv_at hl 4 rfl) ?_
    refine lv_aload_n hx hb dX7_countAll_11 rfl (lv_at hl 0 rfl) ?_
    obtain ⟨g1, h⟩ := xgd h
    refine xg_v C hW fg_7_17 KX_38 rfl (v := 8601) rfl (x := σ.1 8601 0) rfl dX7_countAll_12 ?_
    refine xg_i C hW fg_7_111 (KX_sl (sgb_o g1)) rfl (v := (1000 + 200 * ((σ.1 8601 0).toNatClampNeg) + 0)) rfl (x := σ.1 (1000 + 200 * ((σ.1 8601 0).toNatClampNeg) + 0) 0) rfl dX7_countAll_15 ?_
    refine lv_icmp_ge (tgt := 78) hx hb dX7_countAll_18 (by decide) (fun c2 => ?_) (fun c2 => ?_)
    · have h := xit c2 h
      refine lv_aload_n hx hb dX7_countAll_78 rfl (lv_at hl 0 rfl) ?_
      obtain ⟨σ3, e3, h⟩ := xbo h
      refine xc_V (As := []) (rest := []) C hW (m_X7_forgetCovers N _ e3) mf_X7_forgetCovers mv_X7_forgetCovers ml_X7_112 ⟨rfl, rfl⟩ ⟨Nat.le_of_ble_eq_true rfl, Nat.le_of_ble_eq_true rfl⟩ KX_38 rfl hl.1 rfl rfl (Nat.le_of_ble_eq_true rfl) dX7_countAll_79 (fun H locs hW => W.eq (g2 := F0 m 82 ls []) rfl ?_)
      refine lv_iload_n hx hb dX7_countAll_82 rfl (lv_at hl 1 rfl) ?_
      refine lv_iconst (v := 1) hx hb dX7_countAll_83 rfl ?_
      refine lv_iload_n hx hb dX7_countAll_84 rfl (lv_at hl 2 rfl) ?_
      refine lv_iadd hx hb dX7_countAll_85 ?_
      refine lv_imul hx hb dX7_countAll_86 ?_
      refine lv_aload_n hx hb dX7_countAll_87 rfl (lv_at hl 0 rfl) ?_
      refine lv_iconst (v := 1) hx hb dX7_countAll_88 rfl ?_
      refine lv_iconst (v := 0) hx hb dX7_countAll_89 rfl ?_
      refine lv_iconst (v := 0) hx hb dX7_countAll_90 rfl ?_
      obtain ⟨r4_, σ4, e4, h⟩ := xbd h
      refine xc_V (As := [.int 1, .int 0, .int 0]) (rest := [.int (x1 * (1 + x2))]) C hW (m_X7_coversBehind N 20 1 0 0 _ e4) mf_X7_coversBehind mv_X7_coversBehind ml_X7_115 ⟨rfl, rfl⟩ ⟨Nat.le_of_ble_eq_true rfl, Nat.le_of_ble_eq_true rfl⟩ KX_38 rfl hl.1 rfl rfl (Nat.le_of_ble_eq_true rfl) dX7_countAll_91 (fun H locs hW => W.eq (g2 := F0 m 94 ls [.int r4_, .int (x1 * (1 + x2))]) rfl ?_)
      refine lv_iadd hx hb dX7_countAll_94 ?_
      refine lv_istore (lv' := [(4, .int ((x1 * (1 + x2)) + r4_)), (0, .ref (g.q 38)), (1, .int x1), (2, .int x2), (3, .int x3)]) hx hb dX7_countAll_95 hl (Nat.le_of_ble_eq_true rfl) rfl (fun ls hl => ?_)
      refine lv_ldc (v := 100001) hx hb C.ow (C.hts _ kc_X7_118) dX7_countAll_97 ?_
      refine lv_iload hx hb dX7_countAll_99 (lv_at hl 0 rfl) ?_
      refine lv_aload_n hx hb dX7_countAll_101 rfl (lv_at hl 1 rfl) ?_
      refine xc_V (As := []) (rest := [.int ((x1 * (1 + x2)) + r4_), .int 100001]) C hW (m_X7_hasKind _ rfl) mf_X7_hasKind mv_X7_hasKind ml_X7_91 ⟨rfl, rfl⟩ ⟨Nat.le_of_ble_eq_true rfl, Nat.le_of_ble_eq_true rfl⟩ KX_38 rfl hl.1 rfl rfl (Nat.le_of_ble_eq_true rfl) dX7_countAll_102 (fun H locs hW => W.eq (g2 := F0 m 105 ls [.int (f_X7_hasKind σ4), .int ((x1 * (1 + x2)) + r4_), .int 100001]) rfl ?_)
      refine lv_if_eq (tgt := 112) hx hb dX7_countAll_105 (by decide) (fun c5 => ?_) (fun c5 => ?_)
      · have h := xit c5 h
        refine lv_iconst (v := 1) hx hb dX7_countAll_112 rfl ?_
        exact w_X7_countAll_113 N C 100001 ((x1 * (1 + x2)) + r4_) 1 _ _ _ _ hW (lv_sub hl [] rfl) h
      · have h := xif c5 h
        refine lv_iload_n hx hb dX7_countAll_108 rfl (lv_at hl 4 rfl) ?_
        refine lv_goto (tgt := 113) hx hb dX7_countAll_109 (by decide) ?_
        exact w_X7_countAll_113 N C 100001 ((x1 * (1 + x2)) + r4_) x3 _ _ _ _ hW (lv_sub hl [] rfl) h
    · have h := xif c2 h
      refine lv_iload_n hx hb dX7_countAll_21 rfl (lv_at hl 1 rfl) ?_
      refine lv_aload_n hx hb dX7_countAll_22 rfl (lv_at hl 0 rfl) ?_
      refine lv_iload hx hb dX7_countAll_23 (lv_at hl 4 rfl) ?_
      obtain ⟨r6_, e6, h⟩ := xbo h
      refine xc_V (As := [.int x4]) (rest := [.int x1]) C hW (m_X7_isIdea x4 _ e6) mf_X7_isIdea mv_X7_isIdea ml_X7_84 ⟨rfl, rfl⟩ ⟨Nat.le_of_ble_eq_true rfl, Nat.le_of_ble_eq_true rfl⟩ KX_38 rfl hl.1 rfl rfl (Nat.le_of_ble_eq_true rfl) dX7_countAll_25 (fun H locs hW => W.eq (g2 := F0 m 28 ls [.int r6_, .int x1]) rfl ?_)
      refine lv_if_eq (tgt := 35) hx hb dX7_countAll_28 (by decide) (fun c7 => ?_) (fun c7 => ?_)
      · have h := xit c7 h
        refine lv_iconst (v := 0) hx hb dX7_countAll_35 rfl ?_
        exact w_X7_countAll_36 N (f_X7_countAll_9 N n) C ih x2 x3 x4 x1 0 _ _ _ _ hW (lv_sub hl [0, 2, 3, 4] rfl) h
      · have h := xif c7 h
        refine lv_iconst (v := 1) hx hb dX7_countAll_31 rfl ?_
        refine lv_goto (tgt := 36) hx hb dX7_countAll_32 (by decide) ?_
        exact w_X7_countAll_36 N (f_X7_countAll_9 N n) C ih x2 x3 x4 x1 1 _ _ _ _ hW (lv_sub hl [0, 2, 3, 4] rfl) h
set_option maxRecDepth 4000 in
theorem m_X7_countAll (N : Nat) (σ : St) {r : Int32} {σ' : St} (h : f_X7_countAll N σ = some (r, σ')) : xM l KX g yX7_countAll cX7_countAll 5 (some .int) rm_X7_countAll [.ref (g.q 38)] σ (some (.int r)) σ' := by
  refine xmet pn_X7 rfl (Nat.le_of_ble_eq_true rfl) (lv := [(0, .ref (g.q 38))]) rfl (fun p e s m args below meth c ls C hW hl => ?_)
  have hx := C.1
  have hb := C.2.1
  unfold f_X7_countAll at h
  refine lv_iconst (v := 0) hx hb dX7_countAll_0 rfl ?_
  refine lv_istore_n (lv' := [(1, .int 0), (0, .ref (g.q 38))]) hx hb dX7_countAll_1 rfl hl (Nat.le_of_ble_eq_true rfl) rfl (fun ls hl => ?_)
  refine lv_iconst (v := 0) hx hb dX7_countAll_2 rfl ?_
  refine lv_istore_n (lv' := [(2, .int 0), (1, .int 0), (0, .ref (g.q 38))]) hx hb dX7_countAll_3 rfl hl (Nat.le_of_ble_eq_true rfl) rfl (fun ls hl => ?_)
  refine lv_iconst (v := 0) hx hb dX7_countAll_4 rfl ?_
  refine lv_istore_n (lv' := [(3, .int 0), (2, .int 0), (1, .int 0), (0, .ref (g.q 38))]) hx hb dX7_countAll_5 rfl hl (Nat.le_of_ble_eq_true rfl) rfl (fun ls hl => ?_)
  refine lv_iconst (v := 0) hx hb dX7_countAll_6 rfl ?_
  refine lv_istore (lv' := [(4, .int 0), (3, .int 0), (2, .int 0), (1, .int 0), (0, .ref (g.q 38))]) hx hb dX7_countAll_7 hl (Nat.le_of_ble_eq_true rfl) rfl (fun ls hl => ?_)
  exact w_X7_countAll_9 N C N 0 0 0 0 _ _ _ _ hW (lv_sub hl [4, 3, 2, 1, 0] rfl) h
end
theorem dX7_look_0 : decode cX7_look 0 = .ok (.aload_n 0, 1) := by decide +kernel
theorem dX7_look_1 : decode cX7_look 1 = .ok (.aload_n 1, 1) := by decide +kernel
theorem dX7_look_2 : decode cX7_look 2 = .ok (.putfield 17, 3) := by decide +kernel
theorem dX7_look_5 : decode cX7_look 5 = .ok (.aload_n 0, 1) := by decide +kernel
theorem dX7_look_6 : decode cX7_look 6 = .ok (.aload_n 1, 1) := by decide +kernel
theorem dX7_look_7 : decode cX7_look 7 = .ok (.getfield 21, 3) := by decide +kernel
theorem dX7_look_10 : decode cX7_look 10 = .ok (.iconst 3, 1) := by decide +kernel
theorem dX7_look_11 : decode cX7_look 11 = .ok (.iaload, 1) := by decide +kernel
theorem dX7_look_12 : decode cX7_look 12 = .ok (.putfield 26, 3) := by decide +kernel
theorem dX7_look_15 : decode cX7_look 15 = .ok (.aload_n 0, 1) := by decide +kernel
theorem dX7_look_16 : decode cX7_look 16 = .ok (.aload_n 0, 1) := by decide +kernel
theorem dX7_look_17 : decode cX7_look 17 = .ok (.getfield 13, 3) := by decide +kernel
theorem dX7_look_20 : decode cX7_look 20 = .ok (.getfield 30, 3) := by decide +kernel
theorem dX7_look_23 : decode cX7_look 23 = .ok (.iload_n 2, 1) := by decide +kernel
theorem dX7_look_24 : decode cX7_look 24 = .ok (.laload, 1) := by decide +kernel
theorem dX7_look_25 : decode cX7_look 25 = .ok (.putfield 36, 3) := by decide +kernel
theorem dX7_look_28 : decode cX7_look 28 = .ok (.aload_n 0, 1) := by decide +kernel
theorem dX7_look_29 : decode cX7_look 29 = .ok (.aload_n 0, 1) := by decide +kernel
theorem dX7_look_30 : decode cX7_look 30 = .ok (.getfield 13, 3) := by decide +kernel
theorem dX7_look_33 : decode cX7_look 33 = .ok (.getfield 40, 3) := by decide +kernel
theorem dX7_look_36 : decode cX7_look 36 = .ok (.iload_n 2, 1) := by decide +kernel
theorem dX7_look_37 : decode cX7_look 37 = .ok (.laload, 1) := by decide +kernel
theorem dX7_look_38 : decode cX7_look 38 = .ok (.putfield 43, 3) := by decide +kernel
theorem dX7_look_41 : decode cX7_look 41 = .ok (.aload_n 0, 1) := by decide +kernel
theorem dX7_look_42 : decode cX7_look 42 = .ok (.aload_n 0, 1) := by decide +kernel
theorem dX7_look_43 : decode cX7_look 43 = .ok (.getfield 13, 3) := by decide +kernel
theorem dX7_look_46 : decode cX7_look 46 = .ok (.getfield 46, 3) := by decide +kernel
theorem dX7_look_49 : decode cX7_look 49 = .ok (.iload_n 2, 1) := by decide +kernel
theorem dX7_look_50 : decode cX7_look 50 = .ok (.iaload, 1) := by decide +kernel
theorem dX7_look_51 : decode cX7_look 51 = .ok (.putfield 49, 3) := by decide +kernel
theorem dX7_look_54 : decode cX7_look 54 = .ok (.aload_n 0, 1) := by decide +kernel
theorem dX7_look_55 : decode cX7_look 55 = .ok (.aload_n 0, 1) := by decide +kernel
theorem dX7_look_56 : decode cX7_look 56 = .ok (.getfield 13, 3) := by decide +kernel
theorem dX7_look_59 : decode cX7_look 59 = .ok (.getfield 52, 3) := by decide +kernel
theorem dX7_look_62 : decode cX7_look 62 = .ok (.iload_n 2, 1) := by decide +kernel
theorem dX7_look_63 : decode cX7_look 63 = .ok (.iaload, 1) := by decide +kernel
theorem dX7_look_64 : decode cX7_look 64 = .ok (.putfield 55, 3) := by decide +kernel
theorem dX7_look_67 : decode cX7_look 67 = .ok (.return_, 1) := by decide +kernel
abbrev rm_X7_look : Room := { frames := 0, cells := 0, slots := 0, locals := 0 }
def f_X7_look (o1 : Nat) (x2 : Int32) (σ : St) : Option St := grd (ib 3 4) (grd (ib x2 40) (grd (ib x2 40) (grd (ib x2 40) (grd (ib x2 40) (some ((si (si (sl (sl (si (si σ 8601 0 (nI o1)) 8602 0 ((si σ 8601 0 (nI o1)).1 (8 * o1 + 8 - 6) 3)) 8603 0 (σ.2 34 x2.toNatClampNeg)) 8604 0 (σ.2 37 x2.toNatClampNeg)) 8605 0 (σ.1 35 x2.toNatClampNeg)) 8606 0 (σ.1 36 x2.toNatClampNeg))))))))
section
variable {p : Program} {l : Launch} {e : Env} {s : State} {m : MethodId} {args : Array Value} {below : List Frame} {meth : Method} {c : Code} {g : XG}
set_option maxRecDepth 4000 in
theorem m_X7_look (o1 : Nat) (ho1 : o1 = 1 ∨ o1 = 2) (x2 : Int32) (σ : St) {σ' : St} (h : f_X7_look o1 x2 σ = some σ') : xM l KX g yX7_look cX7_look 3 none rm_X7_look [.ref (g.q 38), .ref (g.q o1), .int x2] σ none σ' := by
  refine xmet pn_X7 rfl (Nat.le_of_ble_eq_true rfl) (lv := [(0, .ref (g.q 38)), (1, .ref (g.q o1)), (2, .int x2)]) rfl (fun p e s m args below meth c ls C hW hl => ?_)
  have hx := C.1
  have hb := C.2.1
  unfold f_X7_look at h
  refine lv_aload_n hx hb dX7_look_0 rfl (lv_at hl 0 rfl) ?_
  refine lv_aload_n hx hb dX7_look_1 rfl (lv_at hl 1 rfl) ?_
  refine xp_v (x := nI o1) (b := o1) C hW fp_7_17 KX_38 rfl (v := 8601) rfl (nI_clamp (by rcases ho1 with e | e <;> omega)) xnarrow_obj dX7_look_2 (fun H locs hW => ?_)
  refine lv_aload_n hx hb dX7_look_5 rfl (lv_at hl 0 rfl) ?_
  refine lv_aload_n hx hb dX7_look_6 rfl (lv_at hl 1 rfl) ?_
  refine xg_r C hW fg_7_21 (KX_sl ho1) rfl dX7_look_7 ?_
  refine lv_iconst (v := 3) hx hb dX7_look_10 rfl ?_
  obtain ⟨g1, h⟩ := xgd h
  refine xa_i C hW (KX_sl_8 ho1) g1 (x := (si σ 8601 0 (nI o1)).1 (8 * o1 + 8 - 6) 3) rfl dX7_look_11 ?_
  refine xp_i C hW fp_7_26 KX_38 rfl (v := 8602) rfl rfl rfl dX7_look_12 (fun H locs hW => ?_)
  refine lv_aload_n hx hb dX7_look_15 rfl (lv_at hl 0 rfl) ?_
  refine lv_aload_n hx hb dX7_look_16 rfl (lv_at hl 0 rfl) ?_
  refine xg_r C hW fg_7_13 KX_38 rfl dX7_look_17 ?_
  refine xg_r C hW fg_7_30 KX_33 rfl dX7_look_20 ?_
  refine lv_iload_n hx hb dX7_look_23 rfl (lv_at hl 2 rfl) ?_
  obtain ⟨g2, h⟩ := xgd h
  refine xa_l C hW KX_34 g2 (x := σ.2 34 x2.toNatClampNeg) rfl dX7_look_24 ?_
  refine xp_l C hW fp_7_36 KX_38 rfl (v := 8603) rfl dX7_look_25 (fun H locs hW => ?_)
  refine lv_aload_n hx hb dX7_look_28 rfl (lv_at hl 0 rfl) ?_
  refine lv_aload_n hx hb dX7_look_29 rfl (lv_at hl 0 rfl) ?_
  refine xg_r C hW fg_7_13 KX_38 rfl dX7_look_30 ?_
  refine xg_r C hW fg_7_40 KX_33 rfl dX7_look_33 ?_
  refine lv_iload_n hx hb dX7_look_36 rfl (lv_at hl 2 rfl) ?_
  obtain ⟨g3, h⟩ := xgd h
  refine xa_l C hW KX_37 g3 (x := σ.2 37 x2.toNatClampNeg) rfl dX7_look_37 ?_
  refine xp_l C hW fp_7_43 KX_38 rfl (v := 8604) rfl dX7_look_38 (fun H locs hW => ?_)
  refine lv_aload_n hx hb dX7_look_41 rfl (lv_at hl 0 rfl) ?_
  refine lv_aload_n hx hb dX7_look_42 rfl (lv_at hl 0 rfl) ?_
  refine xg_r C hW fg_7_13 KX_38 rfl dX7_look_43 ?_
  refine xg_r C hW fg_7_46 KX_33 rfl dX7_look_46 ?_
  refine lv_iload_n hx hb dX7_look_49 rfl (lv_at hl 2 rfl) ?_
  obtain ⟨g4, h⟩ := xgd h
  refine xa_i C hW KX_35 g4 (x := σ.1 35 x2.toNatClampNeg) rfl dX7_look_50 ?_
  refine xp_i C hW fp_7_49 KX_38 rfl (v := 8605) rfl rfl rfl dX7_look_51 (fun H locs hW => ?_)
  refine lv_aload_n hx hb dX7_look_54 rfl (lv_at hl 0 rfl) ?_
  refine lv_aload_n hx hb dX7_look_55 rfl (lv_at hl 0 rfl) ?_
  refine xg_r C hW fg_7_13 KX_38 rfl dX7_look_56 ?_
  refine xg_r C hW fg_7_52 KX_33 rfl dX7_look_59 ?_
  refine lv_iload_n hx hb dX7_look_62 rfl (lv_at hl 2 rfl) ?_
  obtain ⟨g5, h⟩ := xgd h
  refine xa_i C hW KX_36 g5 (x := σ.1 36 x2.toNatClampNeg) rfl dX7_look_63 ?_
  refine xp_i C hW fp_7_55 KX_38 rfl (v := 8606) rfl rfl rfl dX7_look_64 (fun H locs hW => ?_)
  cases h
  exact xr_v C hW dX7_look_67
end
theorem dX2_spellingsOf_0 : decode cX2_spellingsOf 0 = .ok (.aload_n 0, 1) := by decide +kernel
theorem dX2_spellingsOf_1 : decode cX2_spellingsOf 1 = .ok (.iload_n 1, 1) := by decide +kernel
theorem dX2_spellingsOf_2 : decode cX2_spellingsOf 2 = .ok (.iconst 1, 1) := by decide +kernel
theorem dX2_spellingsOf_3 : decode cX2_spellingsOf 3 = .ok (.invokevirtual 71, 3) := by decide +kernel
theorem dX2_spellingsOf_6 : decode cX2_spellingsOf 6 = .ok (.ifCond .eq 28, 3) := by decide +kernel
theorem dX2_spellingsOf_9 : decode cX2_spellingsOf 9 = .ok (.aload_n 0, 1) := by decide +kernel
theorem dX2_spellingsOf_10 : decode cX2_spellingsOf 10 = .ok (.getfield 51, 3) := by decide +kernel
theorem dX2_spellingsOf_13 : decode cX2_spellingsOf 13 = .ok (.aload_n 0, 1) := by decide +kernel
theorem dX2_spellingsOf_14 : decode cX2_spellingsOf 14 = .ok (.getfield 47, 3) := by decide +kernel
theorem dX2_spellingsOf_17 : decode cX2_spellingsOf 17 = .ok (.iload_n 1, 1) := by decide +kernel
theorem dX2_spellingsOf_18 : decode cX2_spellingsOf 18 = .ok (.invokevirtual 75, 3) := by decide +kernel
theorem dX2_spellingsOf_21 : decode cX2_spellingsOf 21 = .ok (.aload_n 0, 1) := by decide +kernel
theorem dX2_spellingsOf_22 : decode cX2_spellingsOf 22 = .ok (.getfield 19, 3) := by decide +kernel
theorem dX2_spellingsOf_25 : decode cX2_spellingsOf 25 = .ok (.iload_n 1, 1) := by decide +kernel
theorem dX2_spellingsOf_26 : decode cX2_spellingsOf 26 = .ok (.aload_n 0, 1) := by decide +kernel
theorem dX2_spellingsOf_27 : decode cX2_spellingsOf 27 = .ok (.getfield 51, 3) := by decide +kernel
theorem dX2_spellingsOf_30 : decode cX2_spellingsOf 30 = .ok (.invokevirtual 81, 3) := by decide +kernel
theorem dX2_spellingsOf_33 : decode cX2_spellingsOf 33 = .ok (.iastore, 1) := by decide +kernel
theorem dX2_spellingsOf_34 : decode cX2_spellingsOf 34 = .ok (.aload_n 0, 1) := by decide +kernel
theorem dX2_spellingsOf_35 : decode cX2_spellingsOf 35 = .ok (.getfield 19, 3) := by decide +kernel
theorem dX2_spellingsOf_38 : decode cX2_spellingsOf 38 = .ok (.iload_n 1, 1) := by decide +kernel
theorem dX2_spellingsOf_39 : decode cX2_spellingsOf 39 = .ok (.iaload, 1) := by decide +kernel
theorem dX2_spellingsOf_40 : decode cX2_spellingsOf 40 = .ok (.ireturn, 1) := by decide +kernel
abbrev rm_X2_spellingsOf : Room := { frames := 25, cells := 0, slots := 0, locals := 1319 }
def f_X2_spellingsOf_34 (N : Nat) (x1 : Int32) (σ : St) : Option (Int32 × St) := grd (ib x1 40) (some (σ.1 48 x1.toNatClampNeg, σ))
def f_X2_spellingsOf (N : Nat) (x1 : Int32) (σ : St) : Option (Int32 × St) := bd (f_X2_isNew x1 1 σ) (fun r1_ σ1 => (if r1_ = 0 then f_X2_spellingsOf_34 N x1 σ1 else bo (f_X7_look 1 x1 σ1) (fun σ3 => bd (f_X7_countAll N σ3) (fun r4_ σ4 => grd (ib x1 40) (f_X2_spellingsOf_34 N x1 (si σ4 48 x1.toNatClampNeg r4_))))))
section
variable {p : Program} {l : Launch} {e : Env} {s : State} {m : MethodId} {args : Array Value} {below : List Frame} {meth : Method} {c : Code} {g : XG}
set_option maxRecDepth 4000 in
theorem w_X2_spellingsOf_34 (N : Nat) {r : Int32} {σ' : St} (C : xC KX g RX2 cX2_spellingsOf 2 (some .int) p s m args meth c) : ∀ (x1 : Int32) (σ : St) (H : Heap) (locs : List Loc) (ls : Array Slot), xW KX g s σ H locs → lv_has ls 2 [(0, .ref (g.q 46)), (1, .int x1)] → f_X2_spellingsOf_34 N x1 σ = some (r, σ') → W p l e rm_X2_spellingsOf s m args below meth c H locs 0 0 (MQ below (xPost KX g (some (.int r)) σ') args s 0 0 (xA KX g.q)) (F0 m 34 ls []) := by
  have hx := C.1
  have hb := C.2.1
  intro x1 σ H locs ls hW hl h
  unfold f_X2_spellingsOf_34 at h
  refine lv_aload_n hx hb dX2_spellingsOf_34 rfl (lv_at hl 0 rfl) ?_
  refine xg_r C hW fg_2_19 KX_46 rfl dX2_spellingsOf_35 ?_
  refine lv_iload_n hx hb dX2_spellingsOf_38 rfl (lv_at hl 1 rfl) ?_
  obtain ⟨g6, h⟩ := xgd h
  refine xa_i C hW KX_48 g6 (x := σ.1 48 x1.toNatClampNeg) rfl dX2_spellingsOf_39 ?_
  cases h
  exact xr_i C hW dX2_spellingsOf_40
set_option maxRecDepth 4000 in
theorem m_X2_spellingsOf (N : Nat) (x1 : Int32) (σ : St) {r : Int32} {σ' : St} (h : f_X2_spellingsOf N x1 σ = some (r, σ')) : xM l KX g yX2_spellingsOf cX2_spellingsOf 2 (some .int) rm_X2_spellingsOf [.ref (g.q 46), .int x1] σ (some (.int r)) σ' := by
  refine xmet pn_X2 rfl (Nat.le_of_ble_eq_true rfl) (lv := [(0, .ref (g.q 46)), (1, .int x1)]) rfl (fun p e s m args below meth c ls C hW hl => ?_)
  have hx := C.1
  have hb := C.2.1
  unfold f_X2_spellingsOf at h
  refine lv_aload_n hx hb dX2_spellingsOf_0 rfl (lv_at hl 0 rfl) ?_
  refine lv_iload_n hx hb dX2_spellingsOf_1 rfl (lv_at hl 1 rfl) ?_
  refine lv_iconst (v := 1) hx hb dX2_spellingsOf_2 rfl ?_
  obtain ⟨r1_, σ1, e1, h⟩ := xbd h
  refine xc_V (As := [.int x1, .int 1]) (rest := []) C hW (m_X2_isNew x1 1 _ e1) mf_X2_isNew mv_X2_isNew ml_X2_71 ⟨rfl, rfl⟩ ⟨Nat.le_of_ble_eq_true rfl, Nat.le_of_ble_eq_true rfl⟩ KX_46 rfl hl.1 rfl rfl (Nat.le_of_ble_eq_true rfl) dX2_spellingsOf_3 (fun H locs hW => W.eq (g2 := F0 m 6 ls [.int r1_]) rfl ?_)
  refine lv_if_eq (tgt := 34) hx hb dX2_spellingsOf_6 (by decide) (fun c2 => ?_) (fun c2 => ?_)
  · have h := xit c2 h
    exact w_X2_spellingsOf_34 N C x1 _ _ _ _ hW (lv_sub hl [0, 1] rfl) h
  · have h := xif c2 h
    refine lv_aload_n hx hb dX2_spellingsOf_9 rfl (lv_at hl 0 rfl) ?_
    refine xg_r C hW fg_2_51 KX_46 rfl dX2_spellingsOf_10 ?_
    refine lv_aload_n hx hb dX2_spellingsOf_13 rfl (lv_at hl 0 rfl) ?_
    refine xg_r C hW fg_2_47 KX_46 rfl dX2_spellingsOf_14 ?_
    refine lv_iload_n hx hb dX2_spellingsOf_17 rfl (lv_at hl 1 rfl) ?_
    obtain ⟨σ3, e3, h⟩ := xbo h
    refine xc_V (As := [.ref (g.q 1), .int x1]) (rest := []) C hW (m_X7_look 1 (Or.inl rfl) x1 _ e3) mf_X7_look mv_X7_look ml_X2_75 ⟨rfl, rfl⟩ ⟨Nat.le_of_ble_eq_true rfl, Nat.le_of_ble_eq_true rfl⟩ KX_38 rfl hl.1 rfl rfl (Nat.le_of_ble_eq_true rfl) dX2_spellingsOf_18 (fun H locs hW => W.eq (g2 := F0 m 21 ls []) rfl ?_)
    refine lv_aload_n hx hb dX2_spellingsOf_21 rfl (lv_at hl 0 rfl) ?_
    refine xg_r C hW fg_2_19 KX_46 rfl dX2_spellingsOf_22 ?_
    refine lv_iload_n hx hb dX2_spellingsOf_25 rfl (lv_at hl 1 rfl) ?_
    refine lv_aload_n hx hb dX2_spellingsOf_26 rfl (lv_at hl 0 rfl) ?_
    refine xg_r C hW fg_2_51 KX_46 rfl dX2_spellingsOf_27 ?_
    obtain ⟨r4_, σ4, e4, h⟩ := xbd h
    refine xc_V (As := []) (rest := [.int x1, .ref (g.q 48)]) C hW (m_X7_countAll N _ e4) mf_X7_countAll mv_X7_countAll ml_X2_81 ⟨rfl, rfl⟩ ⟨Nat.le_of_ble_eq_true rfl, Nat.le_of_ble_eq_true rfl⟩ KX_38 rfl hl.1 rfl rfl (Nat.le_of_ble_eq_true rfl) dX2_spellingsOf_30 (fun H locs hW => W.eq (g2 := F0 m 33 ls [.int r4_, .int x1, .ref (g.q 48)]) rfl ?_)
    obtain ⟨g5, h⟩ := xgd h
    refine xs_i C hW KX_48 g5 dX2_spellingsOf_33 (fun H locs hW => ?_)
    exact w_X2_spellingsOf_34 N C x1 _ _ _ _ hW (lv_sub hl [0, 1] rfl) h
end
theorem dX11_withSign_0 : decode cX11_withSign 0 = .ok (.lload_n 0, 1) := by decide +kernel
theorem dX11_withSign_1 : decode cX11_withSign 1 = .ok (.ldc2_w 379, 3) := by decide +kernel
theorem dX11_withSign_4 : decode cX11_withSign 4 = .ok (.lmul, 1) := by decide +kernel
theorem dX11_withSign_5 : decode cX11_withSign 5 = .ok (.iload_n 2, 1) := by decide +kernel
theorem dX11_withSign_6 : decode cX11_withSign 6 = .ok (.i2l, 1) := by decide +kernel
theorem dX11_withSign_7 : decode cX11_withSign 7 = .ok (.ladd, 1) := by decide +kernel
theorem dX11_withSign_8 : decode cX11_withSign 8 = .ok (.lreturn, 1) := by decide +kernel
abbrev rm_X11_withSign : Room := { frames := 0, cells := 0, slots := 0, locals := 0 }
def f_X11_withSign (x0 : Int64) (x2 : Int32) (σ : St) : Int64 := (x0 * 64) + x2.toInt64
section
variable {p : Program} {l : Launch} {e : Env} {s : State} {m : MethodId} {args : Array Value} {below : List Frame} {meth : Method} {c : Code} {g : XG}
set_option maxRecDepth 4000 in
theorem m_X11_withSign (x0 : Int64) (x2 : Int32) (σ : St) {r : Int64} (h : f_X11_withSign x0 x2 σ = r) : xM l KX g yX11_withSign cX11_withSign 3 (some .long) rm_X11_withSign [.long x0, .int x2] σ (some (.long r)) σ := by
  refine xmet pn_X11 rfl (Nat.le_of_ble_eq_true rfl) (lv := [(0, .long x0), (2, .int x2)]) rfl (fun p e s m args below meth c ls C hW hl => ?_)
  have hx := C.1
  have hb := C.2.1
  unfold f_X11_withSign at h
  refine lv_lload_n hx hb dX11_withSign_0 rfl (lv_at hl 0 rfl) ?_
  refine lv_ldc2 (v := 64) hx hb C.ow (C.hts _ kl_X11_379) dX11_withSign_1 ?_
  refine lv_lmul hx hb dX11_withSign_4 ?_
  refine lv_iload_n hx hb dX11_withSign_5 rfl (lv_at hl 1 rfl) ?_
  refine lv_i2l (v := x2.toInt64) hx hb dX11_withSign_6 rfl ?_
  refine lv_ladd hx hb dX11_withSign_7 ?_
  cases h
  exact xr_l C hW dX11_withSign_8
end
theorem dX2_improve_0 : decode cX2_improve 0 = .ok (.iload_n 2, 1) := by decide +kernel
theorem dX2_improve_1 : decode cX2_improve 1 = .ok (.aload_n 0, 1) := by decide +kernel
theorem dX2_improve_2 : decode cX2_improve 2 = .ok (.getfield 35, 3) := by decide +kernel
theorem dX2_improve_5 : decode cX2_improve 5 = .ok (.iload_n 1, 1) := by decide +kernel
theorem dX2_improve_6 : decode cX2_improve 6 = .ok (.iaload, 1) := by decide +kernel
theorem dX2_improve_7 : decode cX2_improve 7 = .ok (.if_icmp .lt 24, 3) := by decide +kernel
theorem dX2_improve_10 : decode cX2_improve 10 = .ok (.iload_n 2, 1) := by decide +kernel
theorem dX2_improve_11 : decode cX2_improve 11 = .ok (.aload_n 0, 1) := by decide +kernel
theorem dX2_improve_12 : decode cX2_improve 12 = .ok (.getfield 35, 3) := by decide +kernel
theorem dX2_improve_15 : decode cX2_improve 15 = .ok (.iload_n 1, 1) := by decide +kernel
theorem dX2_improve_16 : decode cX2_improve 16 = .ok (.iaload, 1) := by decide +kernel
theorem dX2_improve_17 : decode cX2_improve 17 = .ok (.if_icmp .ne 28, 3) := by decide +kernel
theorem dX2_improve_20 : decode cX2_improve 20 = .ok (.lload_n 3, 1) := by decide +kernel
theorem dX2_improve_21 : decode cX2_improve 21 = .ok (.aload_n 0, 1) := by decide +kernel
theorem dX2_improve_22 : decode cX2_improve 22 = .ok (.getfield 38, 3) := by decide +kernel
theorem dX2_improve_25 : decode cX2_improve 25 = .ok (.iload_n 1, 1) := by decide +kernel
theorem dX2_improve_26 : decode cX2_improve 26 = .ok (.laload, 1) := by decide +kernel
theorem dX2_improve_27 : decode cX2_improve 27 = .ok (.lcmp, 1) := by decide +kernel
theorem dX2_improve_28 : decode cX2_improve 28 = .ok (.ifCond .ge 17, 3) := by decide +kernel
theorem dX2_improve_31 : decode cX2_improve 31 = .ok (.aload_n 0, 1) := by decide +kernel
theorem dX2_improve_32 : decode cX2_improve 32 = .ok (.getfield 35, 3) := by decide +kernel
theorem dX2_improve_35 : decode cX2_improve 35 = .ok (.iload_n 1, 1) := by decide +kernel
theorem dX2_improve_36 : decode cX2_improve 36 = .ok (.iload_n 2, 1) := by decide +kernel
theorem dX2_improve_37 : decode cX2_improve 37 = .ok (.iastore, 1) := by decide +kernel
theorem dX2_improve_38 : decode cX2_improve 38 = .ok (.aload_n 0, 1) := by decide +kernel
theorem dX2_improve_39 : decode cX2_improve 39 = .ok (.getfield 38, 3) := by decide +kernel
theorem dX2_improve_42 : decode cX2_improve 42 = .ok (.iload_n 1, 1) := by decide +kernel
theorem dX2_improve_43 : decode cX2_improve 43 = .ok (.lload_n 3, 1) := by decide +kernel
theorem dX2_improve_44 : decode cX2_improve 44 = .ok (.lastore, 1) := by decide +kernel
theorem dX2_improve_45 : decode cX2_improve 45 = .ok (.return_, 1) := by decide +kernel
abbrev rm_X2_improve : Room := { frames := 0, cells := 0, slots := 0, locals := 0 }
def f_X2_improve_31 (x1 : Int32) (x2 : Int32) (x3 : Int64) (σ : St) : Option St := grd (ib x1 13) (grd (ib x1 13) (some ((sl (si σ 53 x1.toNatClampNeg x2) 54 x1.toNatClampNeg x3))))
def f_X2_improve (x1 : Int32) (x2 : Int32) (x3 : Int64) (σ : St) : Option St := grd (ib x1 13) ((if x2 < (σ.1 53 x1.toNatClampNeg) then f_X2_improve_31 x1 x2 x3 σ else grd (ib x1 13) ((if x2 = (σ.1 53 x1.toNatClampNeg) then grd (ib x1 13) ((if 0 ≤ (lg_cmp x3 (σ.2 54 x1.toNatClampNeg)) then some σ else f_X2_improve_31 x1 x2 x3 σ)) else some σ))))
section
variable {p : Program} {l : Launch} {e : Env} {s : State} {m : MethodId} {args : Array Value} {below : List Frame} {meth : Method} {c : Code} {g : XG}
set_option maxRecDepth 4000 in
theorem w_X2_improve_31 {σ' : St} (C : xC KX g RX2 cX2_improve 5 none p s m args meth c) : ∀ (x1 : Int32) (x2 : Int32) (x3 : Int64) (σ : St) (H : Heap) (locs : List Loc) (ls : Array Slot), xW KX g s σ H locs → lv_has ls 5 [(0, .ref (g.q 46)), (1, .int x1), (2, .int x2), (3, .long x3)] → f_X2_improve_31 x1 x2 x3 σ = some σ' → W p l e rm_X2_improve s m args below meth c H locs 0 0 (MQ below (xPost KX g none σ') args s 0 0 (xA KX g.q)) (F0 m 31 ls []) := by
  have hx := C.1
  have hb := C.2.1
  intro x1 x2 x3 σ H locs ls hW hl h
  unfold f_X2_improve_31 at h
  refine lv_aload_n hx hb dX2_improve_31 rfl (lv_at hl 0 rfl) ?_
  refine xg_r C hW fg_2_35 KX_46 rfl dX2_improve_32 ?_
  refine lv_iload_n hx hb dX2_improve_35 rfl (lv_at hl 1 rfl) ?_
  refine lv_iload_n hx hb dX2_improve_36 rfl (lv_at hl 2 rfl) ?_
  obtain ⟨g7, h⟩ := xgd h
  refine xs_i C hW KX_53 g7 dX2_improve_37 (fun H locs hW => ?_)
  refine lv_aload_n hx hb dX2_improve_38 rfl (lv_at hl 0 rfl) ?_
  refine xg_r C hW fg_2_38 KX_46 rfl dX2_improve_39 ?_
  refine lv_iload_n hx hb dX2_improve_42 rfl (lv_at hl 1 rfl) ?_
  refine lv_lload_n hx hb dX2_improve_43 rfl (lv_at hl 3 rfl) ?_
  obtain ⟨g8, h⟩ := xgd h
  refine xs_l C hW KX_54 g8 dX2_improve_44 (fun H locs hW => ?_)
  cases h
  exact xr_v C hW dX2_improve_45
set_option maxRecDepth 4000 in
theorem m_X2_improve (x1 : Int32) (x2 : Int32) (x3 : Int64) (σ : St) {σ' : St} (h : f_X2_improve x1 x2 x3 σ = some σ') : xM l KX g yX2_improve cX2_improve 5 none rm_X2_improve [.ref (g.q 46), .int x1, .int x2, .long x3] σ none σ' := by
  refine xmet pn_X2 rfl (Nat.le_of_ble_eq_true rfl) (lv := [(0, .ref (g.q 46)), (1, .int x1), (2, .int x2), (3, .long x3)]) rfl (fun p e s m args below meth c ls C hW hl => ?_)
  have hx := C.1
  have hb := C.2.1
  unfold f_X2_improve at h
  refine lv_iload_n hx hb dX2_improve_0 rfl (lv_at hl 2 rfl) ?_
  refine lv_aload_n hx hb dX2_improve_1 rfl (lv_at hl 0 rfl) ?_
  refine xg_r C hW fg_2_35 KX_46 rfl dX2_improve_2 ?_
  refine lv_iload_n hx hb dX2_improve_5 rfl (lv_at hl 1 rfl) ?_
  obtain ⟨g1, h⟩ := xgd h
  refine xa_i C hW KX_53 g1 (x := σ.1 53 x1.toNatClampNeg) rfl dX2_improve_6 ?_
  refine lv_icmp_lt (tgt := 31) hx hb dX2_improve_7 (by decide) (fun c2 => ?_) (fun c2 => ?_)
  · have h := xit c2 h
    exact w_X2_improve_31 C x1 x2 x3 _ _ _ _ hW (lv_sub hl [0, 1, 2, 3] rfl) h
  · have h := xif c2 h
    refine lv_iload_n hx hb dX2_improve_10 rfl (lv_at hl 2 rfl) ?_
    refine lv_aload_n hx hb dX2_improve_11 rfl (lv_at hl 0 rfl) ?_
    refine xg_r C hW fg_2_35 KX_46 rfl dX2_improve_12 ?_
    refine lv_iload_n hx hb dX2_improve_15 rfl (lv_at hl 1 rfl) ?_
    obtain ⟨g3, h⟩ := xgd h
    refine xa_i C hW KX_53 g3 (x := σ.1 53 x1.toNatClampNeg) rfl dX2_improve_16 ?_
    refine lv_icmp_ne (tgt := 45) hx hb dX2_improve_17 (by decide) (fun c4 => ?_) (fun c4 => ?_)
    · have h := xif c4 h
      cases h
      exact xr_v C hW dX2_improve_45
    · have h := xit c4 h
      refine lv_lload_n hx hb dX2_improve_20 rfl (lv_at hl 3 rfl) ?_
      refine lv_aload_n hx hb dX2_improve_21 rfl (lv_at hl 0 rfl) ?_
      refine xg_r C hW fg_2_38 KX_46 rfl dX2_improve_22 ?_
      refine lv_iload_n hx hb dX2_improve_25 rfl (lv_at hl 1 rfl) ?_
      obtain ⟨g5, h⟩ := xgd h
      refine xa_l C hW KX_54 g5 (x := σ.2 54 x1.toNatClampNeg) rfl dX2_improve_26 ?_
      refine W.lcmp hx hb dX2_improve_27 ?_
      refine lv_if_ge (tgt := 45) hx hb dX2_improve_28 (by decide) (fun c6 => ?_) (fun c6 => ?_)
      · have h := xit c6 h
        cases h
        exact xr_v C hW dX2_improve_45
      · have h := xif c6 h
        exact w_X2_improve_31 C x1 x2 x3 _ _ _ _ hW (lv_sub hl [0, 1, 2, 3] rfl) h
end
theorem dX2_improveBy_0 : decode cX2_improveBy 0 = .ok (.aload_n 0, 1) := by decide +kernel
theorem dX2_improveBy_1 : decode cX2_improveBy 1 = .ok (.getfield 35, 3) := by decide +kernel
theorem dX2_improveBy_4 : decode cX2_improveBy 4 = .ok (.iload_n 2, 1) := by decide +kernel
theorem dX2_improveBy_5 : decode cX2_improveBy 5 = .ok (.iaload, 1) := by decide +kernel
theorem dX2_improveBy_6 : decode cX2_improveBy 6 = .ok (.ldc 89, 2) := by decide +kernel
theorem dX2_improveBy_8 : decode cX2_improveBy 8 = .ok (.if_icmp .eq 30, 3) := by decide +kernel
theorem dX2_improveBy_11 : decode cX2_improveBy 11 = .ok (.aload_n 0, 1) := by decide +kernel
theorem dX2_improveBy_12 : decode cX2_improveBy 12 = .ok (.iload_n 3, 1) := by decide +kernel
theorem dX2_improveBy_13 : decode cX2_improveBy 13 = .ok (.aload_n 0, 1) := by decide +kernel
theorem dX2_improveBy_14 : decode cX2_improveBy 14 = .ok (.getfield 35, 3) := by decide +kernel
theorem dX2_improveBy_17 : decode cX2_improveBy 17 = .ok (.iload_n 2, 1) := by decide +kernel
theorem dX2_improveBy_18 : decode cX2_improveBy 18 = .ok (.iaload, 1) := by decide +kernel
theorem dX2_improveBy_19 : decode cX2_improveBy 19 = .ok (.aload_n 0, 1) := by decide +kernel
theorem dX2_improveBy_20 : decode cX2_improveBy 20 = .ok (.iload_n 1, 1) := by decide +kernel
theorem dX2_improveBy_21 : decode cX2_improveBy 21 = .ok (.invokevirtual 106, 3) := by decide +kernel
theorem dX2_improveBy_24 : decode cX2_improveBy 24 = .ok (.iadd, 1) := by decide +kernel
theorem dX2_improveBy_25 : decode cX2_improveBy 25 = .ok (.aload_n 0, 1) := by decide +kernel
theorem dX2_improveBy_26 : decode cX2_improveBy 26 = .ok (.getfield 38, 3) := by decide +kernel
theorem dX2_improveBy_29 : decode cX2_improveBy 29 = .ok (.iload_n 2, 1) := by decide +kernel
theorem dX2_improveBy_30 : decode cX2_improveBy 30 = .ok (.laload, 1) := by decide +kernel
theorem dX2_improveBy_31 : decode cX2_improveBy 31 = .ok (.iload_n 1, 1) := by decide +kernel
theorem dX2_improveBy_32 : decode cX2_improveBy 32 = .ok (.invokestatic 130, 3) := by decide +kernel
theorem dX2_improveBy_35 : decode cX2_improveBy 35 = .ok (.invokevirtual 109, 3) := by decide +kernel
theorem dX2_improveBy_38 : decode cX2_improveBy 38 = .ok (.return_, 1) := by decide +kernel
abbrev rm_X2_improveBy : Room := { frames := 2, cells := 0, slots := 0, locals := 42 }
def f_X2_improveBy (x1 : Int32) (x2 : Int32) (x3 : Int32) (σ : St) : Option St := grd (ib x2 13) ((if (σ.1 53 x2.toNatClampNeg) = 2147483647 then some σ else grd (ib x2 13) (bo (f_X2_costOf x1 σ) (fun r4_ => grd (ib x2 13) (bo (f_X2_improve x3 ((σ.1 53 x2.toNatClampNeg) + r4_) (f_X11_withSign (σ.2 54 x2.toNatClampNeg) x1 σ) σ) (fun σ6 => some σ6))))))
section
variable {p : Program} {l : Launch} {e : Env} {s : State} {m : MethodId} {args : Array Value} {below : List Frame} {meth : Method} {c : Code} {g : XG}
set_option maxRecDepth 4000 in
theorem m_X2_improveBy (x1 : Int32) (x2 : Int32) (x3 : Int32) (σ : St) {σ' : St} (h : f_X2_improveBy x1 x2 x3 σ = some σ') : xM l KX g yX2_improveBy cX2_improveBy 4 none rm_X2_improveBy [.ref (g.q 46), .int x1, .int x2, .int x3] σ none σ' := by
  refine xmet pn_X2 rfl (Nat.le_of_ble_eq_true rfl) (lv := [(0, .ref (g.q 46)), (1, .int x1), (2, .int x2), (3, .int x3)]) rfl (fun p e s m args below meth c ls C hW hl => ?_)
  have hx := C.1
  have hb := C.2.1
  unfold f_X2_improveBy at h
  refine lv_aload_n hx hb dX2_improveBy_0 rfl (lv_at hl 0 rfl) ?_
  refine xg_r C hW fg_2_35 KX_46 rfl dX2_improveBy_1 ?_
  refine lv_iload_n hx hb dX2_improveBy_4 rfl (lv_at hl 2 rfl) ?_
  obtain ⟨g1, h⟩ := xgd h
  refine xa_i C hW KX_53 g1 (x := σ.1 53 x2.toNatClampNeg) rfl dX2_improveBy_5 ?_
  refine lv_ldc (v := 2147483647) hx hb C.ow (C.hts _ kc_X2_89) dX2_improveBy_6 ?_
  refine lv_icmp_eq (tgt := 38) hx hb dX2_improveBy_8 (by decide) (fun c2 => ?_) (fun c2 => ?_)
  · have h := xit c2 h
    cases h
    exact xr_v C hW dX2_improveBy_38
  · have h := xif c2 h
    refine lv_aload_n hx hb dX2_improveBy_11 rfl (lv_at hl 0 rfl) ?_
    refine lv_iload_n hx hb dX2_improveBy_12 rfl (lv_at hl 3 rfl) ?_
    refine lv_aload_n hx hb dX2_improveBy_13 rfl (lv_at hl 0 rfl) ?_
    refine xg_r C hW fg_2_35 KX_46 rfl dX2_improveBy_14 ?_
    refine lv_iload_n hx hb dX2_improveBy_17 rfl (lv_at hl 2 rfl) ?_
    obtain ⟨g3, h⟩ := xgd h
    refine xa_i C hW KX_53 g3 (x := σ.1 53 x2.toNatClampNeg) rfl dX2_improveBy_18 ?_
    refine lv_aload_n hx hb dX2_improveBy_19 rfl (lv_at hl 0 rfl) ?_
    refine lv_iload_n hx hb dX2_improveBy_20 rfl (lv_at hl 1 rfl) ?_
    obtain ⟨r4_, e4, h⟩ := xbo h
    refine xc_V (As := [.int x1]) (rest := [.int (σ.1 53 x2.toNatClampNeg), .int x3, .ref (g.q 46)]) C hW (m_X2_costOf x1 _ e4) mf_X2_costOf mv_X2_costOf ml_X2_106 ⟨rfl, rfl⟩ ⟨Nat.le_of_ble_eq_true rfl, Nat.le_of_ble_eq_true rfl⟩ KX_46 rfl hl.1 rfl rfl (Nat.le_of_ble_eq_true rfl) dX2_improveBy_21 (fun H locs hW => W.eq (g2 := F0 m 24 ls [.int r4_, .int (σ.1 53 x2.toNatClampNeg), .int x3, .ref (g.q 46)]) rfl ?_)
    refine lv_iadd hx hb dX2_improveBy_24 ?_
    refine lv_aload_n hx hb dX2_improveBy_25 rfl (lv_at hl 0 rfl) ?_
    refine xg_r C hW fg_2_38 KX_46 rfl dX2_improveBy_26 ?_
    refine lv_iload_n hx hb dX2_improveBy_29 rfl (lv_at hl 2 rfl) ?_
    obtain ⟨g5, h⟩ := xgd h
    refine xa_l C hW KX_54 g5 (x := σ.2 54 x2.toNatClampNeg) rfl dX2_improveBy_30 ?_
    refine lv_iload_n hx hb dX2_improveBy_31 rfl (lv_at hl 1 rfl) ?_
    refine xc_SN (As := [.long (σ.2 54 x2.toNatClampNeg), .int x1]) (rest := [.int ((σ.1 53 x2.toNatClampNeg) + r4_), .int x3, .ref (g.q 46)]) C hW (m_X11_withSign (σ.2 54 x2.toNatClampNeg) x1 _ rfl) mf_X11_withSign mt_X11_withSign xn_X2_130 ⟨rfl, rfl⟩ ⟨Nat.le_of_ble_eq_true rfl, Nat.le_of_ble_eq_true rfl⟩ hl.1 rfl rfl (Nat.le_of_ble_eq_true rfl) dX2_improveBy_32 (fun H locs hW => W.eq (g2 := F0 m 35 ls [.long (f_X11_withSign (σ.2 54 x2.toNatClampNeg) x1 σ), .int ((σ.1 53 x2.toNatClampNeg) + r4_), .int x3, .ref (g.q 46)]) rfl ?_)
    obtain ⟨σ6, e6, h⟩ := xbo h
    refine xc_V (As := [.int x3, .int ((σ.1 53 x2.toNatClampNeg) + r4_), .long (f_X11_withSign (σ.2 54 x2.toNatClampNeg) x1 σ)]) (rest := []) C hW (m_X2_improve x3 ((σ.1 53 x2.toNatClampNeg) + r4_) (f_X11_withSign (σ.2 54 x2.toNatClampNeg) x1 σ) _ e6) mf_X2_improve mv_X2_improve ml_X2_109 ⟨rfl, rfl⟩ ⟨Nat.le_of_ble_eq_true rfl, Nat.le_of_ble_eq_true rfl⟩ KX_46 rfl hl.1 rfl rfl (Nat.le_of_ble_eq_true rfl) dX2_improveBy_35 (fun H locs hW => W.eq (g2 := F0 m 38 ls []) rfl ?_)
    cases h
    exact xr_v C hW dX2_improveBy_38
end
theorem dX2_coverFrom_0 : decode cX2_coverFrom 0 = .ok (.iconst 0, 1) := by decide +kernel
theorem dX2_coverFrom_1 : decode cX2_coverFrom 1 = .ok (.istore_n 2, 1) := by decide +kernel
theorem dX2_coverFrom_2 : decode cX2_coverFrom 2 = .ok (.iload_n 2, 1) := by decide +kernel
theorem dX2_coverFrom_3 : decode cX2_coverFrom 3 = .ok (.aload_n 0, 1) := by decide +kernel
theorem dX2_coverFrom_4 : decode cX2_coverFrom 4 = .ok (.getfield 47, 3) := by decide +kernel
theorem dX2_coverFrom_7 : decode cX2_coverFrom 7 = .ok (.getfield 101, 3) := by decide +kernel
theorem dX2_coverFrom_10 : decode cX2_coverFrom 10 = .ok (.if_icmp .ge 38, 3) := by decide +kernel
theorem dX2_coverFrom_13 : decode cX2_coverFrom 13 = .ok (.aload_n 0, 1) := by decide +kernel
theorem dX2_coverFrom_14 : decode cX2_coverFrom 14 = .ok (.getfield 51, 3) := by decide +kernel
theorem dX2_coverFrom_17 : decode cX2_coverFrom 17 = .ok (.iload_n 2, 1) := by decide +kernel
theorem dX2_coverFrom_18 : decode cX2_coverFrom 18 = .ok (.iload_n 1, 1) := by decide +kernel
theorem dX2_coverFrom_19 : decode cX2_coverFrom 19 = .ok (.invokevirtual 124, 3) := by decide +kernel
theorem dX2_coverFrom_22 : decode cX2_coverFrom 22 = .ok (.ifCond .eq 20, 3) := by decide +kernel
theorem dX2_coverFrom_25 : decode cX2_coverFrom 25 = .ok (.aload_n 0, 1) := by decide +kernel
theorem dX2_coverFrom_26 : decode cX2_coverFrom 26 = .ok (.iload_n 2, 1) := by decide +kernel
theorem dX2_coverFrom_27 : decode cX2_coverFrom 27 = .ok (.iload_n 1, 1) := by decide +kernel
theorem dX2_coverFrom_28 : decode cX2_coverFrom 28 = .ok (.iload_n 1, 1) := by decide +kernel
theorem dX2_coverFrom_29 : decode cX2_coverFrom 29 = .ok (.aload_n 0, 1) := by decide +kernel
theorem dX2_coverFrom_30 : decode cX2_coverFrom 30 = .ok (.getfield 47, 3) := by decide +kernel
theorem dX2_coverFrom_33 : decode cX2_coverFrom 33 = .ok (.getfield 127, 3) := by decide +kernel
theorem dX2_coverFrom_36 : decode cX2_coverFrom 36 = .ok (.iload_n 2, 1) := by decide +kernel
theorem dX2_coverFrom_37 : decode cX2_coverFrom 37 = .ok (.iaload, 1) := by decide +kernel
theorem dX2_coverFrom_38 : decode cX2_coverFrom 38 = .ok (.iadd, 1) := by decide +kernel
theorem dX2_coverFrom_39 : decode cX2_coverFrom 39 = .ok (.invokevirtual 120, 3) := by decide +kernel
theorem dX2_coverFrom_42 : decode cX2_coverFrom 42 = .ok (.iinc 2 1, 3) := by decide +kernel
theorem dX2_coverFrom_45 : decode cX2_coverFrom 45 = .ok (.goto (-43), 3) := by decide +kernel
theorem dX2_coverFrom_48 : decode cX2_coverFrom 48 = .ok (.return_, 1) := by decide +kernel
abbrev rm_X2_coverFrom : Room := { frames := 3, cells := 0, slots := 0, locals := 65 }
def f_X2_coverFrom_2 (N : Nat) : Nat → Int32 → Int32 → St → Option St
  | 0, _, _, _ => none
  | n + 1, x1, x2, σ => (if (σ.1 1200 0) ≤ x2 then some σ else bo (f_X7_covers x2 x1 σ) (fun r2_ => (if r2_ = 0 then f_X2_coverFrom_2 N n x1 (x2 + 1) σ else grd (ib x2 40) (bo (f_X2_improveBy x2 x1 (x1 + (σ.1 7 x2.toNatClampNeg)) σ) (fun σ5 => f_X2_coverFrom_2 N n x1 (x2 + 1) σ5)))))
def f_X2_coverFrom (N : Nat) (x1 : Int32) (σ : St) : Option St := f_X2_coverFrom_2 N N x1 0 σ
section
variable {p : Program} {l : Launch} {e : Env} {s : State} {m : MethodId} {args : Array Value} {below : List Frame} {meth : Method} {c : Code} {g : XG}
set_option maxRecDepth 4000 in
theorem w_X2_coverFrom_2 (N : Nat) {σ' : St} (C : xC KX g RX2 cX2_coverFrom 3 none p s m args meth c) : ∀ (n : Nat), ∀ (x1 : Int32) (x2 : Int32) (σ : St) (H : Heap) (locs : List Loc) (ls : Array Slot), xW KX g s σ H locs → lv_has ls 3 [(0, .ref (g.q 46)), (1, .int x1), (2, .int x2)] → f_X2_coverFrom_2 N n x1 x2 σ = some σ' → W p l e rm_X2_coverFrom s m args below meth c H locs 0 0 (MQ below (xPost KX g none σ') args s 0 0 (xA KX g.q)) (F0 m 2 ls []) := by
  have hx := C.1
  have hb := C.2.1
  intro n
  induction n with
  | zero => intro x1 x2 σ H locs ls hW hl h; rw [f_X2_coverFrom_2] at h; cases h
  | succ n ih =>
    intro x1 x2 σ H locs ls hW hl h
    rw [f_X2_coverFrom_2] at h
    refine lv_iload_n hx hb dX2_coverFrom_2 rfl (lv_at hl 2 rfl) ?_
    refine lv_aload_n hx hb dX2_coverFrom_3 rfl (lv_at hl 0 rfl) ?_
    refine xg_r C hW fg_2_47 KX_46 rfl dX2_coverFrom_4 ?_
    refine xg_i C hW fg_2_101 KX_1 rfl (v := 1200) rfl (x := σ.1 1200 0) rfl dX2_coverFrom_7 ?_
    refine lv_icmp_ge (tgt := 48) hx hb dX2_coverFrom_10 (by decide) (fun c1 => ?_) (fun c1 => ?_)
    · have h := xit c1 h
      cases h
      exact xr_v C hW dX2_coverFrom_48
    · have h := xif c1 h
      refine lv_aload_n hx hb dX2_coverFrom_13 rfl (lv_at hl 0 rfl) ?_
      refine xg_r C hW fg_2_51 KX_46 rfl dX2_coverFrom_14 ?_
      refine lv_iload_n hx hb dX2_coverFrom_17 rfl (lv_at hl 2 rfl) ?_
      refine lv_iload_n hx hb dX2_coverFrom_18 rfl (lv_at hl 1 rfl) ?_
      obtain ⟨r2_, e2, h⟩ := xbo h
      refine xc_V (As := [.int x2, .int x1]) (rest := []) C hW (m_X7_covers x2 x1 _ e2) mf_X7_covers mv_X7_covers ml_X2_124 ⟨rfl, rfl⟩ ⟨Nat.le_of_ble_eq_true rfl, Nat.le_of_ble_eq_true rfl⟩ KX_38 rfl hl.1 rfl rfl (Nat.le_of_ble_eq_true rfl) dX2_coverFrom_19 (fun H locs hW => W.eq (g2 := F0 m 22 ls [.int r2_]) rfl ?_)
      refine lv_if_eq (tgt := 42) hx hb dX2_coverFrom_22 (by decide) (fun c3 => ?_) (fun c3 => ?_)
      · have h := xit c3 h
        refine lv_iinc (v := x2 + 1) (lv' := [(2, .int (x2 + 1)), (0, .ref (g.q 46)), (1, .int x1)]) hx hb dX2_coverFrom_42 hl (k := 2) rfl rfl (Nat.le_of_ble_eq_true rfl) rfl (fun ls hl => ?_)
        refine lv_goto (tgt := 2) hx hb dX2_coverFrom_45 (by decide) ?_
        exact ih x1 (x2 + 1) _ _ _ _ hW (lv_sub hl [1, 2, 0] rfl) h
      · have h := xif c3 h
        refine lv_aload_n hx hb dX2_coverFrom_25 rfl (lv_at hl 0 rfl) ?_
        refine lv_iload_n hx hb dX2_coverFrom_26 rfl (lv_at hl 2 rfl) ?_
        refine lv_iload_n hx hb dX2_coverFrom_27 rfl (lv_at hl 1 rfl) ?_
        refine lv_iload_n hx hb dX2_coverFrom_28 rfl (lv_at hl 1 rfl) ?_
        refine lv_aload_n hx hb dX2_coverFrom_29 rfl (lv_at hl 0 rfl) ?_
        refine xg_r C hW fg_2_47 KX_46 rfl dX2_coverFrom_30 ?_
        refine xg_r C hW fg_2_127 KX_1 rfl dX2_coverFrom_33 ?_
        refine lv_iload_n hx hb dX2_coverFrom_36 rfl (lv_at hl 2 rfl) ?_
        obtain ⟨g4, h⟩ := xgd h
        refine xa_i C hW KX_7 g4 (x := σ.1 7 x2.toNatClampNeg) rfl dX2_coverFrom_37 ?_
        refine lv_iadd hx hb dX2_coverFrom_38 ?_
        obtain ⟨σ5, e5, h⟩ := xbo h
        refine xc_V (As := [.int x2, .int x1, .int (x1 + (σ.1 7 x2.toNatClampNeg))]) (rest := []) C hW (m_X2_improveBy x2 x1 (x1 + (σ.1 7 x2.toNatClampNeg)) _ e5) mf_X2_improveBy mv_X2_improveBy ml_X2_120 ⟨rfl, rfl⟩ ⟨Nat.le_of_ble_eq_true rfl, Nat.le_of_ble_eq_true rfl⟩ KX_46 rfl hl.1 rfl rfl (Nat.le_of_ble_eq_true rfl) dX2_coverFrom_39 (fun H locs hW => W.eq (g2 := F0 m 42 ls []) rfl ?_)
        refine lv_iinc (v := x2 + 1) (lv' := [(2, .int (x2 + 1)), (0, .ref (g.q 46)), (1, .int x1)]) hx hb dX2_coverFrom_42 hl (k := 2) rfl rfl (Nat.le_of_ble_eq_true rfl) rfl (fun ls hl => ?_)
        refine lv_goto (tgt := 2) hx hb dX2_coverFrom_45 (by decide) ?_
        exact ih x1 (x2 + 1) _ _ _ _ hW (lv_sub hl [1, 2, 0] rfl) h
set_option maxRecDepth 4000 in
theorem m_X2_coverFrom (N : Nat) (x1 : Int32) (σ : St) {σ' : St} (h : f_X2_coverFrom N x1 σ = some σ') : xM l KX g yX2_coverFrom cX2_coverFrom 3 none rm_X2_coverFrom [.ref (g.q 46), .int x1] σ none σ' := by
  refine xmet pn_X2 rfl (Nat.le_of_ble_eq_true rfl) (lv := [(0, .ref (g.q 46)), (1, .int x1)]) rfl (fun p e s m args below meth c ls C hW hl => ?_)
  have hx := C.1
  have hb := C.2.1
  unfold f_X2_coverFrom at h
  refine lv_iconst (v := 0) hx hb dX2_coverFrom_0 rfl ?_
  refine lv_istore_n (lv' := [(2, .int 0), (0, .ref (g.q 46)), (1, .int x1)]) hx hb dX2_coverFrom_1 rfl hl (Nat.le_of_ble_eq_true rfl) rfl (fun ls hl => ?_)
  exact w_X2_coverFrom_2 N C N x1 0 _ _ _ _ hW (lv_sub hl [1, 2, 0] rfl) h
end
theorem dX2_findBest_0 : decode cX2_findBest 0 = .ok (.aload_n 0, 1) := by decide +kernel
theorem dX2_findBest_1 : decode cX2_findBest 1 = .ok (.iload_n 1, 1) := by decide +kernel
theorem dX2_findBest_2 : decode cX2_findBest 2 = .ok (.iconst 2, 1) := by decide +kernel
theorem dX2_findBest_3 : decode cX2_findBest 3 = .ok (.invokevirtual 71, 3) := by decide +kernel
theorem dX2_findBest_6 : decode cX2_findBest 6 = .ok (.ifCond .ne 4, 3) := by decide +kernel
theorem dX2_findBest_9 : decode cX2_findBest 9 = .ok (.return_, 1) := by decide +kernel
theorem dX2_findBest_10 : decode cX2_findBest 10 = .ok (.aload_n 0, 1) := by decide +kernel
theorem dX2_findBest_11 : decode cX2_findBest 11 = .ok (.getfield 51, 3) := by decide +kernel
theorem dX2_findBest_14 : decode cX2_findBest 14 = .ok (.aload_n 0, 1) := by decide +kernel
theorem dX2_findBest_15 : decode cX2_findBest 15 = .ok (.getfield 47, 3) := by decide +kernel
theorem dX2_findBest_18 : decode cX2_findBest 18 = .ok (.iload_n 1, 1) := by decide +kernel
theorem dX2_findBest_19 : decode cX2_findBest 19 = .ok (.invokevirtual 75, 3) := by decide +kernel
theorem dX2_findBest_22 : decode cX2_findBest 22 = .ok (.aload_n 0, 1) := by decide +kernel
theorem dX2_findBest_23 : decode cX2_findBest 23 = .ok (.getfield 35, 3) := by decide +kernel
theorem dX2_findBest_26 : decode cX2_findBest 26 = .ok (.ldc 89, 2) := by decide +kernel
theorem dX2_findBest_28 : decode cX2_findBest 28 = .ok (.invokestatic 59, 3) := by decide +kernel
theorem dX2_findBest_31 : decode cX2_findBest 31 = .ok (.aload_n 0, 1) := by decide +kernel
theorem dX2_findBest_32 : decode cX2_findBest 32 = .ok (.getfield 35, 3) := by decide +kernel
theorem dX2_findBest_35 : decode cX2_findBest 35 = .ok (.iconst 0, 1) := by decide +kernel
theorem dX2_findBest_36 : decode cX2_findBest 36 = .ok (.iconst 0, 1) := by decide +kernel
theorem dX2_findBest_37 : decode cX2_findBest 37 = .ok (.iastore, 1) := by decide +kernel
theorem dX2_findBest_38 : decode cX2_findBest 38 = .ok (.aload_n 0, 1) := by decide +kernel
theorem dX2_findBest_39 : decode cX2_findBest 39 = .ok (.getfield 38, 3) := by decide +kernel
theorem dX2_findBest_42 : decode cX2_findBest 42 = .ok (.iconst 0, 1) := by decide +kernel
theorem dX2_findBest_43 : decode cX2_findBest 43 = .ok (.lconst 0, 1) := by decide +kernel
theorem dX2_findBest_44 : decode cX2_findBest 44 = .ok (.lastore, 1) := by decide +kernel
theorem dX2_findBest_45 : decode cX2_findBest 45 = .ok (.aload_n 0, 1) := by decide +kernel
theorem dX2_findBest_46 : decode cX2_findBest 46 = .ok (.getfield 51, 3) := by decide +kernel
theorem dX2_findBest_49 : decode cX2_findBest 49 = .ok (.getfield 94, 3) := by decide +kernel
theorem dX2_findBest_52 : decode cX2_findBest 52 = .ok (.istore_n 2, 1) := by decide +kernel
theorem dX2_findBest_53 : decode cX2_findBest 53 = .ok (.iconst 0, 1) := by decide +kernel
theorem dX2_findBest_54 : decode cX2_findBest 54 = .ok (.istore_n 3, 1) := by decide +kernel
theorem dX2_findBest_55 : decode cX2_findBest 55 = .ok (.iload_n 3, 1) := by decide +kernel
theorem dX2_findBest_56 : decode cX2_findBest 56 = .ok (.iload_n 2, 1) := by decide +kernel
theorem dX2_findBest_57 : decode cX2_findBest 57 = .ok (.if_icmp .ge 14, 3) := by decide +kernel
theorem dX2_findBest_60 : decode cX2_findBest 60 = .ok (.aload_n 0, 1) := by decide +kernel
theorem dX2_findBest_61 : decode cX2_findBest 61 = .ok (.iload_n 3, 1) := by decide +kernel
theorem dX2_findBest_62 : decode cX2_findBest 62 = .ok (.invokevirtual 98, 3) := by decide +kernel
theorem dX2_findBest_65 : decode cX2_findBest 65 = .ok (.iinc 3 1, 3) := by decide +kernel
theorem dX2_findBest_68 : decode cX2_findBest 68 = .ok (.goto (-13), 3) := by decide +kernel
theorem dX2_findBest_71 : decode cX2_findBest 71 = .ok (.iconst 0, 1) := by decide +kernel
theorem dX2_findBest_72 : decode cX2_findBest 72 = .ok (.istore_n 3, 1) := by decide +kernel
theorem dX2_findBest_73 : decode cX2_findBest 73 = .ok (.iload_n 3, 1) := by decide +kernel
theorem dX2_findBest_74 : decode cX2_findBest 74 = .ok (.aload_n 0, 1) := by decide +kernel
theorem dX2_findBest_75 : decode cX2_findBest 75 = .ok (.getfield 47, 3) := by decide +kernel
theorem dX2_findBest_78 : decode cX2_findBest 78 = .ok (.getfield 101, 3) := by decide +kernel
theorem dX2_findBest_81 : decode cX2_findBest 81 = .ok (.if_icmp .ge 32, 3) := by decide +kernel
theorem dX2_findBest_84 : decode cX2_findBest 84 = .ok (.aload_n 0, 1) := by decide +kernel
theorem dX2_findBest_85 : decode cX2_findBest 85 = .ok (.getfield 51, 3) := by decide +kernel
theorem dX2_findBest_88 : decode cX2_findBest 88 = .ok (.iload_n 3, 1) := by decide +kernel
theorem dX2_findBest_89 : decode cX2_findBest 89 = .ok (.invokevirtual 102, 3) := by decide +kernel
theorem dX2_findBest_92 : decode cX2_findBest 92 = .ok (.ifCond .eq 15, 3) := by decide +kernel
theorem dX2_findBest_95 : decode cX2_findBest 95 = .ok (.aload_n 0, 1) := by decide +kernel
theorem dX2_findBest_96 : decode cX2_findBest 96 = .ok (.iload_n 2, 1) := by decide +kernel
theorem dX2_findBest_97 : decode cX2_findBest 97 = .ok (.aload_n 0, 1) := by decide +kernel
theorem dX2_findBest_98 : decode cX2_findBest 98 = .ok (.iload_n 3, 1) := by decide +kernel
theorem dX2_findBest_99 : decode cX2_findBest 99 = .ok (.invokevirtual 106, 3) := by decide +kernel
theorem dX2_findBest_102 : decode cX2_findBest 102 = .ok (.iload_n 3, 1) := by decide +kernel
theorem dX2_findBest_103 : decode cX2_findBest 103 = .ok (.i2l, 1) := by decide +kernel
theorem dX2_findBest_104 : decode cX2_findBest 104 = .ok (.invokevirtual 109, 3) := by decide +kernel
theorem dX2_findBest_107 : decode cX2_findBest 107 = .ok (.iinc 3 1, 3) := by decide +kernel
theorem dX2_findBest_110 : decode cX2_findBest 110 = .ok (.goto (-37), 3) := by decide +kernel
theorem dX2_findBest_113 : decode cX2_findBest 113 = .ok (.aload_n 0, 1) := by decide +kernel
theorem dX2_findBest_114 : decode cX2_findBest 114 = .ok (.getfield 51, 3) := by decide +kernel
theorem dX2_findBest_117 : decode cX2_findBest 117 = .ok (.invokevirtual 113, 3) := by decide +kernel
theorem dX2_findBest_120 : decode cX2_findBest 120 = .ok (.ifCond .eq 45, 3) := by decide +kernel
theorem dX2_findBest_123 : decode cX2_findBest 123 = .ok (.iconst 0, 1) := by decide +kernel
theorem dX2_findBest_124 : decode cX2_findBest 124 = .ok (.istore_n 3, 1) := by decide +kernel
theorem dX2_findBest_125 : decode cX2_findBest 125 = .ok (.iload_n 3, 1) := by decide +kernel
theorem dX2_findBest_126 : decode cX2_findBest 126 = .ok (.aload_n 0, 1) := by decide +kernel
theorem dX2_findBest_127 : decode cX2_findBest 127 = .ok (.getfield 47, 3) := by decide +kernel
theorem dX2_findBest_130 : decode cX2_findBest 130 = .ok (.getfield 101, 3) := by decide +kernel
theorem dX2_findBest_133 : decode cX2_findBest 133 = .ok (.if_icmp .ge 29, 3) := by decide +kernel
theorem dX2_findBest_136 : decode cX2_findBest 136 = .ok (.aload_n 0, 1) := by decide +kernel
theorem dX2_findBest_137 : decode cX2_findBest 137 = .ok (.getfield 51, 3) := by decide +kernel
theorem dX2_findBest_140 : decode cX2_findBest 140 = .ok (.iload_n 3, 1) := by decide +kernel
theorem dX2_findBest_141 : decode cX2_findBest 141 = .ok (.invokevirtual 117, 3) := by decide +kernel
theorem dX2_findBest_144 : decode cX2_findBest 144 = .ok (.ifCond .eq 12, 3) := by decide +kernel
theorem dX2_findBest_147 : decode cX2_findBest 147 = .ok (.aload_n 0, 1) := by decide +kernel
theorem dX2_findBest_148 : decode cX2_findBest 148 = .ok (.iload_n 3, 1) := by decide +kernel
theorem dX2_findBest_149 : decode cX2_findBest 149 = .ok (.iload_n 2, 1) := by decide +kernel
theorem dX2_findBest_150 : decode cX2_findBest 150 = .ok (.iload_n 2, 1) := by decide +kernel
theorem dX2_findBest_151 : decode cX2_findBest 151 = .ok (.iconst 1, 1) := by decide +kernel
theorem dX2_findBest_152 : decode cX2_findBest 152 = .ok (.iadd, 1) := by decide +kernel
theorem dX2_findBest_153 : decode cX2_findBest 153 = .ok (.invokevirtual 120, 3) := by decide +kernel
theorem dX2_findBest_156 : decode cX2_findBest 156 = .ok (.iinc 3 1, 3) := by decide +kernel
theorem dX2_findBest_159 : decode cX2_findBest 159 = .ok (.goto (-34), 3) := by decide +kernel
theorem dX2_findBest_162 : decode cX2_findBest 162 = .ok (.iinc 2 1, 3) := by decide +kernel
theorem dX2_findBest_165 : decode cX2_findBest 165 = .ok (.aload_n 0, 1) := by decide +kernel
theorem dX2_findBest_166 : decode cX2_findBest 166 = .ok (.getfield 22, 3) := by decide +kernel
theorem dX2_findBest_169 : decode cX2_findBest 169 = .ok (.iload_n 1, 1) := by decide +kernel
theorem dX2_findBest_170 : decode cX2_findBest 170 = .ok (.aload_n 0, 1) := by decide +kernel
theorem dX2_findBest_171 : decode cX2_findBest 171 = .ok (.getfield 35, 3) := by decide +kernel
theorem dX2_findBest_174 : decode cX2_findBest 174 = .ok (.iload_n 2, 1) := by decide +kernel
theorem dX2_findBest_175 : decode cX2_findBest 175 = .ok (.iaload, 1) := by decide +kernel
theorem dX2_findBest_176 : decode cX2_findBest 176 = .ok (.iastore, 1) := by decide +kernel
theorem dX2_findBest_177 : decode cX2_findBest 177 = .ok (.aload_n 0, 1) := by decide +kernel
theorem dX2_findBest_178 : decode cX2_findBest 178 = .ok (.getfield 25, 3) := by decide +kernel
theorem dX2_findBest_181 : decode cX2_findBest 181 = .ok (.iload_n 1, 1) := by decide +kernel
theorem dX2_findBest_182 : decode cX2_findBest 182 = .ok (.aload_n 0, 1) := by decide +kernel
theorem dX2_findBest_183 : decode cX2_findBest 183 = .ok (.getfield 38, 3) := by decide +kernel
theorem dX2_findBest_186 : decode cX2_findBest 186 = .ok (.iload_n 2, 1) := by decide +kernel
theorem dX2_findBest_187 : decode cX2_findBest 187 = .ok (.laload, 1) := by decide +kernel
theorem dX2_findBest_188 : decode cX2_findBest 188 = .ok (.lastore, 1) := by decide +kernel
theorem dX2_findBest_189 : decode cX2_findBest 189 = .ok (.return_, 1) := by decide +kernel
abbrev rm_X2_findBest : Room := { frames := 4, cells := 0, slots := 0, locals := 87 }
def f_X2_findBest_165 (N : Nat) (x1 : Int32) (x2 : Int32) (σ : St) : Option St := grd (ib x2 13) (grd (ib x1 40) (grd (ib x2 13) (grd (ib x1 40) (some ((sl (si σ 49 x1.toNatClampNeg (σ.1 53 x2.toNatClampNeg)) 50 x1.toNatClampNeg (σ.2 54 x2.toNatClampNeg)))))))
def f_X2_findBest_125 (N : Nat) : Nat → Int32 → Int32 → Int32 → St → Option St
  | 0, _, _, _, _ => none
  | n + 1, x1, x2, x3, σ => (if (σ.1 1200 0) ≤ x3 then f_X2_findBest_165 N x1 (x2 + 1) σ else bo (f_X7_isOfKind x3 σ) (fun r16_ => (if r16_ = 0 then f_X2_findBest_125 N n x1 x2 (x3 + 1) σ else bo (f_X2_improveBy x3 x2 (x2 + 1) σ) (fun σ18 => f_X2_findBest_125 N n x1 x2 (x3 + 1) σ18))))
def f_X2_findBest_73 (N : Nat) : Nat → Int32 → Int32 → Int32 → St → Option St
  | 0, _, _, _, _ => none
  | n + 1, x1, x2, x3, σ => (if (σ.1 1200 0) ≤ x3 then (if (f_X7_hasKind σ) = 0 then f_X2_findBest_165 N x1 x2 σ else f_X2_findBest_125 N N x1 x2 0 σ) else bo (f_X7_isIdea x3 σ) (fun r11_ => (if r11_ = 0 then f_X2_findBest_73 N n x1 x2 (x3 + 1) σ else bo (f_X2_costOf x3 σ) (fun r13_ => bo (f_X2_improve x2 r13_ x3.toInt64 σ) (fun σ14 => f_X2_findBest_73 N n x1 x2 (x3 + 1) σ14)))))
def f_X2_findBest_55 (N : Nat) : Nat → Int32 → Int32 → Int32 → St → Option St
  | 0, _, _, _, _ => none
  | n + 1, x1, x2, x3, σ => (if x2 ≤ x3 then f_X2_findBest_73 N N x1 x2 0 σ else bo (f_X2_coverFrom N x3 σ) (fun σ8 => f_X2_findBest_55 N n x1 x2 (x3 + 1) σ8))
def f_X2_findBest (N : Nat) (x1 : Int32) (σ : St) : Option St := bd (f_X2_isNew x1 2 σ) (fun r1_ σ1 => (if r1_ = 0 then some σ1 else bo (f_X7_look 1 x1 σ1) (fun σ3 => bo (f_J7_fill_53178 53 13 N 2147483647 σ3) (fun σ4 => grd (ib 0 13) (grd (ib 0 13) (f_X2_findBest_55 N N x1 (σ4.1 8606 0) 0 (sl (si σ4 53 0 0) 54 0 0)))))))
section
variable {p : Program} {l : Launch} {e : Env} {s : State} {m : MethodId} {args : Array Value} {below : List Frame} {meth : Method} {c : Code} {g : XG}
set_option maxRecDepth 4000 in
theorem w_X2_findBest_165 (N : Nat) {σ' : St} (C : xC KX g RX2 cX2_findBest 4 none p s m args meth c) : ∀ (x1 : Int32) (x2 : Int32) (σ : St) (H : Heap) (locs : List Loc) (ls : Array Slot), xW KX g s σ H locs → lv_has ls 4 [(0, .ref (g.q 46)), (1, .int x1), (2, .int x2)] → f_X2_findBest_165 N x1 x2 σ = some σ' → W p l e rm_X2_findBest s m args below meth c H locs 0 0 (MQ below (xPost KX g none σ') args s 0 0 (xA KX g.q)) (F0 m 165 ls []) := by
  have hx := C.1
  have hb := C.2.1
  intro x1 x2 σ H locs ls hW hl h
  unfold f_X2_findBest_165 at h
  refine lv_aload_n hx hb dX2_findBest_165 rfl (lv_at hl 0 rfl) ?_
  refine xg_r C hW fg_2_22 KX_46 rfl dX2_findBest_166 ?_
  refine lv_iload_n hx hb dX2_findBest_169 rfl (lv_at hl 1 rfl) ?_
  refine lv_aload_n hx hb dX2_findBest_170 rfl (lv_at hl 0 rfl) ?_
  refine xg_r C hW fg_2_35 KX_46 rfl dX2_findBest_171 ?_
  refine lv_iload_n hx hb dX2_findBest_174 rfl (lv_at hl 2 rfl) ?_
  obtain ⟨g19, h⟩ := xgd h
  refine xa_i C hW KX_53 g19 (x := σ.1 53 x2.toNatClampNeg) rfl dX2_findBest_175 ?_
  obtain ⟨g20, h⟩ := xgd h
  refine xs_i C hW KX_49 g20 dX2_findBest_176 (fun H locs hW => ?_)
  refine lv_aload_n hx hb dX2_findBest_177 rfl (lv_at hl 0 rfl) ?_
  refine xg_r C hW fg_2_25 KX_46 rfl dX2_findBest_178 ?_
  refine lv_iload_n hx hb dX2_findBest_181 rfl (lv_at hl 1 rfl) ?_
  refine lv_aload_n hx hb dX2_findBest_182 rfl (lv_at hl 0 rfl) ?_
  refine xg_r C hW fg_2_38 KX_46 rfl dX2_findBest_183 ?_
  refine lv_iload_n hx hb dX2_findBest_186 rfl (lv_at hl 2 rfl) ?_
  obtain ⟨g21, h⟩ := xgd h
  refine xa_l C hW KX_54 g21 (x := σ.2 54 x2.toNatClampNeg) rfl dX2_findBest_187 ?_
  obtain ⟨g22, h⟩ := xgd h
  refine xs_l C hW KX_50 g22 dX2_findBest_188 (fun H locs hW => ?_)
  cases h
  exact xr_v C hW dX2_findBest_189
set_option maxRecDepth 4000 in
theorem w_X2_findBest_125 (N : Nat) {σ' : St} (C : xC KX g RX2 cX2_findBest 4 none p s m args meth c) : ∀ (n : Nat), ∀ (x1 : Int32) (x2 : Int32) (x3 : Int32) (σ : St) (H : Heap) (locs : List Loc) (ls : Array Slot), xW KX g s σ H locs → lv_has ls 4 [(0, .ref (g.q 46)), (1, .int x1), (2, .int x2), (3, .int x3)] → f_X2_findBest_125 N n x1 x2 x3 σ = some σ' → W p l e rm_X2_findBest s m args below meth c H locs 0 0 (MQ below (xPost KX g none σ') args s 0 0 (xA KX g.q)) (F0 m 125 ls []) := by
  have hx := C.1
  have hb := C.2.1
  intro n
  induction n with
  | zero => intro x1 x2 x3 σ H locs ls hW hl h; rw [f_X2_findBest_125] at h; cases h
  | succ n ih =>
    intro x1 x2 x3 σ H locs ls hW hl h
    rw [f_X2_findBest_125] at h
    refine lv_iload_n hx hb dX2_findBest_125 rfl (lv_at hl 3 rfl) ?_
    refine lv_aload_n hx hb dX2_findBest_126 rfl (lv_at hl 0 rfl) ?_
    refine xg_r C hW fg_2_47 KX_46 rfl dX2_findBest_127 ?_
    refine xg_i C hW fg_2_101 KX_1 rfl (v := 1200) rfl (x := σ.1 1200 0) rfl dX2_findBest_130 ?_
    refine lv_icmp_ge (tgt := 162) hx hb dX2_findBest_133 (by decide) (fun c15 => ?_) (fun c15 => ?_)
    · have h := xit c15 h
      refine lv_iinc (v := x2 + 1) (lv' := [(2, .int (x2 + 1)), (0, .ref (g.q 46)), (1, .int x1), (3, .int x3)]) hx hb dX2_findBest_162 hl (k := 2) rfl rfl (Nat.le_of_ble_eq_true rfl) rfl (fun ls hl => ?_)
      exact w_X2_findBest_165 N C x1 (x2 + 1) _ _ _ _ hW (lv_sub hl [1, 2, 0] rfl) h
    · have h := xif c15 h
      refine lv_aload_n hx hb dX2_findBest_136 rfl (lv_at hl 0 rfl) ?_
      refine xg_r C hW fg_2_51 KX_46 rfl dX2_findBest_137 ?_
      refine lv_iload_n hx hb dX2_findBest_140 rfl (lv_at hl 3 rfl) ?_
      obtain ⟨r16_, e16, h⟩ := xbo h
      refine xc_V (As := [.int x3]) (rest := []) C hW (m_X7_isOfKind x3 _ e16) mf_X7_isOfKind mv_X7_isOfKind ml_X2_117 ⟨rfl, rfl⟩ ⟨Nat.le_of_ble_eq_true rfl, Nat.le_of_ble_eq_true rfl⟩ KX_38 rfl hl.1 rfl rfl (Nat.le_of_ble_eq_true rfl) dX2_findBest_141 (fun H locs hW => W.eq (g2 := F0 m 144 ls [.int r16_]) rfl ?_)
      refine lv_if_eq (tgt := 156) hx hb dX2_findBest_144 (by decide) (fun c17 => ?_) (fun c17 => ?_)
      · have h := xit c17 h
        refine lv_iinc (v := x3 + 1) (lv' := [(3, .int (x3 + 1)), (0, .ref (g.q 46)), (1, .int x1), (2, .int x2)]) hx hb dX2_findBest_156 hl (k := 3) rfl rfl (Nat.le_of_ble_eq_true rfl) rfl (fun ls hl => ?_)
        refine lv_goto (tgt := 125) hx hb dX2_findBest_159 (by decide) ?_
        exact ih x1 x2 (x3 + 1) _ _ _ _ hW (lv_sub hl [1, 2, 3, 0] rfl) h
      · have h := xif c17 h
        refine lv_aload_n hx hb dX2_findBest_147 rfl (lv_at hl 0 rfl) ?_
        refine lv_iload_n hx hb dX2_findBest_148 rfl (lv_at hl 3 rfl) ?_
        refine lv_iload_n hx hb dX2_findBest_149 rfl (lv_at hl 2 rfl) ?_
        refine lv_iload_n hx hb dX2_findBest_150 rfl (lv_at hl 2 rfl) ?_
        refine lv_iconst (v := 1) hx hb dX2_findBest_151 rfl ?_
        refine lv_iadd hx hb dX2_findBest_152 ?_
        obtain ⟨σ18, e18, h⟩ := xbo h
        refine xc_V (As := [.int x3, .int x2, .int (x2 + 1)]) (rest := []) C hW (m_X2_improveBy x3 x2 (x2 + 1) _ e18) mf_X2_improveBy mv_X2_improveBy ml_X2_120 ⟨rfl, rfl⟩ ⟨Nat.le_of_ble_eq_true rfl, Nat.le_of_ble_eq_true rfl⟩ KX_46 rfl hl.1 rfl rfl (Nat.le_of_ble_eq_true rfl) dX2_findBest_153 (fun H locs hW => W.eq (g2 := F0 m 156 ls []) rfl ?_)
        refine lv_iinc (v := x3 + 1) (lv' := [(3, .int (x3 + 1)), (0, .ref (g.q 46)), (1, .int x1), (2, .int x2)]) hx hb dX2_findBest_156 hl (k := 3) rfl rfl (Nat.le_of_ble_eq_true rfl) rfl (fun ls hl => ?_)
        refine lv_goto (tgt := 125) hx hb dX2_findBest_159 (by decide) ?_
        exact ih x1 x2 (x3 + 1) _ _ _ _ hW (lv_sub hl [1, 2, 3, 0] rfl) h
set_option maxRecDepth 4000 in
theorem w_X2_findBest_73 (N : Nat) {σ' : St} (C : xC KX g RX2 cX2_findBest 4 none p s m args meth c) : ∀ (n : Nat), ∀ (x1 : Int32) (x2 : Int32) (x3 : Int32) (σ : St) (H : Heap) (locs : List Loc) (ls : Array Slot), xW KX g s σ H locs → lv_has ls 4 [(0, .ref (g.q 46)), (1, .int x1), (2, .int x2), (3, .int x3)] → f_X2_findBest_73 N n x1 x2 x3 σ = some σ' → W p l e rm_X2_findBest s m args below meth c H locs 0 0 (MQ below (xPost KX g none σ') args s 0 0 (xA KX g.q)) (F0 m 73 ls []) := by
  have hx := C.1
  have hb := C.2.1
  intro n
  induction n with
  | zero => intro x1 x2 x3 σ H locs ls hW hl h; rw [f_X2_findBest_73] at h; cases h
  | succ n ih =>
    intro x1 x2 x3 σ H locs ls hW hl h
    rw [f_X2_findBest_73] at h
    refine lv_iload_n hx hb dX2_findBest_73 rfl (lv_at hl 3 rfl) ?_
    refine lv_aload_n hx hb dX2_findBest_74 rfl (lv_at hl 0 rfl) ?_
    refine xg_r C hW fg_2_47 KX_46 rfl dX2_findBest_75 ?_
    refine xg_i C hW fg_2_101 KX_1 rfl (v := 1200) rfl (x := σ.1 1200 0) rfl dX2_findBest_78 ?_
    refine lv_icmp_ge (tgt := 113) hx hb dX2_findBest_81 (by decide) (fun c9 => ?_) (fun c9 => ?_)
    · have h := xit c9 h
      refine lv_aload_n hx hb dX2_findBest_113 rfl (lv_at hl 0 rfl) ?_
      refine xg_r C hW fg_2_51 KX_46 rfl dX2_findBest_114 ?_
      refine xc_V (As := []) (rest := []) C hW (m_X7_hasKind _ rfl) mf_X7_hasKind mv_X7_hasKind ml_X2_113 ⟨rfl, rfl⟩ ⟨Nat.le_of_ble_eq_true rfl, Nat.le_of_ble_eq_true rfl⟩ KX_38 rfl hl.1 rfl rfl (Nat.le_of_ble_eq_true rfl) dX2_findBest_117 (fun H locs hW => W.eq (g2 := F0 m 120 ls [.int (f_X7_hasKind σ)]) rfl ?_)
      refine lv_if_eq (tgt := 165) hx hb dX2_findBest_120 (by decide) (fun c10 => ?_) (fun c10 => ?_)
      · have h := xit c10 h
        exact w_X2_findBest_165 N C x1 x2 _ _ _ _ hW (lv_sub hl [0, 1, 2] rfl) h
      · have h := xif c10 h
        refine lv_iconst (v := 0) hx hb dX2_findBest_123 rfl ?_
        refine lv_istore_n (lv' := [(3, .int 0), (0, .ref (g.q 46)), (1, .int x1), (2, .int x2)]) hx hb dX2_findBest_124 rfl hl (Nat.le_of_ble_eq_true rfl) rfl (fun ls hl => ?_)
        exact w_X2_findBest_125 N C N x1 x2 0 _ _ _ _ hW (lv_sub hl [1, 2, 3, 0] rfl) h
    · have h := xif c9 h
      refine lv_aload_n hx hb dX2_findBest_84 rfl (lv_at hl 0 rfl) ?_
      refine xg_r C hW fg_2_51 KX_46 rfl dX2_findBest_85 ?_
      refine lv_iload_n hx hb dX2_findBest_88 rfl (lv_at hl 3 rfl) ?_
      obtain ⟨r11_, e11, h⟩ := xbo h
      refine xc_V (As := [.int x3]) (rest := []) C hW (m_X7_isIdea x3 _ e11) mf_X7_isIdea mv_X7_isIdea ml_X2_102 ⟨rfl, rfl⟩ ⟨Nat.le_of_ble_eq_true rfl, Nat.le_of_ble_eq_true rfl⟩ KX_38 rfl hl.1 rfl rfl (Nat.le_of_ble_eq_true rfl) dX2_findBest_89 (fun H locs hW => W.eq (g2 := F0 m 92 ls [.int r11_]) rfl ?_)
      refine lv_if_eq (tgt := 107) hx hb dX2_findBest_92 (by decide) (fun c12 => ?_) (fun c12 => ?_)
      · have h := xit c12 h
        refine lv_iinc (v := x3 + 1) (lv' := [(3, .int (x3 + 1)), (0, .ref (g.q 46)), (1, .int x1), (2, .int x2)]) hx hb dX2_findBest_107 hl (k := 3) rfl rfl (Nat.le_of_ble_eq_true rfl) rfl (fun ls hl => ?_)
        refine lv_goto (tgt := 73) hx hb dX2_findBest_110 (by decide) ?_
        exact ih x1 x2 (x3 + 1) _ _ _ _ hW (lv_sub hl [1, 2, 3, 0] rfl) h
      · have h := xif c12 h
        refine lv_aload_n hx hb dX2_findBest_95 rfl (lv_at hl 0 rfl) ?_
        refine lv_iload_n hx hb dX2_findBest_96 rfl (lv_at hl 2 rfl) ?_
        refine lv_aload_n hx hb dX2_findBest_97 rfl (lv_at hl 0 rfl) ?_
        refine lv_iload_n hx hb dX2_findBest_98 rfl (lv_at hl 3 rfl) ?_
        obtain ⟨r13_, e13, h⟩ := xbo h
        refine xc_V (As := [.int x3]) (rest := [.int x2, .ref (g.q 46)]) C hW (m_X2_costOf x3 _ e13) mf_X2_costOf mv_X2_costOf ml_X2_106 ⟨rfl, rfl⟩ ⟨Nat.le_of_ble_eq_true rfl, Nat.le_of_ble_eq_true rfl⟩ KX_46 rfl hl.1 rfl rfl (Nat.le_of_ble_eq_true rfl) dX2_findBest_99 (fun H locs hW => W.eq (g2 := F0 m 102 ls [.int r13_, .int x2, .ref (g.q 46)]) rfl ?_)
        refine lv_iload_n hx hb dX2_findBest_102 rfl (lv_at hl 3 rfl) ?_
        refine lv_i2l (v := x3.toInt64) hx hb dX2_findBest_103 rfl ?_
        obtain ⟨σ14, e14, h⟩ := xbo h
        refine xc_V (As := [.int x2, .int r13_, .long x3.toInt64]) (rest := []) C hW (m_X2_improve x2 r13_ x3.toInt64 _ e14) mf_X2_improve mv_X2_improve ml_X2_109 ⟨rfl, rfl⟩ ⟨Nat.le_of_ble_eq_true rfl, Nat.le_of_ble_eq_true rfl⟩ KX_46 rfl hl.1 rfl rfl (Nat.le_of_ble_eq_true rfl) dX2_findBest_104 (fun H locs hW => W.eq (g2 := F0 m 107 ls []) rfl ?_)
        refine lv_iinc (v := x3 + 1) (lv' := [(3, .int (x3 + 1)), (0, .ref (g.q 46)), (1, .int x1), (2, .int x2)]) hx hb dX2_findBest_107 hl (k := 3) rfl rfl (Nat.le_of_ble_eq_true rfl) rfl (fun ls hl => ?_)
        refine lv_goto (tgt := 73) hx hb dX2_findBest_110 (by decide) ?_
        exact ih x1 x2 (x3 + 1) _ _ _ _ hW (lv_sub hl [1, 2, 3, 0] rfl) h
set_option maxRecDepth 4000 in
theorem w_X2_findBest_55 (N : Nat) {σ' : St} (C : xC KX g RX2 cX2_findBest 4 none p s m args meth c) : ∀ (n : Nat), ∀ (x1 : Int32) (x2 : Int32) (x3 : Int32) (σ : St) (H : Heap) (locs : List Loc) (ls : Array Slot), xW KX g s σ H locs → lv_has ls 4 [(0, .ref (g.q 46)), (1, .int x1), (2, .int x2), (3, .int x3)] → f_X2_findBest_55 N n x1 x2 x3 σ = some σ' → W p l e rm_X2_findBest s m args below meth c H locs 0 0 (MQ below (xPost KX g none σ') args s 0 0 (xA KX g.q)) (F0 m 55 ls []) := by
  have hx := C.1
  have hb := C.2.1
  intro n
  induction n with
  | zero => intro x1 x2 x3 σ H locs ls hW hl h; rw [f_X2_findBest_55] at h; cases h
  | succ n ih =>
    intro x1 x2 x3 σ H locs ls hW hl h
    rw [f_X2_findBest_55] at h
    refine lv_iload_n hx hb dX2_findBest_55 rfl (lv_at hl 3 rfl) ?_
    refine lv_iload_n hx hb dX2_findBest_56 rfl (lv_at hl 2 rfl) ?_
    refine lv_icmp_ge (tgt := 71) hx hb dX2_findBest_57 (by decide) (fun c7 => ?_) (fun c7 => ?_)
    · have h := xit c7 h
      refine lv_iconst (v := 0) hx hb dX2_findBest_71 rfl ?_
      refine lv_istore_n (lv' := [(3, .int 0), (0, .ref (g.q 46)), (1, .int x1), (2, .int x2)]) hx hb dX2_findBest_72 rfl hl (Nat.le_of_ble_eq_true rfl) rfl (fun ls hl => ?_)
      exact w_X2_findBest_73 N C N x1 x2 0 _ _ _ _ hW (lv_sub hl [1, 2, 3, 0] rfl) h
    · have h := xif c7 h
      refine lv_aload_n hx hb dX2_findBest_60 rfl (lv_at hl 0 rfl) ?_
      refine lv_iload_n hx hb dX2_findBest_61 rfl (lv_at hl 3 rfl) ?_
      obtain ⟨σ8, e8, h⟩ := xbo h
      refine xc_V (As := [.int x3]) (rest := []) C hW (m_X2_coverFrom N x3 _ e8) mf_X2_coverFrom mv_X2_coverFrom ml_X2_98 ⟨rfl, rfl⟩ ⟨Nat.le_of_ble_eq_true rfl, Nat.le_of_ble_eq_true rfl⟩ KX_46 rfl hl.1 rfl rfl (Nat.le_of_ble_eq_true rfl) dX2_findBest_62 (fun H locs hW => W.eq (g2 := F0 m 65 ls []) rfl ?_)
      refine lv_iinc (v := x3 + 1) (lv' := [(3, .int (x3 + 1)), (0, .ref (g.q 46)), (1, .int x1), (2, .int x2)]) hx hb dX2_findBest_65 hl (k := 3) rfl rfl (Nat.le_of_ble_eq_true rfl) rfl (fun ls hl => ?_)
      refine lv_goto (tgt := 55) hx hb dX2_findBest_68 (by decide) ?_
      exact ih x1 x2 (x3 + 1) _ _ _ _ hW (lv_sub hl [1, 2, 3, 0] rfl) h
set_option maxRecDepth 4000 in
theorem m_X2_findBest (N : Nat) (x1 : Int32) (σ : St) {σ' : St} (h : f_X2_findBest N x1 σ = some σ') : xM l KX g yX2_findBest cX2_findBest 4 none rm_X2_findBest [.ref (g.q 46), .int x1] σ none σ' := by
  refine xmet pn_X2 rfl (Nat.le_of_ble_eq_true rfl) (lv := [(0, .ref (g.q 46)), (1, .int x1)]) rfl (fun p e s m args below meth c ls C hW hl => ?_)
  have hx := C.1
  have hb := C.2.1
  unfold f_X2_findBest at h
  refine lv_aload_n hx hb dX2_findBest_0 rfl (lv_at hl 0 rfl) ?_
  refine lv_iload_n hx hb dX2_findBest_1 rfl (lv_at hl 1 rfl) ?_
  refine lv_iconst (v := 2) hx hb dX2_findBest_2 rfl ?_
  obtain ⟨r1_, σ1, e1, h⟩ := xbd h
  refine xc_V (As := [.int x1, .int 2]) (rest := []) C hW (m_X2_isNew x1 2 _ e1) mf_X2_isNew mv_X2_isNew ml_X2_71 ⟨rfl, rfl⟩ ⟨Nat.le_of_ble_eq_true rfl, Nat.le_of_ble_eq_true rfl⟩ KX_46 rfl hl.1 rfl rfl (Nat.le_of_ble_eq_true rfl) dX2_findBest_3 (fun H locs hW => W.eq (g2 := F0 m 6 ls [.int r1_]) rfl ?_)
  refine lv_if_ne (tgt := 10) hx hb dX2_findBest_6 (by decide) (fun c2 => ?_) (fun c2 => ?_)
  · have h := xif c2 h
    refine lv_aload_n hx hb dX2_findBest_10 rfl (lv_at hl 0 rfl) ?_
    refine xg_r C hW fg_2_51 KX_46 rfl dX2_findBest_11 ?_
    refine lv_aload_n hx hb dX2_findBest_14 rfl (lv_at hl 0 rfl) ?_
    refine xg_r C hW fg_2_47 KX_46 rfl dX2_findBest_15 ?_
    refine lv_iload_n hx hb dX2_findBest_18 rfl (lv_at hl 1 rfl) ?_
    obtain ⟨σ3, e3, h⟩ := xbo h
    refine xc_V (As := [.ref (g.q 1), .int x1]) (rest := []) C hW (m_X7_look 1 (Or.inl rfl) x1 _ e3) mf_X7_look mv_X7_look ml_X2_75 ⟨rfl, rfl⟩ ⟨Nat.le_of_ble_eq_true rfl, Nat.le_of_ble_eq_true rfl⟩ KX_38 rfl hl.1 rfl rfl (Nat.le_of_ble_eq_true rfl) dX2_findBest_19 (fun H locs hW => W.eq (g2 := F0 m 22 ls []) rfl ?_)
    refine lv_aload_n hx hb dX2_findBest_22 rfl (lv_at hl 0 rfl) ?_
    refine xg_r C hW fg_2_35 KX_46 rfl dX2_findBest_23 ?_
    refine lv_ldc (v := 2147483647) hx hb C.ow (C.hts _ kc_X2_89) dX2_findBest_26 ?_
    obtain ⟨σ4, e4, h⟩ := xbo h
    refine xc_S (As := [.ref (g.q 53), .int 2147483647]) (rest := []) C hW (m_J7_fill_53178 53 13 KX_53 N 2147483647 _ e4) mf_J7_fill_53178 mt_J7_fill_53178 ml_X2_59 ⟨rfl, rfl⟩ ⟨Nat.le_of_ble_eq_true rfl, Nat.le_of_ble_eq_true rfl⟩ hl.1 rfl rfl (Nat.le_of_ble_eq_true rfl) dX2_findBest_28 (fun H locs hW => W.eq (g2 := F0 m 31 ls []) rfl ?_)
    refine lv_aload_n hx hb dX2_findBest_31 rfl (lv_at hl 0 rfl) ?_
    refine xg_r C hW fg_2_35 KX_46 rfl dX2_findBest_32 ?_
    refine lv_iconst (v := 0) hx hb dX2_findBest_35 rfl ?_
    refine lv_iconst (v := 0) hx hb dX2_findBest_36 rfl ?_
    obtain ⟨g5, h⟩ := xgd h
    refine xs_i C hW KX_53 g5 dX2_findBest_37 (fun H locs hW => ?_)
    refine lv_aload_n hx hb dX2_findBest_38 rfl (lv_at hl 0 rfl) ?_
    refine xg_r C hW fg_2_38 KX_46 rfl dX2_findBest_39 ?_
    refine lv_iconst (v := 0) hx hb dX2_findBest_42 rfl ?_
    refine lv_lconst (v := 0) hx hb dX2_findBest_43 rfl ?_
    obtain ⟨g6, h⟩ := xgd h
    refine xs_l C hW KX_54 g6 dX2_findBest_44 (fun H locs hW => ?_)
    refine lv_aload_n hx hb dX2_findBest_45 rfl (lv_at hl 0 rfl) ?_
    refine xg_r C hW fg_2_51 KX_46 rfl dX2_findBest_46 ?_
    refine xg_i C hW fg_2_94 KX_38 rfl (v := 8606) rfl (x := σ4.1 8606 0) rfl dX2_findBest_49 ?_
    refine lv_istore_n (lv' := [(2, .int (σ4.1 8606 0)), (0, .ref (g.q 46)), (1, .int x1)]) hx hb dX2_findBest_52 rfl hl (Nat.le_of_ble_eq_true rfl) rfl (fun ls hl => ?_)
    refine lv_iconst (v := 0) hx hb dX2_findBest_53 rfl ?_
    refine lv_istore_n (lv' := [(3, .int 0), (2, .int (σ4.1 8606 0)), (0, .ref (g.q 46)), (1, .int x1)]) hx hb dX2_findBest_54 rfl hl (Nat.le_of_ble_eq_true rfl) rfl (fun ls hl => ?_)
    exact w_X2_findBest_55 N C N x1 (σ4.1 8606 0) 0 _ _ _ _ hW (lv_sub hl [2, 3, 1, 0] rfl) h
  · have h := xit c2 h
    cases h
    exact xr_v C hW dX2_findBest_9
end
theorem dX2_bestPaint_0 : decode cX2_bestPaint 0 = .ok (.aload_n 0, 1) := by decide +kernel
theorem dX2_bestPaint_1 : decode cX2_bestPaint 1 = .ok (.iload_n 1, 1) := by decide +kernel
theorem dX2_bestPaint_2 : decode cX2_bestPaint 2 = .ok (.invokevirtual 85, 3) := by decide +kernel
theorem dX2_bestPaint_5 : decode cX2_bestPaint 5 = .ok (.aload_n 0, 1) := by decide +kernel
theorem dX2_bestPaint_6 : decode cX2_bestPaint 6 = .ok (.getfield 22, 3) := by decide +kernel
theorem dX2_bestPaint_9 : decode cX2_bestPaint 9 = .ok (.iload_n 1, 1) := by decide +kernel
theorem dX2_bestPaint_10 : decode cX2_bestPaint 10 = .ok (.iaload, 1) := by decide +kernel
theorem dX2_bestPaint_11 : decode cX2_bestPaint 11 = .ok (.ldc 89, 2) := by decide +kernel
theorem dX2_bestPaint_13 : decode cX2_bestPaint 13 = .ok (.if_icmp .ne 7, 3) := by decide +kernel
theorem dX2_bestPaint_16 : decode cX2_bestPaint 16 = .ok (.iconst (-1), 1) := by decide +kernel
theorem dX2_bestPaint_17 : decode cX2_bestPaint 17 = .ok (.goto 12, 3) := by decide +kernel
theorem dX2_bestPaint_20 : decode cX2_bestPaint 20 = .ok (.aload_n 0, 1) := by decide +kernel
theorem dX2_bestPaint_21 : decode cX2_bestPaint 21 = .ok (.getfield 22, 3) := by decide +kernel
theorem dX2_bestPaint_24 : decode cX2_bestPaint 24 = .ok (.iload_n 1, 1) := by decide +kernel
theorem dX2_bestPaint_25 : decode cX2_bestPaint 25 = .ok (.iaload, 1) := by decide +kernel
theorem dX2_bestPaint_26 : decode cX2_bestPaint 26 = .ok (.bipush 16, 2) := by decide +kernel
theorem dX2_bestPaint_28 : decode cX2_bestPaint 28 = .ok (.idiv, 1) := by decide +kernel
theorem dX2_bestPaint_29 : decode cX2_bestPaint 29 = .ok (.ireturn, 1) := by decide +kernel
abbrev rm_X2_bestPaint : Room := { frames := 5, cells := 0, slots := 0, locals := 110 }
def f_X2_bestPaint (N : Nat) (x1 : Int32) (σ : St) : Option (Int32 × St) := bo (f_X2_findBest N x1 σ) (fun σ1 => grd (ib x1 40) ((if (σ1.1 49 x1.toNatClampNeg) = 2147483647 then some ((-1), σ1) else grd (ib x1 40) (some ((σ1.1 49 x1.toNatClampNeg) / 16, σ1)))))
section
variable {p : Program} {l : Launch} {e : Env} {s : State} {m : MethodId} {args : Array Value} {below : List Frame} {meth : Method} {c : Code} {g : XG}
set_option maxRecDepth 4000 in
theorem m_X2_bestPaint (N : Nat) (x1 : Int32) (σ : St) {r : Int32} {σ' : St} (h : f_X2_bestPaint N x1 σ = some (r, σ')) : xM l KX g yX2_bestPaint cX2_bestPaint 2 (some .int) rm_X2_bestPaint [.ref (g.q 46), .int x1] σ (some (.int r)) σ' := by
  refine xmet pn_X2 rfl (Nat.le_of_ble_eq_true rfl) (lv := [(0, .ref (g.q 46)), (1, .int x1)]) rfl (fun p e s m args below meth c ls C hW hl => ?_)
  have hx := C.1
  have hb := C.2.1
  unfold f_X2_bestPaint at h
  refine lv_aload_n hx hb dX2_bestPaint_0 rfl (lv_at hl 0 rfl) ?_
  refine lv_iload_n hx hb dX2_bestPaint_1 rfl (lv_at hl 1 rfl) ?_
  obtain ⟨σ1, e1, h⟩ := xbo h
  refine xc_V (As := [.int x1]) (rest := []) C hW (m_X2_findBest N x1 _ e1) mf_X2_findBest mv_X2_findBest ml_X2_85 ⟨rfl, rfl⟩ ⟨Nat.le_of_ble_eq_true rfl, Nat.le_of_ble_eq_true rfl⟩ KX_46 rfl hl.1 rfl rfl (Nat.le_of_ble_eq_true rfl) dX2_bestPaint_2 (fun H locs hW => W.eq (g2 := F0 m 5 ls []) rfl ?_)
  refine lv_aload_n hx hb dX2_bestPaint_5 rfl (lv_at hl 0 rfl) ?_
  refine xg_r C hW fg_2_22 KX_46 rfl dX2_bestPaint_6 ?_
  refine lv_iload_n hx hb dX2_bestPaint_9 rfl (lv_at hl 1 rfl) ?_
  obtain ⟨g2, h⟩ := xgd h
  refine xa_i C hW KX_49 g2 (x := σ1.1 49 x1.toNatClampNeg) rfl dX2_bestPaint_10 ?_
  refine lv_ldc (v := 2147483647) hx hb C.ow (C.hts _ kc_X2_89) dX2_bestPaint_11 ?_
  refine lv_icmp_ne (tgt := 20) hx hb dX2_bestPaint_13 (by decide) (fun c3 => ?_) (fun c3 => ?_)
  · have h := xif c3 h
    refine lv_aload_n hx hb dX2_bestPaint_20 rfl (lv_at hl 0 rfl) ?_
    refine xg_r C hW fg_2_22 KX_46 rfl dX2_bestPaint_21 ?_
    refine lv_iload_n hx hb dX2_bestPaint_24 rfl (lv_at hl 1 rfl) ?_
    obtain ⟨g4, h⟩ := xgd h
    refine xa_i C hW KX_49 g4 (x := σ1.1 49 x1.toNatClampNeg) rfl dX2_bestPaint_25 ?_
    refine lv_bipush (v := 16) hx hb dX2_bestPaint_26 rfl ?_
    refine lv_idiv hx hb dX2_bestPaint_28 (by decide) ?_
    cases h
    exact xr_i C hW dX2_bestPaint_29
  · have h := xit c3 h
    refine lv_iconst (v := (-1)) hx hb dX2_bestPaint_16 rfl ?_
    refine lv_goto (tgt := 29) hx hb dX2_bestPaint_17 (by decide) ?_
    cases h
    exact xr_i C hW dX2_bestPaint_29
end
theorem dX11_signOf_0 : decode cX11_signOf 0 = .ok (.iload_n 3, 1) := by decide +kernel
theorem dX11_signOf_1 : decode cX11_signOf 1 = .ok (.ifCond .lt 8, 3) := by decide +kernel
theorem dX11_signOf_4 : decode cX11_signOf 4 = .ok (.iload_n 3, 1) := by decide +kernel
theorem dX11_signOf_5 : decode cX11_signOf 5 = .ok (.iload_n 2, 1) := by decide +kernel
theorem dX11_signOf_6 : decode cX11_signOf 6 = .ok (.if_icmp .lt 7, 3) := by decide +kernel
theorem dX11_signOf_9 : decode cX11_signOf 9 = .ok (.iconst (-1), 1) := by decide +kernel
theorem dX11_signOf_10 : decode cX11_signOf 10 = .ok (.goto 18, 3) := by decide +kernel
theorem dX11_signOf_13 : decode cX11_signOf 13 = .ok (.lload_n 0, 1) := by decide +kernel
theorem dX11_signOf_14 : decode cX11_signOf 14 = .ok (.bipush 6, 2) := by decide +kernel
theorem dX11_signOf_16 : decode cX11_signOf 16 = .ok (.iload_n 2, 1) := by decide +kernel
theorem dX11_signOf_17 : decode cX11_signOf 17 = .ok (.iconst 1, 1) := by decide +kernel
theorem dX11_signOf_18 : decode cX11_signOf 18 = .ok (.isub, 1) := by decide +kernel
theorem dX11_signOf_19 : decode cX11_signOf 19 = .ok (.iload_n 3, 1) := by decide +kernel
theorem dX11_signOf_20 : decode cX11_signOf 20 = .ok (.isub, 1) := by decide +kernel
theorem dX11_signOf_21 : decode cX11_signOf 21 = .ok (.imul, 1) := by decide +kernel
theorem dX11_signOf_22 : decode cX11_signOf 22 = .ok (.lushr, 1) := by decide +kernel
theorem dX11_signOf_23 : decode cX11_signOf 23 = .ok (.ldc2_w 381, 3) := by decide +kernel
theorem dX11_signOf_26 : decode cX11_signOf 26 = .ok (.land, 1) := by decide +kernel
theorem dX11_signOf_27 : decode cX11_signOf 27 = .ok (.l2i, 1) := by decide +kernel
theorem dX11_signOf_28 : decode cX11_signOf 28 = .ok (.ireturn, 1) := by decide +kernel
abbrev rm_X11_signOf : Room := { frames := 0, cells := 0, slots := 0, locals := 0 }
def f_X11_signOf (x0 : Int64) (x2 : Int32) (x3 : Int32) (σ : St) : Int32 := (if x3 < 0 then (-1) else (if x3 < x2 then ((lushr x0 (6 * ((x2 - 1) - x3))) &&& 63).toInt32 else (-1)))
section
variable {p : Program} {l : Launch} {e : Env} {s : State} {m : MethodId} {args : Array Value} {below : List Frame} {meth : Method} {c : Code} {g : XG}
set_option maxRecDepth 4000 in
theorem m_X11_signOf (x0 : Int64) (x2 : Int32) (x3 : Int32) (σ : St) {r : Int32} (h : f_X11_signOf x0 x2 x3 σ = r) : xM l KX g yX11_signOf cX11_signOf 4 (some .int) rm_X11_signOf [.long x0, .int x2, .int x3] σ (some (.int r)) σ := by
  refine xmet pn_X11 rfl (Nat.le_of_ble_eq_true rfl) (lv := [(0, .long x0), (2, .int x2), (3, .int x3)]) rfl (fun p e s m args below meth c ls C hW hl => ?_)
  have hx := C.1
  have hb := C.2.1
  unfold f_X11_signOf at h
  refine lv_iload_n hx hb dX11_signOf_0 rfl (lv_at hl 2 rfl) ?_
  refine lv_if_lt (tgt := 9) hx hb dX11_signOf_1 (by decide) (fun c1 => ?_) (fun c1 => ?_)
  · have h := xit c1 h
    refine lv_iconst (v := (-1)) hx hb dX11_signOf_9 rfl ?_
    refine lv_goto (tgt := 28) hx hb dX11_signOf_10 (by decide) ?_
    cases h
    exact xr_i C hW dX11_signOf_28
  · have h := xif c1 h
    refine lv_iload_n hx hb dX11_signOf_4 rfl (lv_at hl 2 rfl) ?_
    refine lv_iload_n hx hb dX11_signOf_5 rfl (lv_at hl 1 rfl) ?_
    refine lv_icmp_lt (tgt := 13) hx hb dX11_signOf_6 (by decide) (fun c2 => ?_) (fun c2 => ?_)
    · have h := xit c2 h
      refine lv_lload_n hx hb dX11_signOf_13 rfl (lv_at hl 0 rfl) ?_
      refine lv_bipush (v := 6) hx hb dX11_signOf_14 rfl ?_
      refine lv_iload_n hx hb dX11_signOf_16 rfl (lv_at hl 1 rfl) ?_
      refine lv_iconst (v := 1) hx hb dX11_signOf_17 rfl ?_
      refine lv_isub hx hb dX11_signOf_18 ?_
      refine lv_iload_n hx hb dX11_signOf_19 rfl (lv_at hl 2 rfl) ?_
      refine lv_isub hx hb dX11_signOf_20 ?_
      refine lv_imul hx hb dX11_signOf_21 ?_
      refine lv_lushr (v := lushr x0 (6 * ((x2 - 1) - x3))) hx hb dX11_signOf_22 rfl ?_
      refine lv_ldc2 (v := 63) hx hb C.ow (C.hts _ kl_X11_381) dX11_signOf_23 ?_
      refine lv_land hx hb dX11_signOf_26 ?_
      refine lv_l2i (v := ((lushr x0 (6 * ((x2 - 1) - x3))) &&& 63).toInt32) hx hb dX11_signOf_27 rfl ?_
      cases h
      exact xr_i C hW dX11_signOf_28
    · have h := xif c2 h
      refine lv_iconst (v := (-1)) hx hb dX11_signOf_9 rfl ?_
      refine lv_goto (tgt := 28) hx hb dX11_signOf_10 (by decide) ?_
      cases h
      exact xr_i C hW dX11_signOf_28
end
