theorem dX5_endsFromAny_0 : decode cX5_endsFromAny 0 = .ok (.iconst 0, 1) := by decide +kernel
theorem dX5_endsFromAny_1 : decode cX5_endsFromAny 1 = .ok (.istore_n 3, 1) := by decide +kernel
theorem dX5_endsFromAny_2 : decode cX5_endsFromAny 2 = .ok (.iconst 0, 1) := by decide +kernel
theorem dX5_endsFromAny_3 : decode cX5_endsFromAny 3 = .ok (.istore 4, 2) := by decide +kernel
theorem dX5_endsFromAny_5 : decode cX5_endsFromAny 5 = .ok (.iload 4, 2) := by decide +kernel
theorem dX5_endsFromAny_7 : decode cX5_endsFromAny 7 = .ok (.aload_n 0, 1) := by decide +kernel
theorem dX5_endsFromAny_8 : decode cX5_endsFromAny 8 = .ok (.getfield 54, 3) := by decide +kernel
theorem dX5_endsFromAny_11 : decode cX5_endsFromAny 11 = .ok (.if_icmp .ge 34, 3) := by decide +kernel
theorem dX5_endsFromAny_14 : decode cX5_endsFromAny 14 = .ok (.iload_n 2, 1) := by decide +kernel
theorem dX5_endsFromAny_15 : decode cX5_endsFromAny 15 = .ok (.iload 4, 2) := by decide +kernel
theorem dX5_endsFromAny_17 : decode cX5_endsFromAny 17 = .ok (.iushr, 1) := by decide +kernel
theorem dX5_endsFromAny_18 : decode cX5_endsFromAny 18 = .ok (.iconst 1, 1) := by decide +kernel
theorem dX5_endsFromAny_19 : decode cX5_endsFromAny 19 = .ok (.iand, 1) := by decide +kernel
theorem dX5_endsFromAny_20 : decode cX5_endsFromAny 20 = .ok (.iconst 1, 1) := by decide +kernel
theorem dX5_endsFromAny_21 : decode cX5_endsFromAny 21 = .ok (.if_icmp .ne 18, 3) := by decide +kernel
theorem dX5_endsFromAny_24 : decode cX5_endsFromAny 24 = .ok (.iload_n 3, 1) := by decide +kernel
theorem dX5_endsFromAny_25 : decode cX5_endsFromAny 25 = .ok (.aload_n 0, 1) := by decide +kernel
theorem dX5_endsFromAny_26 : decode cX5_endsFromAny 26 = .ok (.getfield 24, 3) := by decide +kernel
theorem dX5_endsFromAny_29 : decode cX5_endsFromAny 29 = .ok (.iload_n 1, 1) := by decide +kernel
theorem dX5_endsFromAny_30 : decode cX5_endsFromAny 30 = .ok (.bipush 24, 2) := by decide +kernel
theorem dX5_endsFromAny_32 : decode cX5_endsFromAny 32 = .ok (.imul, 1) := by decide +kernel
theorem dX5_endsFromAny_33 : decode cX5_endsFromAny 33 = .ok (.iload 4, 2) := by decide +kernel
theorem dX5_endsFromAny_35 : decode cX5_endsFromAny 35 = .ok (.iadd, 1) := by decide +kernel
theorem dX5_endsFromAny_36 : decode cX5_endsFromAny 36 = .ok (.iaload, 1) := by decide +kernel
theorem dX5_endsFromAny_37 : decode cX5_endsFromAny 37 = .ok (.ior, 1) := by decide +kernel
theorem dX5_endsFromAny_38 : decode cX5_endsFromAny 38 = .ok (.istore_n 3, 1) := by decide +kernel
theorem dX5_endsFromAny_39 : decode cX5_endsFromAny 39 = .ok (.iinc 4 1, 3) := by decide +kernel
theorem dX5_endsFromAny_42 : decode cX5_endsFromAny 42 = .ok (.goto (-37), 3) := by decide +kernel
theorem dX5_endsFromAny_45 : decode cX5_endsFromAny 45 = .ok (.iload_n 3, 1) := by decide +kernel
theorem dX5_endsFromAny_46 : decode cX5_endsFromAny 46 = .ok (.ireturn, 1) := by decide +kernel
abbrev rm_X5_endsFromAny : Room := { frames := 0, cells := 0, slots := 0, locals := 0 }
def f_X5_endsFromAny_5 (N : Nat) : Nat → Int32 → Int32 → Int32 → Int32 → St → Option Int32
  | 0, _, _, _, _, _ => none
  | n + 1, x1, x2, x3, x4, σ => (if (σ.1 12404 0) ≤ x4 then some x3 else (if ((ushr x2 x4) &&& 1) = 1 then grd (ib ((x1 * 24) + x4) 960) (f_X5_endsFromAny_5 N n x1 x2 (x3 ||| (σ.1 61 ((x1 * 24) + x4).toNatClampNeg)) (x4 + 1) σ) else f_X5_endsFromAny_5 N n x1 x2 x3 (x4 + 1) σ))
def f_X5_endsFromAny (N : Nat) (x1 : Int32) (x2 : Int32) (σ : St) : Option Int32 := f_X5_endsFromAny_5 N N x1 x2 0 0 σ
section
variable {p : Program} {l : Launch} {e : Env} {s : State} {m : MethodId} {args : Array Value} {below : List Frame} {meth : Method} {c : Code} {g : XG}
set_option maxRecDepth 4000 in
theorem w_X5_endsFromAny_5 (N : Nat) (σ : St) {r : Int32} (C : xC KX g RX5 cX5_endsFromAny 5 (some .int) p s m args meth c) : ∀ (n : Nat), ∀ (x1 : Int32) (x2 : Int32) (x3 : Int32) (x4 : Int32) (H : Heap) (locs : List Loc) (ls : Array Slot), xW KX g s σ H locs → lv_has ls 5 [(0, .ref (g.q 57)), (1, .int x1), (2, .int x2), (3, .int x3), (4, .int x4)] → f_X5_endsFromAny_5 N n x1 x2 x3 x4 σ = some r → W p l e rm_X5_endsFromAny s m args below meth c H locs 0 0 (MQ below (xPost KX g (some (.int r)) σ) args s 0 0 (xA KX g.q)) (F0 m 5 ls []) := by
  have hx := C.1
  have hb := C.2.1
  intro n
  induction n with
  | zero => intro x1 x2 x3 x4 H locs ls hW hl h; rw [f_X5_endsFromAny_5] at h; cases h
  | succ n ih =>
    intro x1 x2 x3 x4 H locs ls hW hl h
    rw [f_X5_endsFromAny_5] at h
    refine lv_iload hx hb dX5_endsFromAny_5 (lv_at hl 4 rfl) ?_
    refine lv_aload_n hx hb dX5_endsFromAny_7 rfl (lv_at hl 0 rfl) ?_
    refine xg_i C hW fg_5_54 KX_57 rfl (v := 12404) rfl (x := σ.1 12404 0) rfl dX5_endsFromAny_8 ?_
    refine lv_icmp_ge (tgt := 45) hx hb dX5_endsFromAny_11 (by decide) (fun c1 => ?_) (fun c1 => ?_)
    · have h := xit c1 h
      refine lv_iload_n hx hb dX5_endsFromAny_45 rfl (lv_at hl 3 rfl) ?_
      cases h
      exact xr_i C hW dX5_endsFromAny_46
    · have h := xif c1 h
      refine lv_iload_n hx hb dX5_endsFromAny_14 rfl (lv_at hl 2 rfl) ?_
      refine lv_iload hx hb dX5_endsFromAny_15 (lv_at hl 4 rfl) ?_
      refine lv_iushr (v := ushr x2 x4) hx hb dX5_endsFromAny_17 rfl ?_
      refine lv_iconst (v := 1) hx hb dX5_endsFromAny_18 rfl ?_
      refine lv_iand hx hb dX5_endsFromAny_19 ?_
      refine lv_iconst (v := 1) hx hb dX5_endsFromAny_20 rfl ?_
      refine lv_icmp_ne (tgt := 39) hx hb dX5_endsFromAny_21 (by decide) (fun c2 => ?_) (fun c2 => ?_)
      · have h := xif c2 h
        refine lv_iinc (v := x4 + 1) (lv' := [(4, .int (x4 + 1)), (0, .ref (g.q 57)), (1, .int x1), (2, .int x2), (3, .int x3)]) hx hb dX5_endsFromAny_39 hl (k := 4) rfl rfl (Nat.le_of_ble_eq_true rfl) rfl (fun ls hl => ?_)
        refine lv_goto (tgt := 5) hx hb dX5_endsFromAny_42 (by decide) ?_
        exact ih x1 x2 x3 (x4 + 1) _ _ _ hW (lv_sub hl [1, 2, 3, 4, 0] rfl) h
      · have h := xit c2 h
        refine lv_iload_n hx hb dX5_endsFromAny_24 rfl (lv_at hl 3 rfl) ?_
        refine lv_aload_n hx hb dX5_endsFromAny_25 rfl (lv_at hl 0 rfl) ?_
        refine xg_r C hW fg_5_24 KX_57 rfl dX5_endsFromAny_26 ?_
        refine lv_iload_n hx hb dX5_endsFromAny_29 rfl (lv_at hl 1 rfl) ?_
        refine lv_bipush (v := 24) hx hb dX5_endsFromAny_30 rfl ?_
        refine lv_imul hx hb dX5_endsFromAny_32 ?_
        refine lv_iload hx hb dX5_endsFromAny_33 (lv_at hl 4 rfl) ?_
        refine lv_iadd hx hb dX5_endsFromAny_35 ?_
        obtain ⟨g3, h⟩ := xgd h
        refine xa_i C hW KX_61 g3 (x := σ.1 61 ((x1 * 24) + x4).toNatClampNeg) rfl dX5_endsFromAny_36 ?_
        refine lv_ior hx hb dX5_endsFromAny_37 ?_
        refine lv_istore_n (lv' := [(3, .int (x3 ||| (σ.1 61 ((x1 * 24) + x4).toNatClampNeg))), (0, .ref (g.q 57)), (1, .int x1), (2, .int x2), (4, .int x4)]) hx hb dX5_endsFromAny_38 rfl hl (Nat.le_of_ble_eq_true rfl) rfl (fun ls hl => ?_)
        refine lv_iinc (v := x4 + 1) (lv' := [(4, .int (x4 + 1)), (3, .int (x3 ||| (σ.1 61 ((x1 * 24) + x4).toNatClampNeg))), (0, .ref (g.q 57)), (1, .int x1), (2, .int x2)]) hx hb dX5_endsFromAny_39 hl (k := 4) rfl rfl (Nat.le_of_ble_eq_true rfl) rfl (fun ls hl => ?_)
        refine lv_goto (tgt := 5) hx hb dX5_endsFromAny_42 (by decide) ?_
        exact ih x1 x2 (x3 ||| (σ.1 61 ((x1 * 24) + x4).toNatClampNeg)) (x4 + 1) _ _ _ hW (lv_sub hl [2, 3, 4, 1, 0] rfl) h
set_option maxRecDepth 4000 in
theorem m_X5_endsFromAny (N : Nat) (x1 : Int32) (x2 : Int32) (σ : St) {r : Int32} (h : f_X5_endsFromAny N x1 x2 σ = some r) : xM l KX g yX5_endsFromAny cX5_endsFromAny 5 (some .int) rm_X5_endsFromAny [.ref (g.q 57), .int x1, .int x2] σ (some (.int r)) σ := by
  refine xmet pn_X5 rfl (Nat.le_of_ble_eq_true rfl) (lv := [(0, .ref (g.q 57)), (1, .int x1), (2, .int x2)]) rfl (fun p e s m args below meth c ls C hW hl => ?_)
  have hx := C.1
  have hb := C.2.1
  unfold f_X5_endsFromAny at h
  refine lv_iconst (v := 0) hx hb dX5_endsFromAny_0 rfl ?_
  refine lv_istore_n (lv' := [(3, .int 0), (0, .ref (g.q 57)), (1, .int x1), (2, .int x2)]) hx hb dX5_endsFromAny_1 rfl hl (Nat.le_of_ble_eq_true rfl) rfl (fun ls hl => ?_)
  refine lv_iconst (v := 0) hx hb dX5_endsFromAny_2 rfl ?_
  refine lv_istore (lv' := [(4, .int 0), (3, .int 0), (0, .ref (g.q 57)), (1, .int x1), (2, .int x2)]) hx hb dX5_endsFromAny_3 hl (Nat.le_of_ble_eq_true rfl) rfl (fun ls hl => ?_)
  exact w_X5_endsFromAny_5 N σ C N x1 x2 0 0 _ _ _ hW (lv_sub hl [2, 3, 4, 1, 0] rfl) h
end
theorem dX5_chooseTerms_0 : decode cX5_chooseTerms 0 = .ok (.iconst 1, 1) := by decide +kernel
theorem dX5_chooseTerms_1 : decode cX5_chooseTerms 1 = .ok (.istore_n 1, 1) := by decide +kernel
theorem dX5_chooseTerms_2 : decode cX5_chooseTerms 2 = .ok (.iconst 0, 1) := by decide +kernel
theorem dX5_chooseTerms_3 : decode cX5_chooseTerms 3 = .ok (.istore_n 2, 1) := by decide +kernel
theorem dX5_chooseTerms_4 : decode cX5_chooseTerms 4 = .ok (.iload_n 2, 1) := by decide +kernel
theorem dX5_chooseTerms_5 : decode cX5_chooseTerms 5 = .ok (.aload_n 0, 1) := by decide +kernel
theorem dX5_chooseTerms_6 : decode cX5_chooseTerms 6 = .ok (.getfield 58, 3) := by decide +kernel
theorem dX5_chooseTerms_9 : decode cX5_chooseTerms 9 = .ok (.if_icmp .ge 74, 3) := by decide +kernel
theorem dX5_chooseTerms_12 : decode cX5_chooseTerms 12 = .ok (.aload_n 0, 1) := by decide +kernel
theorem dX5_chooseTerms_13 : decode cX5_chooseTerms 13 = .ok (.getfield 30, 3) := by decide +kernel
theorem dX5_chooseTerms_16 : decode cX5_chooseTerms 16 = .ok (.aload_n 0, 1) := by decide +kernel
theorem dX5_chooseTerms_17 : decode cX5_chooseTerms 17 = .ok (.getfield 58, 3) := by decide +kernel
theorem dX5_chooseTerms_20 : decode cX5_chooseTerms 20 = .ok (.iload_n 2, 1) := by decide +kernel
theorem dX5_chooseTerms_21 : decode cX5_chooseTerms 21 = .ok (.isub, 1) := by decide +kernel
theorem dX5_chooseTerms_22 : decode cX5_chooseTerms 22 = .ok (.iconst 1, 1) := by decide +kernel
theorem dX5_chooseTerms_23 : decode cX5_chooseTerms 23 = .ok (.isub, 1) := by decide +kernel
theorem dX5_chooseTerms_24 : decode cX5_chooseTerms 24 = .ok (.iaload, 1) := by decide +kernel
theorem dX5_chooseTerms_25 : decode cX5_chooseTerms 25 = .ok (.istore_n 3, 1) := by decide +kernel
theorem dX5_chooseTerms_26 : decode cX5_chooseTerms 26 = .ok (.iconst 0, 1) := by decide +kernel
theorem dX5_chooseTerms_27 : decode cX5_chooseTerms 27 = .ok (.istore 4, 2) := by decide +kernel
theorem dX5_chooseTerms_29 : decode cX5_chooseTerms 29 = .ok (.iconst 0, 1) := by decide +kernel
theorem dX5_chooseTerms_30 : decode cX5_chooseTerms 30 = .ok (.istore 5, 2) := by decide +kernel
theorem dX5_chooseTerms_32 : decode cX5_chooseTerms 32 = .ok (.iload 5, 2) := by decide +kernel
theorem dX5_chooseTerms_34 : decode cX5_chooseTerms 34 = .ok (.aload_n 0, 1) := by decide +kernel
theorem dX5_chooseTerms_35 : decode cX5_chooseTerms 35 = .ok (.getfield 46, 3) := by decide +kernel
theorem dX5_chooseTerms_38 : decode cX5_chooseTerms 38 = .ok (.getfield 99, 3) := by decide +kernel
theorem dX5_chooseTerms_41 : decode cX5_chooseTerms 41 = .ok (.if_icmp .ge 33, 3) := by decide +kernel
theorem dX5_chooseTerms_44 : decode cX5_chooseTerms 44 = .ok (.iload 4, 2) := by decide +kernel
theorem dX5_chooseTerms_46 : decode cX5_chooseTerms 46 = .ok (.ifCond .ne 28, 3) := by decide +kernel
theorem dX5_chooseTerms_49 : decode cX5_chooseTerms 49 = .ok (.aload_n 0, 1) := by decide +kernel
theorem dX5_chooseTerms_50 : decode cX5_chooseTerms 50 = .ok (.iload 5, 2) := by decide +kernel
theorem dX5_chooseTerms_52 : decode cX5_chooseTerms 52 = .ok (.iload_n 1, 1) := by decide +kernel
theorem dX5_chooseTerms_53 : decode cX5_chooseTerms 53 = .ok (.invokevirtual 132, 3) := by decide +kernel
theorem dX5_chooseTerms_56 : decode cX5_chooseTerms 56 = .ok (.iload_n 3, 1) := by decide +kernel
theorem dX5_chooseTerms_57 : decode cX5_chooseTerms 57 = .ok (.iand, 1) := by decide +kernel
theorem dX5_chooseTerms_58 : decode cX5_chooseTerms 58 = .ok (.istore 4, 2) := by decide +kernel
theorem dX5_chooseTerms_60 : decode cX5_chooseTerms 60 = .ok (.aload_n 0, 1) := by decide +kernel
theorem dX5_chooseTerms_61 : decode cX5_chooseTerms 61 = .ok (.getfield 36, 3) := by decide +kernel
theorem dX5_chooseTerms_64 : decode cX5_chooseTerms 64 = .ok (.iload_n 2, 1) := by decide +kernel
theorem dX5_chooseTerms_65 : decode cX5_chooseTerms 65 = .ok (.iload 5, 2) := by decide +kernel
theorem dX5_chooseTerms_67 : decode cX5_chooseTerms 67 = .ok (.iastore, 1) := by decide +kernel
theorem dX5_chooseTerms_68 : decode cX5_chooseTerms 68 = .ok (.iinc 5 1, 3) := by decide +kernel
theorem dX5_chooseTerms_71 : decode cX5_chooseTerms 71 = .ok (.goto (-39), 3) := by decide +kernel
theorem dX5_chooseTerms_74 : decode cX5_chooseTerms 74 = .ok (.iload 4, 2) := by decide +kernel
theorem dX5_chooseTerms_76 : decode cX5_chooseTerms 76 = .ok (.istore_n 1, 1) := by decide +kernel
theorem dX5_chooseTerms_77 : decode cX5_chooseTerms 77 = .ok (.iinc 2 1, 3) := by decide +kernel
theorem dX5_chooseTerms_80 : decode cX5_chooseTerms 80 = .ok (.goto (-76), 3) := by decide +kernel
theorem dX5_chooseTerms_83 : decode cX5_chooseTerms 83 = .ok (.return_, 1) := by decide +kernel
abbrev rm_X5_chooseTerms : Room := { frames := 1, cells := 0, slots := 0, locals := 24 }
def f_X5_chooseTerms_32 (N : Nat) (k4 : Int32 → Int32 → St → Option St) : Nat → Int32 → Int32 → Int32 → Int32 → Int32 → St → Option St
  | 0, _, _, _, _, _, _ => none
  | n + 1, x1, x2, x3, x4, x5, σ => (if (σ.1 7600 0) ≤ x5 then k4 x4 (x2 + 1) σ else (if x4 = 0 then bo (f_X5_endsFromAny N x5 x1 σ) (fun r5_ => grd (ib x2 24) (f_X5_chooseTerms_32 N k4 n x1 x2 x3 (r5_ &&& x3) (x5 + 1) (si σ 65 x2.toNatClampNeg x5))) else k4 x4 (x2 + 1) σ))
def f_X5_chooseTerms_4 (N : Nat) : Nat → Int32 → Int32 → St → Option St
  | 0, _, _, _ => none
  | n + 1, x1, x2, σ => (if (σ.1 12411 0) ≤ x2 then some σ else grd (ib (((σ.1 12411 0) - x2) - 1) 25) (f_X5_chooseTerms_32 N (f_X5_chooseTerms_4 N n) N x1 x2 (σ.1 63 (((σ.1 12411 0) - x2) - 1).toNatClampNeg) 0 0 σ))
def f_X5_chooseTerms (N : Nat) (σ : St) : Option St := f_X5_chooseTerms_4 N N 1 0 σ
section
variable {p : Program} {l : Launch} {e : Env} {s : State} {m : MethodId} {args : Array Value} {below : List Frame} {meth : Method} {c : Code} {g : XG}
set_option maxRecDepth 4000 in
theorem w_X5_chooseTerms_32 (N : Nat) (k4 : Int32 → Int32 → St → Option St) {σ' : St} (C : xC KX g RX5 cX5_chooseTerms 6 none p s m args meth c) (hk4 : ∀ (x1 : Int32) (x2 : Int32) (σ : St) (H : Heap) (locs : List Loc) (ls : Array Slot), xW KX g s σ H locs → lv_has ls 6 [(0, .ref (g.q 57)), (1, .int x1), (2, .int x2)] → k4 x1 x2 σ = some σ' → W p l e rm_X5_chooseTerms s m args below meth c H locs 0 0 (MQ below (xPost KX g none σ') args s 0 0 (xA KX g.q)) (F0 m 4 ls [])) : ∀ (n : Nat), ∀ (x1 : Int32) (x2 : Int32) (x3 : Int32) (x4 : Int32) (x5 : Int32) (σ : St) (H : Heap) (locs : List Loc) (ls : Array Slot), xW KX g s σ H locs → lv_has ls 6 [(0, .ref (g.q 57)), (1, .int x1), (2, .int x2), (3, .int x3), (4, .int x4), (5, .int x5)] → f_X5_chooseTerms_32 N k4 n x1 x2 x3 x4 x5 σ = some σ' → W p l e rm_X5_chooseTerms s m args below meth c H locs 0 0 (MQ below (xPost KX g none σ') args s 0 0 (xA KX g.q)) (F0 m 32 ls []) := by
  have hx := C.1
  have hb := C.2.1
  intro n
  induction n with
  | zero => intro x1 x2 x3 x4 x5 σ H locs ls hW hl h; rw [f_X5_chooseTerms_32] at h; cases h
  | succ n ih =>
    intro x1 x2 x3 x4 x5 σ H locs ls hW hl h
    rw [f_X5_chooseTerms_32] at h
    refine lv_iload hx hb dX5_chooseTerms_32 (lv_at hl 5 rfl) ?_
    refine lv_aload_n hx hb dX5_chooseTerms_34 rfl (lv_at hl 0 rfl) ?_
    refine xg_r C hW fg_5_46 KX_57 rfl dX5_chooseTerms_35 ?_
    refine xg_i C hW fg_5_99 KX_33 rfl (v := 7600) rfl (x := σ.1 7600 0) rfl dX5_chooseTerms_38 ?_
    refine lv_icmp_ge (tgt := 74) hx hb dX5_chooseTerms_41 (by decide) (fun c3 => ?_) (fun c3 => ?_)
    · have h := xit c3 h
      refine lv_iload hx hb dX5_chooseTerms_74 (lv_at hl 4 rfl) ?_
      refine lv_istore_n (lv' := [(1, .int x4), (0, .ref (g.q 57)), (2, .int x2), (3, .int x3), (4, .int x4), (5, .int x5)]) hx hb dX5_chooseTerms_76 rfl hl (Nat.le_of_ble_eq_true rfl) rfl (fun ls hl => ?_)
      refine lv_iinc (v := x2 + 1) (lv' := [(2, .int (x2 + 1)), (1, .int x4), (0, .ref (g.q 57)), (3, .int x3), (4, .int x4), (5, .int x5)]) hx hb dX5_chooseTerms_77 hl (k := 2) rfl rfl (Nat.le_of_ble_eq_true rfl) rfl (fun ls hl => ?_)
      refine lv_goto (tgt := 4) hx hb dX5_chooseTerms_80 (by decide) ?_
      exact hk4 x4 (x2 + 1) _ _ _ _ hW (lv_sub hl [2, 1, 0] rfl) h
    · have h := xif c3 h
      refine lv_iload hx hb dX5_chooseTerms_44 (lv_at hl 4 rfl) ?_
      refine lv_if_ne (tgt := 74) hx hb dX5_chooseTerms_46 (by decide) (fun c4 => ?_) (fun c4 => ?_)
      · have h := xif c4 h
        refine lv_iload hx hb dX5_chooseTerms_74 (lv_at hl 4 rfl) ?_
        refine lv_istore_n (lv' := [(1, .int x4), (0, .ref (g.q 57)), (2, .int x2), (3, .int x3), (4, .int x4), (5, .int x5)]) hx hb dX5_chooseTerms_76 rfl hl (Nat.le_of_ble_eq_true rfl) rfl (fun ls hl => ?_)
        refine lv_iinc (v := x2 + 1) (lv' := [(2, .int (x2 + 1)), (1, .int x4), (0, .ref (g.q 57)), (3, .int x3), (4, .int x4), (5, .int x5)]) hx hb dX5_chooseTerms_77 hl (k := 2) rfl rfl (Nat.le_of_ble_eq_true rfl) rfl (fun ls hl => ?_)
        refine lv_goto (tgt := 4) hx hb dX5_chooseTerms_80 (by decide) ?_
        exact hk4 x4 (x2 + 1) _ _ _ _ hW (lv_sub hl [2, 1, 0] rfl) h
      · have h := xit c4 h
        refine lv_aload_n hx hb dX5_chooseTerms_49 rfl (lv_at hl 0 rfl) ?_
        refine lv_iload hx hb dX5_chooseTerms_50 (lv_at hl 5 rfl) ?_
        refine lv_iload_n hx hb dX5_chooseTerms_52 rfl (lv_at hl 1 rfl) ?_
        obtain ⟨r5_, e5, h⟩ := xbo h
        refine xc_V (As := [.int x5, .int x1]) (rest := []) C hW (m_X5_endsFromAny N x5 x1 _ e5) mf_X5_endsFromAny mv_X5_endsFromAny ml_X5_132 ⟨rfl, rfl⟩ ⟨Nat.le_of_ble_eq_true rfl, Nat.le_of_ble_eq_true rfl⟩ KX_57 rfl hl.1 rfl rfl (Nat.le_of_ble_eq_true rfl) dX5_chooseTerms_53 (fun H locs hW => W.eq (g2 := F0 m 56 ls [.int r5_]) rfl ?_)
        refine lv_iload_n hx hb dX5_chooseTerms_56 rfl (lv_at hl 3 rfl) ?_
        refine lv_iand hx hb dX5_chooseTerms_57 ?_
        refine lv_istore (lv' := [(4, .int (r5_ &&& x3)), (0, .ref (g.q 57)), (1, .int x1), (2, .int x2), (3, .int x3), (5, .int x5)]) hx hb dX5_chooseTerms_58 hl (Nat.le_of_ble_eq_true rfl) rfl (fun ls hl => ?_)
        refine lv_aload_n hx hb dX5_chooseTerms_60 rfl (lv_at hl 1 rfl) ?_
        refine xg_r C hW fg_5_36 KX_57 rfl dX5_chooseTerms_61 ?_
        refine lv_iload_n hx hb dX5_chooseTerms_64 rfl (lv_at hl 3 rfl) ?_
        refine lv_iload hx hb dX5_chooseTerms_65 (lv_at hl 5 rfl) ?_
        obtain ⟨g6, h⟩ := xgd h
        refine xs_i C hW KX_65 g6 dX5_chooseTerms_67 (fun H locs hW => ?_)
        refine lv_iinc (v := x5 + 1) (lv' := [(5, .int (x5 + 1)), (4, .int (r5_ &&& x3)), (0, .ref (g.q 57)), (1, .int x1), (2, .int x2), (3, .int x3)]) hx hb dX5_chooseTerms_68 hl (k := 5) rfl rfl (Nat.le_of_ble_eq_true rfl) rfl (fun ls hl => ?_)
        refine lv_goto (tgt := 32) hx hb dX5_chooseTerms_71 (by decide) ?_
        exact ih x1 x2 x3 (r5_ &&& x3) (x5 + 1) _ _ _ _ hW (lv_sub hl [2, 3, 4, 5, 1, 0] rfl) h
set_option maxRecDepth 4000 in
theorem w_X5_chooseTerms_4 (N : Nat) {σ' : St} (C : xC KX g RX5 cX5_chooseTerms 6 none p s m args meth c) : ∀ (n : Nat), ∀ (x1 : Int32) (x2 : Int32) (σ : St) (H : Heap) (locs : List Loc) (ls : Array Slot), xW KX g s σ H locs → lv_has ls 6 [(0, .ref (g.q 57)), (1, .int x1), (2, .int x2)] → f_X5_chooseTerms_4 N n x1 x2 σ = some σ' → W p l e rm_X5_chooseTerms s m args below meth c H locs 0 0 (MQ below (xPost KX g none σ') args s 0 0 (xA KX g.q)) (F0 m 4 ls []) := by
  have hx := C.1
  have hb := C.2.1
  intro n
  induction n with
  | zero => intro x1 x2 σ H locs ls hW hl h; rw [f_X5_chooseTerms_4] at h; cases h
  | succ n ih =>
    intro x1 x2 σ H locs ls hW hl h
    rw [f_X5_chooseTerms_4] at h
    refine lv_iload_n hx hb dX5_chooseTerms_4 rfl (lv_at hl 2 rfl) ?_
    refine lv_aload_n hx hb dX5_chooseTerms_5 rfl (lv_at hl 0 rfl) ?_
    refine xg_i C hW fg_5_58 KX_57 rfl (v := 12411) rfl (x := σ.1 12411 0) rfl dX5_chooseTerms_6 ?_
    refine lv_icmp_ge (tgt := 83) hx hb dX5_chooseTerms_9 (by decide) (fun c1 => ?_) (fun c1 => ?_)
    · have h := xit c1 h
      cases h
      exact xr_v C hW dX5_chooseTerms_83
    · have h := xif c1 h
      refine lv_aload_n hx hb dX5_chooseTerms_12 rfl (lv_at hl 0 rfl) ?_
      refine xg_r C hW fg_5_30 KX_57 rfl dX5_chooseTerms_13 ?_
      refine lv_aload_n hx hb dX5_chooseTerms_16 rfl (lv_at hl 0 rfl) ?_
      refine xg_i C hW fg_5_58 KX_57 rfl (v := 12411) rfl (x := σ.1 12411 0) rfl dX5_chooseTerms_17 ?_
      refine lv_iload_n hx hb dX5_chooseTerms_20 rfl (lv_at hl 2 rfl) ?_
      refine lv_isub hx hb dX5_chooseTerms_21 ?_
      refine lv_iconst (v := 1) hx hb dX5_chooseTerms_22 rfl ?_
      refine lv_isub hx hb dX5_chooseTerms_23 ?_
      obtain ⟨g2, h⟩ := xgd h
      refine xa_i C hW KX_63 g2 (x := σ.1 63 (((σ.1 12411 0) - x2) - 1).toNatClampNeg) rfl dX5_chooseTerms_24 ?_
      refine lv_istore_n (lv' := [(3, .int (σ.1 63 (((σ.1 12411 0) - x2) - 1).toNatClampNeg)), (0, .ref (g.q 57)), (1, .int x1), (2, .int x2)]) hx hb dX5_chooseTerms_25 rfl hl (Nat.le_of_ble_eq_true rfl) rfl (fun ls hl => ?_)
      refine lv_iconst (v := 0) hx hb dX5_chooseTerms_26 rfl ?_
      refine lv_istore (lv' := [(4, .int 0), (3, .int (σ.1 63 (((σ.1 12411 0) - x2) - 1).toNatClampNeg)), (0, .ref (g.q 57)), (1, .int x1), (2, .int x2)]) hx hb dX5_chooseTerms_27 hl (Nat.le_of_ble_eq_true rfl) rfl (fun ls hl => ?_)
      refine lv_iconst (v := 0) hx hb dX5_chooseTerms_29 rfl ?_
      refine lv_istore (lv' := [(5, .int 0), (4, .int 0), (3, .int (σ.1 63 (((σ.1 12411 0) - x2) - 1).toNatClampNeg)), (0, .ref (g.q 57)), (1, .int x1), (2, .int x2)]) hx hb dX5_chooseTerms_30 hl (Nat.le_of_ble_eq_true rfl) rfl (fun ls hl => ?_)
      exact w_X5_chooseTerms_32 N (f_X5_chooseTerms_4 N n) C ih N x1 x2 (σ.1 63 (((σ.1 12411 0) - x2) - 1).toNatClampNeg) 0 0 _ _ _ _ hW (lv_sub hl [3, 4, 5, 2, 1, 0] rfl) h
set_option maxRecDepth 4000 in
theorem m_X5_chooseTerms (N : Nat) (σ : St) {σ' : St} (h : f_X5_chooseTerms N σ = some σ') : xM l KX g yX5_chooseTerms cX5_chooseTerms 6 none rm_X5_chooseTerms [.ref (g.q 57)] σ none σ' := by
  refine xmet pn_X5 rfl (Nat.le_of_ble_eq_true rfl) (lv := [(0, .ref (g.q 57))]) rfl (fun p e s m args below meth c ls C hW hl => ?_)
  have hx := C.1
  have hb := C.2.1
  unfold f_X5_chooseTerms at h
  refine lv_iconst (v := 1) hx hb dX5_chooseTerms_0 rfl ?_
  refine lv_istore_n (lv' := [(1, .int 1), (0, .ref (g.q 57))]) hx hb dX5_chooseTerms_1 rfl hl (Nat.le_of_ble_eq_true rfl) rfl (fun ls hl => ?_)
  refine lv_iconst (v := 0) hx hb dX5_chooseTerms_2 rfl ?_
  refine lv_istore_n (lv' := [(2, .int 0), (1, .int 1), (0, .ref (g.q 57))]) hx hb dX5_chooseTerms_3 rfl hl (Nat.le_of_ble_eq_true rfl) rfl (fun ls hl => ?_)
  exact w_X5_chooseTerms_4 N C N 1 0 _ _ _ _ hW (lv_sub hl [2, 1, 0] rfl) h
end
theorem dX5_findEnds_0 : decode cX5_findEnds 0 = .ok (.iconst 0, 1) := by decide +kernel
theorem dX5_findEnds_1 : decode cX5_findEnds 1 = .ok (.istore_n 1, 1) := by decide +kernel
theorem dX5_findEnds_2 : decode cX5_findEnds 2 = .ok (.iload_n 1, 1) := by decide +kernel
theorem dX5_findEnds_3 : decode cX5_findEnds 3 = .ok (.aload_n 0, 1) := by decide +kernel
theorem dX5_findEnds_4 : decode cX5_findEnds 4 = .ok (.getfield 46, 3) := by decide +kernel
theorem dX5_findEnds_7 : decode cX5_findEnds 7 = .ok (.getfield 99, 3) := by decide +kernel
theorem dX5_findEnds_10 : decode cX5_findEnds 10 = .ok (.if_icmp .ge 64, 3) := by decide +kernel
theorem dX5_findEnds_13 : decode cX5_findEnds 13 = .ok (.aload_n 0, 1) := by decide +kernel
theorem dX5_findEnds_14 : decode cX5_findEnds 14 = .ok (.getfield 50, 3) := by decide +kernel
theorem dX5_findEnds_17 : decode cX5_findEnds 17 = .ok (.aload_n 0, 1) := by decide +kernel
theorem dX5_findEnds_18 : decode cX5_findEnds 18 = .ok (.getfield 42, 3) := by decide +kernel
theorem dX5_findEnds_21 : decode cX5_findEnds 21 = .ok (.iload_n 1, 1) := by decide +kernel
theorem dX5_findEnds_22 : decode cX5_findEnds 22 = .ok (.invokevirtual 89, 3) := by decide +kernel
theorem dX5_findEnds_25 : decode cX5_findEnds 25 = .ok (.iconst 0, 1) := by decide +kernel
theorem dX5_findEnds_26 : decode cX5_findEnds 26 = .ok (.istore_n 2, 1) := by decide +kernel
theorem dX5_findEnds_27 : decode cX5_findEnds 27 = .ok (.iload_n 2, 1) := by decide +kernel
theorem dX5_findEnds_28 : decode cX5_findEnds 28 = .ok (.aload_n 0, 1) := by decide +kernel
theorem dX5_findEnds_29 : decode cX5_findEnds 29 = .ok (.getfield 54, 3) := by decide +kernel
theorem dX5_findEnds_32 : decode cX5_findEnds 32 = .ok (.if_icmp .ge 36, 3) := by decide +kernel
theorem dX5_findEnds_35 : decode cX5_findEnds 35 = .ok (.aload_n 0, 1) := by decide +kernel
theorem dX5_findEnds_36 : decode cX5_findEnds 36 = .ok (.getfield 24, 3) := by decide +kernel
theorem dX5_findEnds_39 : decode cX5_findEnds 39 = .ok (.iload_n 1, 1) := by decide +kernel
theorem dX5_findEnds_40 : decode cX5_findEnds 40 = .ok (.bipush 24, 2) := by decide +kernel
theorem dX5_findEnds_42 : decode cX5_findEnds 42 = .ok (.imul, 1) := by decide +kernel
theorem dX5_findEnds_43 : decode cX5_findEnds 43 = .ok (.iload_n 2, 1) := by decide +kernel
theorem dX5_findEnds_44 : decode cX5_findEnds 44 = .ok (.iadd, 1) := by decide +kernel
theorem dX5_findEnds_45 : decode cX5_findEnds 45 = .ok (.aload_n 0, 1) := by decide +kernel
theorem dX5_findEnds_46 : decode cX5_findEnds 46 = .ok (.getfield 50, 3) := by decide +kernel
theorem dX5_findEnds_49 : decode cX5_findEnds 49 = .ok (.aload_n 0, 1) := by decide +kernel
theorem dX5_findEnds_50 : decode cX5_findEnds 50 = .ok (.getfield 11, 3) := by decide +kernel
theorem dX5_findEnds_53 : decode cX5_findEnds 53 = .ok (.aload_n 0, 1) := by decide +kernel
theorem dX5_findEnds_54 : decode cX5_findEnds 54 = .ok (.getfield 54, 3) := by decide +kernel
theorem dX5_findEnds_57 : decode cX5_findEnds 57 = .ok (.iload_n 2, 1) := by decide +kernel
theorem dX5_findEnds_58 : decode cX5_findEnds 58 = .ok (.invokevirtual 95, 3) := by decide +kernel
theorem dX5_findEnds_61 : decode cX5_findEnds 61 = .ok (.iastore, 1) := by decide +kernel
theorem dX5_findEnds_62 : decode cX5_findEnds 62 = .ok (.iinc 2 1, 3) := by decide +kernel
theorem dX5_findEnds_65 : decode cX5_findEnds 65 = .ok (.goto (-38), 3) := by decide +kernel
theorem dX5_findEnds_68 : decode cX5_findEnds 68 = .ok (.iinc 1 1, 3) := by decide +kernel
theorem dX5_findEnds_71 : decode cX5_findEnds 71 = .ok (.goto (-69), 3) := by decide +kernel
theorem dX5_findEnds_74 : decode cX5_findEnds 74 = .ok (.return_, 1) := by decide +kernel
abbrev rm_X5_findEnds : Room := { frames := 5, cells := 0, slots := 0, locals := 119 }
def f_X5_findEnds_27 (N : Nat) (k2 : Int32 → St → Option St) : Nat → Int32 → Int32 → St → Option St
  | 0, _, _, _ => none
  | n + 1, x1, x2, σ => (if (σ.1 12404 0) ≤ x2 then k2 (x1 + 1) σ else bo (f_X7_endsFrom 58 24 N (σ.1 12404 0) x2 σ) (fun r4_ => grd (ib ((x1 * 24) + x2) 960) (f_X5_findEnds_27 N k2 n x1 (x2 + 1) (si σ 61 ((x1 * 24) + x2).toNatClampNeg r4_))))
def f_X5_findEnds_2 (N : Nat) : Nat → Int32 → St → Option St
  | 0, _, _ => none
  | n + 1, x1, σ => (if (σ.1 7600 0) ≤ x1 then some σ else bo (f_X7_look 1 x1 σ) (fun σ2 => f_X5_findEnds_27 N (f_X5_findEnds_2 N n) N x1 0 σ2))
def f_X5_findEnds (N : Nat) (σ : St) : Option St := f_X5_findEnds_2 N N 0 σ
section
variable {p : Program} {l : Launch} {e : Env} {s : State} {m : MethodId} {args : Array Value} {below : List Frame} {meth : Method} {c : Code} {g : XG}
set_option maxRecDepth 4000 in
theorem w_X5_findEnds_27 (N : Nat) (k2 : Int32 → St → Option St) {σ' : St} (C : xC KX g RX5 cX5_findEnds 3 none p s m args meth c) (hk2 : ∀ (x1 : Int32) (σ : St) (H : Heap) (locs : List Loc) (ls : Array Slot), xW KX g s σ H locs → lv_has ls 3 [(0, .ref (g.q 57)), (1, .int x1)] → k2 x1 σ = some σ' → W p l e rm_X5_findEnds s m args below meth c H locs 0 0 (MQ below (xPost KX g none σ') args s 0 0 (xA KX g.q)) (F0 m 2 ls [])) : ∀ (n : Nat), ∀ (x1 : Int32) (x2 : Int32) (σ : St) (H : Heap) (locs : List Loc) (ls : Array Slot), xW KX g s σ H locs → lv_has ls 3 [(0, .ref (g.q 57)), (1, .int x1), (2, .int x2)] → f_X5_findEnds_27 N k2 n x1 x2 σ = some σ' → W p l e rm_X5_findEnds s m args below meth c H locs 0 0 (MQ below (xPost KX g none σ') args s 0 0 (xA KX g.q)) (F0 m 27 ls []) := by
  have hx := C.1
  have hb := C.2.1
  intro n
  induction n with
  | zero => intro x1 x2 σ H locs ls hW hl h; rw [f_X5_findEnds_27] at h; cases h
  | succ n ih =>
    intro x1 x2 σ H locs ls hW hl h
    rw [f_X5_findEnds_27] at h
    refine lv_iload_n hx hb dX5_findEnds_27 rfl (lv_at hl 2 rfl) ?_
    refine lv_aload_n hx hb dX5_findEnds_28 rfl (lv_at hl 0 rfl) ?_
    refine xg_i C hW fg_5_54 KX_57 rfl (v := 12404) rfl (x := σ.1 12404 0) rfl dX5_findEnds_29 ?_
    refine lv_icmp_ge (tgt := 68) hx hb dX5_findEnds_32 (by decide) (fun c3 => ?_) (fun c3 => ?_)
    · have h := xit c3 h
      refine lv_iinc (v := x1 + 1) (lv' := [(1, .int (x1 + 1)), (0, .ref (g.q 57)), (2, .int x2)]) hx hb dX5_findEnds_68 hl (k := 1) rfl rfl (Nat.le_of_ble_eq_true rfl) rfl (fun ls hl => ?_)
      refine lv_goto (tgt := 2) hx hb dX5_findEnds_71 (by decide) ?_
      exact hk2 (x1 + 1) _ _ _ _ hW (lv_sub hl [1, 0] rfl) h
    · have h := xif c3 h
      refine lv_aload_n hx hb dX5_findEnds_35 rfl (lv_at hl 0 rfl) ?_
      refine xg_r C hW fg_5_24 KX_57 rfl dX5_findEnds_36 ?_
      refine lv_iload_n hx hb dX5_findEnds_39 rfl (lv_at hl 1 rfl) ?_
      refine lv_bipush (v := 24) hx hb dX5_findEnds_40 rfl ?_
      refine lv_imul hx hb dX5_findEnds_42 ?_
      refine lv_iload_n hx hb dX5_findEnds_43 rfl (lv_at hl 2 rfl) ?_
      refine lv_iadd hx hb dX5_findEnds_44 ?_
      refine lv_aload_n hx hb dX5_findEnds_45 rfl (lv_at hl 0 rfl) ?_
      refine xg_r C hW fg_5_50 KX_57 rfl dX5_findEnds_46 ?_
      refine lv_aload_n hx hb dX5_findEnds_49 rfl (lv_at hl 0 rfl) ?_
      refine xg_r C hW fg_5_11 KX_57 rfl dX5_findEnds_50 ?_
      refine lv_aload_n hx hb dX5_findEnds_53 rfl (lv_at hl 0 rfl) ?_
      refine xg_i C hW fg_5_54 KX_57 rfl (v := 12404) rfl (x := σ.1 12404 0) rfl dX5_findEnds_54 ?_
      refine lv_iload_n hx hb dX5_findEnds_57 rfl (lv_at hl 2 rfl) ?_
      obtain ⟨r4_, e4, h⟩ := xbo h
      refine xc_V (As := [.ref (g.q 58), .int (σ.1 12404 0), .int x2]) (rest := [.int ((x1 * 24) + x2), .ref (g.q 61)]) C hW (m_X7_endsFrom 58 24 KX_58 N (σ.1 12404 0) x2 _ e4) mf_X7_endsFrom mv_X7_endsFrom ml_X5_95 ⟨rfl, rfl⟩ ⟨Nat.le_of_ble_eq_true rfl, Nat.le_of_ble_eq_true rfl⟩ KX_38 rfl hl.1 rfl rfl (Nat.le_of_ble_eq_true rfl) dX5_findEnds_58 (fun H locs hW => W.eq (g2 := F0 m 61 ls [.int r4_, .int ((x1 * 24) + x2), .ref (g.q 61)]) rfl ?_)
      obtain ⟨g5, h⟩ := xgd h
      refine xs_i C hW KX_61 g5 dX5_findEnds_61 (fun H locs hW => ?_)
      refine lv_iinc (v := x2 + 1) (lv' := [(2, .int (x2 + 1)), (0, .ref (g.q 57)), (1, .int x1)]) hx hb dX5_findEnds_62 hl (k := 2) rfl rfl (Nat.le_of_ble_eq_true rfl) rfl (fun ls hl => ?_)
      refine lv_goto (tgt := 27) hx hb dX5_findEnds_65 (by decide) ?_
      exact ih x1 (x2 + 1) _ _ _ _ hW (lv_sub hl [1, 2, 0] rfl) h
set_option maxRecDepth 4000 in
theorem w_X5_findEnds_2 (N : Nat) {σ' : St} (C : xC KX g RX5 cX5_findEnds 3 none p s m args meth c) : ∀ (n : Nat), ∀ (x1 : Int32) (σ : St) (H : Heap) (locs : List Loc) (ls : Array Slot), xW KX g s σ H locs → lv_has ls 3 [(0, .ref (g.q 57)), (1, .int x1)] → f_X5_findEnds_2 N n x1 σ = some σ' → W p l e rm_X5_findEnds s m args below meth c H locs 0 0 (MQ below (xPost KX g none σ') args s 0 0 (xA KX g.q)) (F0 m 2 ls []) := by
  have hx := C.1
  have hb := C.2.1
  intro n
  induction n with
  | zero => intro x1 σ H locs ls hW hl h; rw [f_X5_findEnds_2] at h; cases h
  | succ n ih =>
    intro x1 σ H locs ls hW hl h
    rw [f_X5_findEnds_2] at h
    refine lv_iload_n hx hb dX5_findEnds_2 rfl (lv_at hl 1 rfl) ?_
    refine lv_aload_n hx hb dX5_findEnds_3 rfl (lv_at hl 0 rfl) ?_
    refine xg_r C hW fg_5_46 KX_57 rfl dX5_findEnds_4 ?_
    refine xg_i C hW fg_5_99 KX_33 rfl (v := 7600) rfl (x := σ.1 7600 0) rfl dX5_findEnds_7 ?_
    refine lv_icmp_ge (tgt := 74) hx hb dX5_findEnds_10 (by decide) (fun c1 => ?_) (fun c1 => ?_)
    · have h := xit c1 h
      cases h
      exact xr_v C hW dX5_findEnds_74
    · have h := xif c1 h
      refine lv_aload_n hx hb dX5_findEnds_13 rfl (lv_at hl 0 rfl) ?_
      refine xg_r C hW fg_5_50 KX_57 rfl dX5_findEnds_14 ?_
      refine lv_aload_n hx hb dX5_findEnds_17 rfl (lv_at hl 0 rfl) ?_
      refine xg_r C hW fg_5_42 KX_57 rfl dX5_findEnds_18 ?_
      refine lv_iload_n hx hb dX5_findEnds_21 rfl (lv_at hl 1 rfl) ?_
      obtain ⟨σ2, e2, h⟩ := xbo h
      refine xc_V (As := [.ref (g.q 1), .int x1]) (rest := []) C hW (m_X7_look 1 (Or.inl rfl) x1 _ e2) mf_X7_look mv_X7_look ml_X5_89 ⟨rfl, rfl⟩ ⟨Nat.le_of_ble_eq_true rfl, Nat.le_of_ble_eq_true rfl⟩ KX_38 rfl hl.1 rfl rfl (Nat.le_of_ble_eq_true rfl) dX5_findEnds_22 (fun H locs hW => W.eq (g2 := F0 m 25 ls []) rfl ?_)
      refine lv_iconst (v := 0) hx hb dX5_findEnds_25 rfl ?_
      refine lv_istore_n (lv' := [(2, .int 0), (0, .ref (g.q 57)), (1, .int x1)]) hx hb dX5_findEnds_26 rfl hl (Nat.le_of_ble_eq_true rfl) rfl (fun ls hl => ?_)
      exact w_X5_findEnds_27 N (f_X5_findEnds_2 N n) C ih N x1 0 _ _ _ _ hW (lv_sub hl [1, 2, 0] rfl) h
set_option maxRecDepth 4000 in
theorem m_X5_findEnds (N : Nat) (σ : St) {σ' : St} (h : f_X5_findEnds N σ = some σ') : xM l KX g yX5_findEnds cX5_findEnds 3 none rm_X5_findEnds [.ref (g.q 57)] σ none σ' := by
  refine xmet pn_X5 rfl (Nat.le_of_ble_eq_true rfl) (lv := [(0, .ref (g.q 57))]) rfl (fun p e s m args below meth c ls C hW hl => ?_)
  have hx := C.1
  have hb := C.2.1
  unfold f_X5_findEnds at h
  refine lv_iconst (v := 0) hx hb dX5_findEnds_0 rfl ?_
  refine lv_istore_n (lv' := [(1, .int 0), (0, .ref (g.q 57))]) hx hb dX5_findEnds_1 rfl hl (Nat.le_of_ble_eq_true rfl) rfl (fun ls hl => ?_)
  exact w_X5_findEnds_2 N C N 0 _ _ _ _ hW (lv_sub hl [1, 0] rfl) h
end
theorem dX5_findFewest_0 : decode cX5_findFewest 0 = .ok (.aload_n 0, 1) := by decide +kernel
theorem dX5_findFewest_1 : decode cX5_findFewest 1 = .ok (.getfield 30, 3) := by decide +kernel
theorem dX5_findFewest_4 : decode cX5_findFewest 4 = .ok (.iconst 0, 1) := by decide +kernel
theorem dX5_findFewest_5 : decode cX5_findFewest 5 = .ok (.invokestatic 126, 3) := by decide +kernel
theorem dX5_findFewest_8 : decode cX5_findFewest 8 = .ok (.aload_n 0, 1) := by decide +kernel
theorem dX5_findFewest_9 : decode cX5_findFewest 9 = .ok (.getfield 27, 3) := by decide +kernel
theorem dX5_findFewest_12 : decode cX5_findFewest 12 = .ok (.aload_n 0, 1) := by decide +kernel
theorem dX5_findFewest_13 : decode cX5_findFewest 13 = .ok (.getfield 54, 3) := by decide +kernel
theorem dX5_findFewest_16 : decode cX5_findFewest 16 = .ok (.iconst 0, 1) := by decide +kernel
theorem dX5_findFewest_17 : decode cX5_findFewest 17 = .ok (.iastore, 1) := by decide +kernel
theorem dX5_findFewest_18 : decode cX5_findFewest 18 = .ok (.aload_n 0, 1) := by decide +kernel
theorem dX5_findFewest_19 : decode cX5_findFewest 19 = .ok (.getfield 30, 3) := by decide +kernel
theorem dX5_findFewest_22 : decode cX5_findFewest 22 = .ok (.iconst 0, 1) := by decide +kernel
theorem dX5_findFewest_23 : decode cX5_findFewest 23 = .ok (.iconst 1, 1) := by decide +kernel
theorem dX5_findFewest_24 : decode cX5_findFewest 24 = .ok (.aload_n 0, 1) := by decide +kernel
theorem dX5_findFewest_25 : decode cX5_findFewest 25 = .ok (.getfield 54, 3) := by decide +kernel
theorem dX5_findFewest_28 : decode cX5_findFewest 28 = .ok (.ishl, 1) := by decide +kernel
theorem dX5_findFewest_29 : decode cX5_findFewest 29 = .ok (.iastore, 1) := by decide +kernel
theorem dX5_findFewest_30 : decode cX5_findFewest 30 = .ok (.aload_n 0, 1) := by decide +kernel
theorem dX5_findFewest_31 : decode cX5_findFewest 31 = .ok (.getfield 54, 3) := by decide +kernel
theorem dX5_findFewest_34 : decode cX5_findFewest 34 = .ok (.iconst 1, 1) := by decide +kernel
theorem dX5_findFewest_35 : decode cX5_findFewest 35 = .ok (.isub, 1) := by decide +kernel
theorem dX5_findFewest_36 : decode cX5_findFewest 36 = .ok (.istore_n 1, 1) := by decide +kernel
theorem dX5_findFewest_37 : decode cX5_findFewest 37 = .ok (.iload_n 1, 1) := by decide +kernel
theorem dX5_findFewest_38 : decode cX5_findFewest 38 = .ok (.ifCond .lt 141, 3) := by decide +kernel
theorem dX5_findFewest_41 : decode cX5_findFewest 41 = .ok (.iconst 0, 1) := by decide +kernel
theorem dX5_findFewest_42 : decode cX5_findFewest 42 = .ok (.istore_n 2, 1) := by decide +kernel
theorem dX5_findFewest_43 : decode cX5_findFewest 43 = .ok (.iconst 0, 1) := by decide +kernel
theorem dX5_findFewest_44 : decode cX5_findFewest 44 = .ok (.istore_n 3, 1) := by decide +kernel
theorem dX5_findFewest_45 : decode cX5_findFewest 45 = .ok (.iload_n 3, 1) := by decide +kernel
theorem dX5_findFewest_46 : decode cX5_findFewest 46 = .ok (.aload_n 0, 1) := by decide +kernel
theorem dX5_findFewest_47 : decode cX5_findFewest 47 = .ok (.getfield 46, 3) := by decide +kernel
theorem dX5_findFewest_50 : decode cX5_findFewest 50 = .ok (.getfield 99, 3) := by decide +kernel
theorem dX5_findFewest_53 : decode cX5_findFewest 53 = .ok (.if_icmp .ge 23, 3) := by decide +kernel
theorem dX5_findFewest_56 : decode cX5_findFewest 56 = .ok (.iload_n 2, 1) := by decide +kernel
theorem dX5_findFewest_57 : decode cX5_findFewest 57 = .ok (.aload_n 0, 1) := by decide +kernel
theorem dX5_findFewest_58 : decode cX5_findFewest 58 = .ok (.getfield 24, 3) := by decide +kernel
theorem dX5_findFewest_61 : decode cX5_findFewest 61 = .ok (.iload_n 3, 1) := by decide +kernel
theorem dX5_findFewest_62 : decode cX5_findFewest 62 = .ok (.bipush 24, 2) := by decide +kernel
theorem dX5_findFewest_64 : decode cX5_findFewest 64 = .ok (.imul, 1) := by decide +kernel
theorem dX5_findFewest_65 : decode cX5_findFewest 65 = .ok (.iload_n 1, 1) := by decide +kernel
theorem dX5_findFewest_66 : decode cX5_findFewest 66 = .ok (.iadd, 1) := by decide +kernel
theorem dX5_findFewest_67 : decode cX5_findFewest 67 = .ok (.iaload, 1) := by decide +kernel
theorem dX5_findFewest_68 : decode cX5_findFewest 68 = .ok (.ior, 1) := by decide +kernel
theorem dX5_findFewest_69 : decode cX5_findFewest 69 = .ok (.istore_n 2, 1) := by decide +kernel
theorem dX5_findFewest_70 : decode cX5_findFewest 70 = .ok (.iinc 3 1, 3) := by decide +kernel
theorem dX5_findFewest_73 : decode cX5_findFewest 73 = .ok (.goto (-28), 3) := by decide +kernel
theorem dX5_findFewest_76 : decode cX5_findFewest 76 = .ok (.aload_n 0, 1) := by decide +kernel
theorem dX5_findFewest_77 : decode cX5_findFewest 77 = .ok (.getfield 27, 3) := by decide +kernel
theorem dX5_findFewest_80 : decode cX5_findFewest 80 = .ok (.iload_n 1, 1) := by decide +kernel
theorem dX5_findFewest_81 : decode cX5_findFewest 81 = .ok (.sipush 1000, 3) := by decide +kernel
theorem dX5_findFewest_84 : decode cX5_findFewest 84 = .ok (.iastore, 1) := by decide +kernel
theorem dX5_findFewest_85 : decode cX5_findFewest 85 = .ok (.iload_n 1, 1) := by decide +kernel
theorem dX5_findFewest_86 : decode cX5_findFewest 86 = .ok (.iconst 1, 1) := by decide +kernel
theorem dX5_findFewest_87 : decode cX5_findFewest 87 = .ok (.iadd, 1) := by decide +kernel
theorem dX5_findFewest_88 : decode cX5_findFewest 88 = .ok (.istore_n 3, 1) := by decide +kernel
theorem dX5_findFewest_89 : decode cX5_findFewest 89 = .ok (.iload_n 3, 1) := by decide +kernel
theorem dX5_findFewest_90 : decode cX5_findFewest 90 = .ok (.aload_n 0, 1) := by decide +kernel
theorem dX5_findFewest_91 : decode cX5_findFewest 91 = .ok (.getfield 54, 3) := by decide +kernel
theorem dX5_findFewest_94 : decode cX5_findFewest 94 = .ok (.if_icmp .gt 49, 3) := by decide +kernel
theorem dX5_findFewest_97 : decode cX5_findFewest 97 = .ok (.iload_n 2, 1) := by decide +kernel
theorem dX5_findFewest_98 : decode cX5_findFewest 98 = .ok (.iload_n 3, 1) := by decide +kernel
theorem dX5_findFewest_99 : decode cX5_findFewest 99 = .ok (.iushr, 1) := by decide +kernel
theorem dX5_findFewest_100 : decode cX5_findFewest 100 = .ok (.iconst 1, 1) := by decide +kernel
theorem dX5_findFewest_101 : decode cX5_findFewest 101 = .ok (.iand, 1) := by decide +kernel
theorem dX5_findFewest_102 : decode cX5_findFewest 102 = .ok (.iconst 1, 1) := by decide +kernel
theorem dX5_findFewest_103 : decode cX5_findFewest 103 = .ok (.if_icmp .ne 34, 3) := by decide +kernel
theorem dX5_findFewest_106 : decode cX5_findFewest 106 = .ok (.aload_n 0, 1) := by decide +kernel
theorem dX5_findFewest_107 : decode cX5_findFewest 107 = .ok (.getfield 27, 3) := by decide +kernel
theorem dX5_findFewest_110 : decode cX5_findFewest 110 = .ok (.iload_n 3, 1) := by decide +kernel
theorem dX5_findFewest_111 : decode cX5_findFewest 111 = .ok (.iaload, 1) := by decide +kernel
theorem dX5_findFewest_112 : decode cX5_findFewest 112 = .ok (.iconst 1, 1) := by decide +kernel
theorem dX5_findFewest_113 : decode cX5_findFewest 113 = .ok (.iadd, 1) := by decide +kernel
theorem dX5_findFewest_114 : decode cX5_findFewest 114 = .ok (.aload_n 0, 1) := by decide +kernel
theorem dX5_findFewest_115 : decode cX5_findFewest 115 = .ok (.getfield 27, 3) := by decide +kernel
theorem dX5_findFewest_118 : decode cX5_findFewest 118 = .ok (.iload_n 1, 1) := by decide +kernel
theorem dX5_findFewest_119 : decode cX5_findFewest 119 = .ok (.iaload, 1) := by decide +kernel
theorem dX5_findFewest_120 : decode cX5_findFewest 120 = .ok (.if_icmp .ge 17, 3) := by decide +kernel
theorem dX5_findFewest_123 : decode cX5_findFewest 123 = .ok (.aload_n 0, 1) := by decide +kernel
theorem dX5_findFewest_124 : decode cX5_findFewest 124 = .ok (.getfield 27, 3) := by decide +kernel
theorem dX5_findFewest_127 : decode cX5_findFewest 127 = .ok (.iload_n 1, 1) := by decide +kernel
theorem dX5_findFewest_128 : decode cX5_findFewest 128 = .ok (.aload_n 0, 1) := by decide +kernel
theorem dX5_findFewest_129 : decode cX5_findFewest 129 = .ok (.getfield 27, 3) := by decide +kernel
theorem dX5_findFewest_132 : decode cX5_findFewest 132 = .ok (.iload_n 3, 1) := by decide +kernel
theorem dX5_findFewest_133 : decode cX5_findFewest 133 = .ok (.iaload, 1) := by decide +kernel
theorem dX5_findFewest_134 : decode cX5_findFewest 134 = .ok (.iconst 1, 1) := by decide +kernel
theorem dX5_findFewest_135 : decode cX5_findFewest 135 = .ok (.iadd, 1) := by decide +kernel
theorem dX5_findFewest_136 : decode cX5_findFewest 136 = .ok (.iastore, 1) := by decide +kernel
theorem dX5_findFewest_137 : decode cX5_findFewest 137 = .ok (.iinc 3 1, 3) := by decide +kernel
theorem dX5_findFewest_140 : decode cX5_findFewest 140 = .ok (.goto (-51), 3) := by decide +kernel
theorem dX5_findFewest_143 : decode cX5_findFewest 143 = .ok (.aload_n 0, 1) := by decide +kernel
theorem dX5_findFewest_144 : decode cX5_findFewest 144 = .ok (.getfield 27, 3) := by decide +kernel
theorem dX5_findFewest_147 : decode cX5_findFewest 147 = .ok (.iload_n 1, 1) := by decide +kernel
theorem dX5_findFewest_148 : decode cX5_findFewest 148 = .ok (.iaload, 1) := by decide +kernel
theorem dX5_findFewest_149 : decode cX5_findFewest 149 = .ok (.aload_n 0, 1) := by decide +kernel
theorem dX5_findFewest_150 : decode cX5_findFewest 150 = .ok (.getfield 54, 3) := by decide +kernel
theorem dX5_findFewest_153 : decode cX5_findFewest 153 = .ok (.if_icmp .gt 20, 3) := by decide +kernel
theorem dX5_findFewest_156 : decode cX5_findFewest 156 = .ok (.aload_n 0, 1) := by decide +kernel
theorem dX5_findFewest_157 : decode cX5_findFewest 157 = .ok (.getfield 30, 3) := by decide +kernel
theorem dX5_findFewest_160 : decode cX5_findFewest 160 = .ok (.aload_n 0, 1) := by decide +kernel
theorem dX5_findFewest_161 : decode cX5_findFewest 161 = .ok (.getfield 27, 3) := by decide +kernel
theorem dX5_findFewest_164 : decode cX5_findFewest 164 = .ok (.iload_n 1, 1) := by decide +kernel
theorem dX5_findFewest_165 : decode cX5_findFewest 165 = .ok (.iaload, 1) := by decide +kernel
theorem dX5_findFewest_166 : decode cX5_findFewest 166 = .ok (.dup2, 1) := by decide +kernel
theorem dX5_findFewest_167 : decode cX5_findFewest 167 = .ok (.iaload, 1) := by decide +kernel
theorem dX5_findFewest_168 : decode cX5_findFewest 168 = .ok (.iconst 1, 1) := by decide +kernel
theorem dX5_findFewest_169 : decode cX5_findFewest 169 = .ok (.iload_n 1, 1) := by decide +kernel
theorem dX5_findFewest_170 : decode cX5_findFewest 170 = .ok (.ishl, 1) := by decide +kernel
theorem dX5_findFewest_171 : decode cX5_findFewest 171 = .ok (.ior, 1) := by decide +kernel
theorem dX5_findFewest_172 : decode cX5_findFewest 172 = .ok (.iastore, 1) := by decide +kernel
theorem dX5_findFewest_173 : decode cX5_findFewest 173 = .ok (.iinc 1 (-1), 3) := by decide +kernel
theorem dX5_findFewest_176 : decode cX5_findFewest 176 = .ok (.goto (-139), 3) := by decide +kernel
theorem dX5_findFewest_179 : decode cX5_findFewest 179 = .ok (.return_, 1) := by decide +kernel
abbrev rm_X5_findFewest : Room := { frames := 1, cells := 0, slots := 0, locals := 23 }
def f_X5_findFewest_89 (N : Nat) (k37 : Int32 → St → Option St) : Nat → Int32 → Int32 → Int32 → St → Option St
  | 0, _, _, _, _ => none
  | n + 1, x1, x2, x3, σ => (if (σ.1 12404 0) < x3 then grd (ib x1 25) ((if (σ.1 12404 0) < (σ.1 62 x1.toNatClampNeg) then k37 (x1 + (-1)) σ else grd (ib x1 25) (grd (ib (σ.1 62 x1.toNatClampNeg) 25) (grd (ib (σ.1 62 x1.toNatClampNeg) 25) (k37 (x1 + (-1)) (si σ 63 (σ.1 62 x1.toNatClampNeg).toNatClampNeg ((σ.1 63 (σ.1 62 x1.toNatClampNeg).toNatClampNeg) ||| (1 <<< (x1 &&& 31))))))))) else (if ((ushr x2 x3) &&& 1) = 1 then grd (ib x3 25) (grd (ib x1 25) ((if (σ.1 62 x1.toNatClampNeg) ≤ ((σ.1 62 x3.toNatClampNeg) + 1) then f_X5_findFewest_89 N k37 n x1 x2 (x3 + 1) σ else grd (ib x3 25) (grd (ib x1 25) (f_X5_findFewest_89 N k37 n x1 x2 (x3 + 1) (si σ 62 x1.toNatClampNeg ((σ.1 62 x3.toNatClampNeg) + 1))))))) else f_X5_findFewest_89 N k37 n x1 x2 (x3 + 1) σ))
def f_X5_findFewest_45 (N : Nat) (k37 : Int32 → St → Option St) : Nat → Int32 → Int32 → Int32 → St → Option St
  | 0, _, _, _, _ => none
  | n + 1, x1, x2, x3, σ => (if (σ.1 7600 0) ≤ x3 then grd (ib x1 25) (f_X5_findFewest_89 N k37 N x1 x2 (x1 + 1) (si σ 62 x1.toNatClampNeg 1000)) else grd (ib ((x3 * 24) + x1) 960) (f_X5_findFewest_45 N k37 n x1 (x2 ||| (σ.1 61 ((x3 * 24) + x1).toNatClampNeg)) (x3 + 1) σ))
def f_X5_findFewest_37 (N : Nat) : Nat → Int32 → St → Option St
  | 0, _, _ => none
  | n + 1, x1, σ => (if x1 < 0 then some σ else f_X5_findFewest_45 N (f_X5_findFewest_37 N n) N x1 0 0 σ)
def f_X5_findFewest (N : Nat) (σ : St) : Option St := bo (f_J7_fill_53178 63 25 N 0 σ) (fun σ1 => grd (ib (σ1.1 12404 0) 25) (grd (ib 0 25) (f_X5_findFewest_37 N N ((σ1.1 12404 0) - 1) (si (si σ1 62 (σ1.1 12404 0).toNatClampNeg 0) 63 0 (1 <<< ((σ1.1 12404 0) &&& 31))))))
section
variable {p : Program} {l : Launch} {e : Env} {s : State} {m : MethodId} {args : Array Value} {below : List Frame} {meth : Method} {c : Code} {g : XG}
set_option maxRecDepth 4000 in
theorem w_X5_findFewest_89 (N : Nat) (k37 : Int32 → St → Option St) {σ' : St} (C : xC KX g RX5 cX5_findFewest 4 none p s m args meth c) (hk37 : ∀ (x1 : Int32) (σ : St) (H : Heap) (locs : List Loc) (ls : Array Slot), xW KX g s σ H locs → lv_has ls 4 [(0, .ref (g.q 57)), (1, .int x1)] → k37 x1 σ = some σ' → W p l e rm_X5_findFewest s m args below meth c H locs 0 0 (MQ below (xPost KX g none σ') args s 0 0 (xA KX g.q)) (F0 m 37 ls [])) : ∀ (n : Nat), ∀ (x1 : Int32) (x2 : Int32) (x3 : Int32) (σ : St) (H : Heap) (locs : List Loc) (ls : Array Slot), xW KX g s σ H locs → lv_has ls 4 [(0, .ref (g.q 57)), (1, .int x1), (2, .int x2), (3, .int x3)] → f_X5_findFewest_89 N k37 n x1 x2 x3 σ = some σ' → W p l e rm_X5_findFewest s m args below meth c H locs 0 0 (MQ below (xPost KX g none σ') args s 0 0 (xA KX g.q)) (F0 m 89 ls []) := by
  have hx := C.1
  have hb := C.2.1
  intro n
  induction n with
  | zero => intro x1 x2 x3 σ H locs ls hW hl h; rw [f_X5_findFewest_89] at h; cases h
  | succ n ih =>
    intro x1 x2 x3 σ H locs ls hW hl h
    rw [f_X5_findFewest_89] at h
    refine lv_iload_n hx hb dX5_findFewest_89 rfl (lv_at hl 3 rfl) ?_
    refine lv_aload_n hx hb dX5_findFewest_90 rfl (lv_at hl 0 rfl) ?_
    refine xg_i C hW fg_5_54 KX_57 rfl (v := 12404) rfl (x := σ.1 12404 0) rfl dX5_findFewest_91 ?_
    refine lv_icmp_gt (tgt := 143) hx hb dX5_findFewest_94 (by decide) (fun c8 => ?_) (fun c8 => ?_)
    · have h := xit c8 h
      refine lv_aload_n hx hb dX5_findFewest_143 rfl (lv_at hl 0 rfl) ?_
      refine xg_r C hW fg_5_27 KX_57 rfl dX5_findFewest_144 ?_
      refine lv_iload_n hx hb dX5_findFewest_147 rfl (lv_at hl 1 rfl) ?_
      obtain ⟨g9, h⟩ := xgd h
      refine xa_i C hW KX_62 g9 (x := σ.1 62 x1.toNatClampNeg) rfl dX5_findFewest_148 ?_
      refine lv_aload_n hx hb dX5_findFewest_149 rfl (lv_at hl 0 rfl) ?_
      refine xg_i C hW fg_5_54 KX_57 rfl (v := 12404) rfl (x := σ.1 12404 0) rfl dX5_findFewest_150 ?_
      refine lv_icmp_gt (tgt := 173) hx hb dX5_findFewest_153 (by decide) (fun c10 => ?_) (fun c10 => ?_)
      · have h := xit c10 h
        refine lv_iinc (v := x1 + (-1)) (lv' := [(1, .int (x1 + (-1))), (0, .ref (g.q 57)), (2, .int x2), (3, .int x3)]) hx hb dX5_findFewest_173 hl (k := 1) rfl rfl (Nat.le_of_ble_eq_true rfl) rfl (fun ls hl => ?_)
        refine lv_goto (tgt := 37) hx hb dX5_findFewest_176 (by decide) ?_
        exact hk37 (x1 + (-1)) _ _ _ _ hW (lv_sub hl [1, 0] rfl) h
      · have h := xif c10 h
        refine lv_aload_n hx hb dX5_findFewest_156 rfl (lv_at hl 0 rfl) ?_
        refine xg_r C hW fg_5_30 KX_57 rfl dX5_findFewest_157 ?_
        refine lv_aload_n hx hb dX5_findFewest_160 rfl (lv_at hl 0 rfl) ?_
        refine xg_r C hW fg_5_27 KX_57 rfl dX5_findFewest_161 ?_
        refine lv_iload_n hx hb dX5_findFewest_164 rfl (lv_at hl 1 rfl) ?_
        obtain ⟨g11, h⟩ := xgd h
        refine xa_i C hW KX_62 g11 (x := σ.1 62 x1.toNatClampNeg) rfl dX5_findFewest_165 ?_
        refine lv_dup2_11 hx hb dX5_findFewest_166 rfl rfl ?_
        obtain ⟨g12, h⟩ := xgd h
        refine xa_i C hW KX_63 g12 (x := σ.1 63 (σ.1 62 x1.toNatClampNeg).toNatClampNeg) rfl dX5_findFewest_167 ?_
        refine lv_iconst (v := 1) hx hb dX5_findFewest_168 rfl ?_
        refine lv_iload_n hx hb dX5_findFewest_169 rfl (lv_at hl 1 rfl) ?_
        refine lv_ishl hx hb dX5_findFewest_170 ?_
        refine lv_ior hx hb dX5_findFewest_171 ?_
        obtain ⟨g13, h⟩ := xgd h
        refine xs_i C hW KX_63 g13 dX5_findFewest_172 (fun H locs hW => ?_)
        refine lv_iinc (v := x1 + (-1)) (lv' := [(1, .int (x1 + (-1))), (0, .ref (g.q 57)), (2, .int x2), (3, .int x3)]) hx hb dX5_findFewest_173 hl (k := 1) rfl rfl (Nat.le_of_ble_eq_true rfl) rfl (fun ls hl => ?_)
        refine lv_goto (tgt := 37) hx hb dX5_findFewest_176 (by decide) ?_
        exact hk37 (x1 + (-1)) _ _ _ _ hW (lv_sub hl [1, 0] rfl) h
    · have h := xif c8 h
      refine lv_iload_n hx hb dX5_findFewest_97 rfl (lv_at hl 2 rfl) ?_
      refine lv_iload_n hx hb dX5_findFewest_98 rfl (lv_at hl 3 rfl) ?_
      refine lv_iushr (v := ushr x2 x3) hx hb dX5_findFewest_99 rfl ?_
      refine lv_iconst (v := 1) hx hb dX5_findFewest_100 rfl ?_
      refine lv_iand hx hb dX5_findFewest_101 ?_
      refine lv_iconst (v := 1) hx hb dX5_findFewest_102 rfl ?_
      refine lv_icmp_ne (tgt := 137) hx hb dX5_findFewest_103 (by decide) (fun c14 => ?_) (fun c14 => ?_)
      · have h := xif c14 h
        refine lv_iinc (v := x3 + 1) (lv' := [(3, .int (x3 + 1)), (0, .ref (g.q 57)), (1, .int x1), (2, .int x2)]) hx hb dX5_findFewest_137 hl (k := 3) rfl rfl (Nat.le_of_ble_eq_true rfl) rfl (fun ls hl => ?_)
        refine lv_goto (tgt := 89) hx hb dX5_findFewest_140 (by decide) ?_
        exact ih x1 x2 (x3 + 1) _ _ _ _ hW (lv_sub hl [1, 2, 3, 0] rfl) h
      · have h := xit c14 h
        refine lv_aload_n hx hb dX5_findFewest_106 rfl (lv_at hl 0 rfl) ?_
        refine xg_r C hW fg_5_27 KX_57 rfl dX5_findFewest_107 ?_
        refine lv_iload_n hx hb dX5_findFewest_110 rfl (lv_at hl 3 rfl) ?_
        obtain ⟨g15, h⟩ := xgd h
        refine xa_i C hW KX_62 g15 (x := σ.1 62 x3.toNatClampNeg) rfl dX5_findFewest_111 ?_
        refine lv_iconst (v := 1) hx hb dX5_findFewest_112 rfl ?_
        refine lv_iadd hx hb dX5_findFewest_113 ?_
        refine lv_aload_n hx hb dX5_findFewest_114 rfl (lv_at hl 0 rfl) ?_
        refine xg_r C hW fg_5_27 KX_57 rfl dX5_findFewest_115 ?_
        refine lv_iload_n hx hb dX5_findFewest_118 rfl (lv_at hl 1 rfl) ?_
        obtain ⟨g16, h⟩ := xgd h
        refine xa_i C hW KX_62 g16 (x := σ.1 62 x1.toNatClampNeg) rfl dX5_findFewest_119 ?_
        refine lv_icmp_ge (tgt := 137) hx hb dX5_findFewest_120 (by decide) (fun c17 => ?_) (fun c17 => ?_)
        · have h := xit c17 h
          refine lv_iinc (v := x3 + 1) (lv' := [(3, .int (x3 + 1)), (0, .ref (g.q 57)), (1, .int x1), (2, .int x2)]) hx hb dX5_findFewest_137 hl (k := 3) rfl rfl (Nat.le_of_ble_eq_true rfl) rfl (fun ls hl => ?_)
          refine lv_goto (tgt := 89) hx hb dX5_findFewest_140 (by decide) ?_
          exact ih x1 x2 (x3 + 1) _ _ _ _ hW (lv_sub hl [1, 2, 3, 0] rfl) h
        · have h := xif c17 h
          refine lv_aload_n hx hb dX5_findFewest_123 rfl (lv_at hl 0 rfl) ?_
          refine xg_r C hW fg_5_27 KX_57 rfl dX5_findFewest_124 ?_
          refine lv_iload_n hx hb dX5_findFewest_127 rfl (lv_at hl 1 rfl) ?_
          refine lv_aload_n hx hb dX5_findFewest_128 rfl (lv_at hl 0 rfl) ?_
          refine xg_r C hW fg_5_27 KX_57 rfl dX5_findFewest_129 ?_
          refine lv_iload_n hx hb dX5_findFewest_132 rfl (lv_at hl 3 rfl) ?_
          obtain ⟨g18, h⟩ := xgd h
          refine xa_i C hW KX_62 g18 (x := σ.1 62 x3.toNatClampNeg) rfl dX5_findFewest_133 ?_
          refine lv_iconst (v := 1) hx hb dX5_findFewest_134 rfl ?_
          refine lv_iadd hx hb dX5_findFewest_135 ?_
          obtain ⟨g19, h⟩ := xgd h
          refine xs_i C hW KX_62 g19 dX5_findFewest_136 (fun H locs hW => ?_)
          refine lv_iinc (v := x3 + 1) (lv' := [(3, .int (x3 + 1)), (0, .ref (g.q 57)), (1, .int x1), (2, .int x2)]) hx hb dX5_findFewest_137 hl (k := 3) rfl rfl (Nat.le_of_ble_eq_true rfl) rfl (fun ls hl => ?_)
          refine lv_goto (tgt := 89) hx hb dX5_findFewest_140 (by decide) ?_
          exact ih x1 x2 (x3 + 1) _ _ _ _ hW (lv_sub hl [1, 2, 3, 0] rfl) h
set_option maxRecDepth 4000 in
theorem w_X5_findFewest_45 (N : Nat) (k37 : Int32 → St → Option St) {σ' : St} (C : xC KX g RX5 cX5_findFewest 4 none p s m args meth c) (hk37 : ∀ (x1 : Int32) (σ : St) (H : Heap) (locs : List Loc) (ls : Array Slot), xW KX g s σ H locs → lv_has ls 4 [(0, .ref (g.q 57)), (1, .int x1)] → k37 x1 σ = some σ' → W p l e rm_X5_findFewest s m args below meth c H locs 0 0 (MQ below (xPost KX g none σ') args s 0 0 (xA KX g.q)) (F0 m 37 ls [])) : ∀ (n : Nat), ∀ (x1 : Int32) (x2 : Int32) (x3 : Int32) (σ : St) (H : Heap) (locs : List Loc) (ls : Array Slot), xW KX g s σ H locs → lv_has ls 4 [(0, .ref (g.q 57)), (1, .int x1), (2, .int x2), (3, .int x3)] → f_X5_findFewest_45 N k37 n x1 x2 x3 σ = some σ' → W p l e rm_X5_findFewest s m args below meth c H locs 0 0 (MQ below (xPost KX g none σ') args s 0 0 (xA KX g.q)) (F0 m 45 ls []) := by
  have hx := C.1
  have hb := C.2.1
  intro n
  induction n with
  | zero => intro x1 x2 x3 σ H locs ls hW hl h; rw [f_X5_findFewest_45] at h; cases h
  | succ n ih =>
    intro x1 x2 x3 σ H locs ls hW hl h
    rw [f_X5_findFewest_45] at h
    refine lv_iload_n hx hb dX5_findFewest_45 rfl (lv_at hl 3 rfl) ?_
    refine lv_aload_n hx hb dX5_findFewest_46 rfl (lv_at hl 0 rfl) ?_
    refine xg_r C hW fg_5_46 KX_57 rfl dX5_findFewest_47 ?_
    refine xg_i C hW fg_5_99 KX_33 rfl (v := 7600) rfl (x := σ.1 7600 0) rfl dX5_findFewest_50 ?_
    refine lv_icmp_ge (tgt := 76) hx hb dX5_findFewest_53 (by decide) (fun c5 => ?_) (fun c5 => ?_)
    · have h := xit c5 h
      refine lv_aload_n hx hb dX5_findFewest_76 rfl (lv_at hl 0 rfl) ?_
      refine xg_r C hW fg_5_27 KX_57 rfl dX5_findFewest_77 ?_
      refine lv_iload_n hx hb dX5_findFewest_80 rfl (lv_at hl 1 rfl) ?_
      refine lv_sipush (v := 1000) hx hb dX5_findFewest_81 rfl ?_
      obtain ⟨g6, h⟩ := xgd h
      refine xs_i C hW KX_62 g6 dX5_findFewest_84 (fun H locs hW => ?_)
      refine lv_iload_n hx hb dX5_findFewest_85 rfl (lv_at hl 1 rfl) ?_
      refine lv_iconst (v := 1) hx hb dX5_findFewest_86 rfl ?_
      refine lv_iadd hx hb dX5_findFewest_87 ?_
      refine lv_istore_n (lv' := [(3, .int (x1 + 1)), (0, .ref (g.q 57)), (1, .int x1), (2, .int x2)]) hx hb dX5_findFewest_88 rfl hl (Nat.le_of_ble_eq_true rfl) rfl (fun ls hl => ?_)
      exact w_X5_findFewest_89 N k37 C hk37 N x1 x2 (x1 + 1) _ _ _ _ hW (lv_sub hl [1, 2, 3, 0] rfl) h
    · have h := xif c5 h
      refine lv_iload_n hx hb dX5_findFewest_56 rfl (lv_at hl 2 rfl) ?_
      refine lv_aload_n hx hb dX5_findFewest_57 rfl (lv_at hl 0 rfl) ?_
      refine xg_r C hW fg_5_24 KX_57 rfl dX5_findFewest_58 ?_
      refine lv_iload_n hx hb dX5_findFewest_61 rfl (lv_at hl 3 rfl) ?_
      refine lv_bipush (v := 24) hx hb dX5_findFewest_62 rfl ?_
      refine lv_imul hx hb dX5_findFewest_64 ?_
      refine lv_iload_n hx hb dX5_findFewest_65 rfl (lv_at hl 1 rfl) ?_
      refine lv_iadd hx hb dX5_findFewest_66 ?_
      obtain ⟨g7, h⟩ := xgd h
      refine xa_i C hW KX_61 g7 (x := σ.1 61 ((x3 * 24) + x1).toNatClampNeg) rfl dX5_findFewest_67 ?_
      refine lv_ior hx hb dX5_findFewest_68 ?_
      refine lv_istore_n (lv' := [(2, .int (x2 ||| (σ.1 61 ((x3 * 24) + x1).toNatClampNeg))), (0, .ref (g.q 57)), (1, .int x1), (3, .int x3)]) hx hb dX5_findFewest_69 rfl hl (Nat.le_of_ble_eq_true rfl) rfl (fun ls hl => ?_)
      refine lv_iinc (v := x3 + 1) (lv' := [(3, .int (x3 + 1)), (2, .int (x2 ||| (σ.1 61 ((x3 * 24) + x1).toNatClampNeg))), (0, .ref (g.q 57)), (1, .int x1)]) hx hb dX5_findFewest_70 hl (k := 3) rfl rfl (Nat.le_of_ble_eq_true rfl) rfl (fun ls hl => ?_)
      refine lv_goto (tgt := 45) hx hb dX5_findFewest_73 (by decide) ?_
      exact ih x1 (x2 ||| (σ.1 61 ((x3 * 24) + x1).toNatClampNeg)) (x3 + 1) _ _ _ _ hW (lv_sub hl [2, 3, 1, 0] rfl) h
set_option maxRecDepth 4000 in
theorem w_X5_findFewest_37 (N : Nat) {σ' : St} (C : xC KX g RX5 cX5_findFewest 4 none p s m args meth c) : ∀ (n : Nat), ∀ (x1 : Int32) (σ : St) (H : Heap) (locs : List Loc) (ls : Array Slot), xW KX g s σ H locs → lv_has ls 4 [(0, .ref (g.q 57)), (1, .int x1)] → f_X5_findFewest_37 N n x1 σ = some σ' → W p l e rm_X5_findFewest s m args below meth c H locs 0 0 (MQ below (xPost KX g none σ') args s 0 0 (xA KX g.q)) (F0 m 37 ls []) := by
  have hx := C.1
  have hb := C.2.1
  intro n
  induction n with
  | zero => intro x1 σ H locs ls hW hl h; rw [f_X5_findFewest_37] at h; cases h
  | succ n ih =>
    intro x1 σ H locs ls hW hl h
    rw [f_X5_findFewest_37] at h
    refine lv_iload_n hx hb dX5_findFewest_37 rfl (lv_at hl 1 rfl) ?_
    refine lv_if_lt (tgt := 179) hx hb dX5_findFewest_38 (by decide) (fun c4 => ?_) (fun c4 => ?_)
    · have h := xit c4 h
      cases h
      exact xr_v C hW dX5_findFewest_179
    · have h := xif c4 h
      refine lv_iconst (v := 0) hx hb dX5_findFewest_41 rfl ?_
      refine lv_istore_n (lv' := [(2, .int 0), (0, .ref (g.q 57)), (1, .int x1)]) hx hb dX5_findFewest_42 rfl hl (Nat.le_of_ble_eq_true rfl) rfl (fun ls hl => ?_)
      refine lv_iconst (v := 0) hx hb dX5_findFewest_43 rfl ?_
      refine lv_istore_n (lv' := [(3, .int 0), (2, .int 0), (0, .ref (g.q 57)), (1, .int x1)]) hx hb dX5_findFewest_44 rfl hl (Nat.le_of_ble_eq_true rfl) rfl (fun ls hl => ?_)
      exact w_X5_findFewest_45 N (f_X5_findFewest_37 N n) C ih N x1 0 0 _ _ _ _ hW (lv_sub hl [2, 3, 1, 0] rfl) h
set_option maxRecDepth 4000 in
theorem m_X5_findFewest (N : Nat) (σ : St) {σ' : St} (h : f_X5_findFewest N σ = some σ') : xM l KX g yX5_findFewest cX5_findFewest 4 none rm_X5_findFewest [.ref (g.q 57)] σ none σ' := by
  refine xmet pn_X5 rfl (Nat.le_of_ble_eq_true rfl) (lv := [(0, .ref (g.q 57))]) rfl (fun p e s m args below meth c ls C hW hl => ?_)
  have hx := C.1
  have hb := C.2.1
  unfold f_X5_findFewest at h
  refine lv_aload_n hx hb dX5_findFewest_0 rfl (lv_at hl 0 rfl) ?_
  refine xg_r C hW fg_5_30 KX_57 rfl dX5_findFewest_1 ?_
  refine lv_iconst (v := 0) hx hb dX5_findFewest_4 rfl ?_
  obtain ⟨σ1, e1, h⟩ := xbo h
  refine xc_S (As := [.ref (g.q 63), .int 0]) (rest := []) C hW (m_J7_fill_53178 63 25 KX_63 N 0 _ e1) mf_J7_fill_53178 mt_J7_fill_53178 ml_X5_126 ⟨rfl, rfl⟩ ⟨Nat.le_of_ble_eq_true rfl, Nat.le_of_ble_eq_true rfl⟩ hl.1 rfl rfl (Nat.le_of_ble_eq_true rfl) dX5_findFewest_5 (fun H locs hW => W.eq (g2 := F0 m 8 ls []) rfl ?_)
  refine lv_aload_n hx hb dX5_findFewest_8 rfl (lv_at hl 0 rfl) ?_
  refine xg_r C hW fg_5_27 KX_57 rfl dX5_findFewest_9 ?_
  refine lv_aload_n hx hb dX5_findFewest_12 rfl (lv_at hl 0 rfl) ?_
  refine xg_i C hW fg_5_54 KX_57 rfl (v := 12404) rfl (x := σ1.1 12404 0) rfl dX5_findFewest_13 ?_
  refine lv_iconst (v := 0) hx hb dX5_findFewest_16 rfl ?_
  obtain ⟨g2, h⟩ := xgd h
  refine xs_i C hW KX_62 g2 dX5_findFewest_17 (fun H locs hW => ?_)
  refine lv_aload_n hx hb dX5_findFewest_18 rfl (lv_at hl 0 rfl) ?_
  refine xg_r C hW fg_5_30 KX_57 rfl dX5_findFewest_19 ?_
  refine lv_iconst (v := 0) hx hb dX5_findFewest_22 rfl ?_
  refine lv_iconst (v := 1) hx hb dX5_findFewest_23 rfl ?_
  refine lv_aload_n hx hb dX5_findFewest_24 rfl (lv_at hl 0 rfl) ?_
  refine xg_i C hW fg_5_54 KX_57 rfl (v := 12404) rfl (x := σ1.1 12404 0) rfl dX5_findFewest_25 ?_
  refine lv_ishl hx hb dX5_findFewest_28 ?_
  obtain ⟨g3, h⟩ := xgd h
  refine xs_i C hW KX_63 g3 dX5_findFewest_29 (fun H locs hW => ?_)
  refine lv_aload_n hx hb dX5_findFewest_30 rfl (lv_at hl 0 rfl) ?_
  refine xg_i C hW fg_5_54 KX_57 rfl (v := 12404) rfl (x := σ1.1 12404 0) rfl dX5_findFewest_31 ?_
  refine lv_iconst (v := 1) hx hb dX5_findFewest_34 rfl ?_
  refine lv_isub hx hb dX5_findFewest_35 ?_
  refine lv_istore_n (lv' := [(1, .int ((σ1.1 12404 0) - 1)), (0, .ref (g.q 57))]) hx hb dX5_findFewest_36 rfl hl (Nat.le_of_ble_eq_true rfl) rfl (fun ls hl => ?_)
  exact w_X5_findFewest_37 N C N ((σ1.1 12404 0) - 1) _ _ _ _ hW (lv_sub hl [1, 0] rfl) h
end
theorem dX5_findFirstWay_0 : decode cX5_findFirstWay 0 = .ok (.aload_n 0, 1) := by decide +kernel
theorem dX5_findFirstWay_1 : decode cX5_findFirstWay 1 = .ok (.invokevirtual 114, 3) := by decide +kernel
theorem dX5_findFirstWay_4 : decode cX5_findFirstWay 4 = .ok (.aload_n 0, 1) := by decide +kernel
theorem dX5_findFirstWay_5 : decode cX5_findFirstWay 5 = .ok (.invokevirtual 117, 3) := by decide +kernel
theorem dX5_findFirstWay_8 : decode cX5_findFirstWay 8 = .ok (.aload_n 0, 1) := by decide +kernel
theorem dX5_findFirstWay_9 : decode cX5_findFirstWay 9 = .ok (.getfield 27, 3) := by decide +kernel
theorem dX5_findFirstWay_12 : decode cX5_findFirstWay 12 = .ok (.iconst 0, 1) := by decide +kernel
theorem dX5_findFirstWay_13 : decode cX5_findFirstWay 13 = .ok (.iaload, 1) := by decide +kernel
theorem dX5_findFirstWay_14 : decode cX5_findFirstWay 14 = .ok (.sipush 1000, 3) := by decide +kernel
theorem dX5_findFirstWay_17 : decode cX5_findFirstWay 17 = .ok (.if_icmp .lt 5, 3) := by decide +kernel
theorem dX5_findFirstWay_20 : decode cX5_findFirstWay 20 = .ok (.iconst (-1), 1) := by decide +kernel
theorem dX5_findFirstWay_21 : decode cX5_findFirstWay 21 = .ok (.ireturn, 1) := by decide +kernel
theorem dX5_findFirstWay_22 : decode cX5_findFirstWay 22 = .ok (.aload_n 0, 1) := by decide +kernel
theorem dX5_findFirstWay_23 : decode cX5_findFirstWay 23 = .ok (.aload_n 0, 1) := by decide +kernel
theorem dX5_findFirstWay_24 : decode cX5_findFirstWay 24 = .ok (.getfield 27, 3) := by decide +kernel
theorem dX5_findFirstWay_27 : decode cX5_findFirstWay 27 = .ok (.iconst 0, 1) := by decide +kernel
theorem dX5_findFirstWay_28 : decode cX5_findFirstWay 28 = .ok (.iaload, 1) := by decide +kernel
theorem dX5_findFirstWay_29 : decode cX5_findFirstWay 29 = .ok (.putfield 58, 3) := by decide +kernel
theorem dX5_findFirstWay_32 : decode cX5_findFirstWay 32 = .ok (.aload_n 0, 1) := by decide +kernel
theorem dX5_findFirstWay_33 : decode cX5_findFirstWay 33 = .ok (.invokevirtual 120, 3) := by decide +kernel
theorem dX5_findFirstWay_36 : decode cX5_findFirstWay 36 = .ok (.aload_n 0, 1) := by decide +kernel
theorem dX5_findFirstWay_37 : decode cX5_findFirstWay 37 = .ok (.invokevirtual 123, 3) := by decide +kernel
theorem dX5_findFirstWay_40 : decode cX5_findFirstWay 40 = .ok (.aload_n 0, 1) := by decide +kernel
theorem dX5_findFirstWay_41 : decode cX5_findFirstWay 41 = .ok (.getfield 58, 3) := by decide +kernel
theorem dX5_findFirstWay_44 : decode cX5_findFirstWay 44 = .ok (.ireturn, 1) := by decide +kernel
abbrev rm_X5_findFirstWay : Room := { frames := 6, cells := 0, slots := 0, locals := 141 }
def f_X5_findFirstWay (N : Nat) (σ : St) : Option (Int32 × St) := bo (f_X5_findEnds N σ) (fun σ1 => bo (f_X5_findFewest N σ1) (fun σ2 => grd (ib 0 25) ((if (σ2.1 62 0) < 1000 then grd (ib 0 25) (bo (f_X5_chooseTerms N (si σ2 12411 0 (σ2.1 62 0))) (fun σ6 => bo (f_X5_chooseLengths N σ6) (fun σ7 => some (σ7.1 12411 0, σ7)))) else some ((-1), σ2)))))
section
variable {p : Program} {l : Launch} {e : Env} {s : State} {m : MethodId} {args : Array Value} {below : List Frame} {meth : Method} {c : Code} {g : XG}
set_option maxRecDepth 4000 in
theorem m_X5_findFirstWay (N : Nat) (σ : St) {r : Int32} {σ' : St} (h : f_X5_findFirstWay N σ = some (r, σ')) : xM l KX g yX5_findFirstWay cX5_findFirstWay 1 (some .int) rm_X5_findFirstWay [.ref (g.q 57)] σ (some (.int r)) σ' := by
  refine xmet pn_X5 rfl (Nat.le_of_ble_eq_true rfl) (lv := [(0, .ref (g.q 57))]) rfl (fun p e s m args below meth c ls C hW hl => ?_)
  have hx := C.1
  have hb := C.2.1
  unfold f_X5_findFirstWay at h
  refine lv_aload_n hx hb dX5_findFirstWay_0 rfl (lv_at hl 0 rfl) ?_
  obtain ⟨σ1, e1, h⟩ := xbo h
  refine xc_V (As := []) (rest := []) C hW (m_X5_findEnds N _ e1) mf_X5_findEnds mv_X5_findEnds ml_X5_114 ⟨rfl, rfl⟩ ⟨Nat.le_of_ble_eq_true rfl, Nat.le_of_ble_eq_true rfl⟩ KX_57 rfl hl.1 rfl rfl (Nat.le_of_ble_eq_true rfl) dX5_findFirstWay_1 (fun H locs hW => W.eq (g2 := F0 m 4 ls []) rfl ?_)
  refine lv_aload_n hx hb dX5_findFirstWay_4 rfl (lv_at hl 0 rfl) ?_
  obtain ⟨σ2, e2, h⟩ := xbo h
  refine xc_V (As := []) (rest := []) C hW (m_X5_findFewest N _ e2) mf_X5_findFewest mv_X5_findFewest ml_X5_117 ⟨rfl, rfl⟩ ⟨Nat.le_of_ble_eq_true rfl, Nat.le_of_ble_eq_true rfl⟩ KX_57 rfl hl.1 rfl rfl (Nat.le_of_ble_eq_true rfl) dX5_findFirstWay_5 (fun H locs hW => W.eq (g2 := F0 m 8 ls []) rfl ?_)
  refine lv_aload_n hx hb dX5_findFirstWay_8 rfl (lv_at hl 0 rfl) ?_
  refine xg_r C hW fg_5_27 KX_57 rfl dX5_findFirstWay_9 ?_
  refine lv_iconst (v := 0) hx hb dX5_findFirstWay_12 rfl ?_
  obtain ⟨g3, h⟩ := xgd h
  refine xa_i C hW KX_62 g3 (x := σ2.1 62 0) rfl dX5_findFirstWay_13 ?_
  refine lv_sipush (v := 1000) hx hb dX5_findFirstWay_14 rfl ?_
  refine lv_icmp_lt (tgt := 22) hx hb dX5_findFirstWay_17 (by decide) (fun c4 => ?_) (fun c4 => ?_)
  · have h := xit c4 h
    refine lv_aload_n hx hb dX5_findFirstWay_22 rfl (lv_at hl 0 rfl) ?_
    refine lv_aload_n hx hb dX5_findFirstWay_23 rfl (lv_at hl 0 rfl) ?_
    refine xg_r C hW fg_5_27 KX_57 rfl dX5_findFirstWay_24 ?_
    refine lv_iconst (v := 0) hx hb dX5_findFirstWay_27 rfl ?_
    obtain ⟨g5, h⟩ := xgd h
    refine xa_i C hW KX_62 g5 (x := σ2.1 62 0) rfl dX5_findFirstWay_28 ?_
    refine xp_i C hW fp_5_58 KX_57 rfl (v := 12411) rfl rfl rfl dX5_findFirstWay_29 (fun H locs hW => ?_)
    refine lv_aload_n hx hb dX5_findFirstWay_32 rfl (lv_at hl 0 rfl) ?_
    obtain ⟨σ6, e6, h⟩ := xbo h
    refine xc_V (As := []) (rest := []) C hW (m_X5_chooseTerms N _ e6) mf_X5_chooseTerms mv_X5_chooseTerms ml_X5_120 ⟨rfl, rfl⟩ ⟨Nat.le_of_ble_eq_true rfl, Nat.le_of_ble_eq_true rfl⟩ KX_57 rfl hl.1 rfl rfl (Nat.le_of_ble_eq_true rfl) dX5_findFirstWay_33 (fun H locs hW => W.eq (g2 := F0 m 36 ls []) rfl ?_)
    refine lv_aload_n hx hb dX5_findFirstWay_36 rfl (lv_at hl 0 rfl) ?_
    obtain ⟨σ7, e7, h⟩ := xbo h
    refine xc_V (As := []) (rest := []) C hW (m_X5_chooseLengths N _ e7) mf_X5_chooseLengths mv_X5_chooseLengths ml_X5_123 ⟨rfl, rfl⟩ ⟨Nat.le_of_ble_eq_true rfl, Nat.le_of_ble_eq_true rfl⟩ KX_57 rfl hl.1 rfl rfl (Nat.le_of_ble_eq_true rfl) dX5_findFirstWay_37 (fun H locs hW => W.eq (g2 := F0 m 40 ls []) rfl ?_)
    refine lv_aload_n hx hb dX5_findFirstWay_40 rfl (lv_at hl 0 rfl) ?_
    refine xg_i C hW fg_5_58 KX_57 rfl (v := 12411) rfl (x := σ7.1 12411 0) rfl dX5_findFirstWay_41 ?_
    cases h
    exact xr_i C hW dX5_findFirstWay_44
  · have h := xif c4 h
    refine lv_iconst (v := (-1)) hx hb dX5_findFirstWay_20 rfl ?_
    cases h
    exact xr_i C hW dX5_findFirstWay_21
end
theorem dX6_become_0 : decode cX6_become 0 = .ok (.aload_n 0, 1) := by decide +kernel
theorem dX6_become_1 : decode cX6_become 1 = .ok (.aload_n 1, 1) := by decide +kernel
theorem dX6_become_2 : decode cX6_become 2 = .ok (.getfield 46, 3) := by decide +kernel
theorem dX6_become_5 : decode cX6_become 5 = .ok (.putfield 46, 3) := by decide +kernel
theorem dX6_become_8 : decode cX6_become 8 = .ok (.aload_n 1, 1) := by decide +kernel
theorem dX6_become_9 : decode cX6_become 9 = .ok (.getfield 11, 3) := by decide +kernel
theorem dX6_become_12 : decode cX6_become 12 = .ok (.iconst 0, 1) := by decide +kernel
theorem dX6_become_13 : decode cX6_become 13 = .ok (.aload_n 0, 1) := by decide +kernel
theorem dX6_become_14 : decode cX6_become 14 = .ok (.getfield 11, 3) := by decide +kernel
theorem dX6_become_17 : decode cX6_become 17 = .ok (.iconst 0, 1) := by decide +kernel
theorem dX6_become_18 : decode cX6_become 18 = .ok (.aload_n 0, 1) := by decide +kernel
theorem dX6_become_19 : decode cX6_become 19 = .ok (.getfield 46, 3) := by decide +kernel
theorem dX6_become_22 : decode cX6_become 22 = .ok (.invokestatic 40, 3) := by decide +kernel
theorem dX6_become_25 : decode cX6_become 25 = .ok (.aload_n 1, 1) := by decide +kernel
theorem dX6_become_26 : decode cX6_become 26 = .ok (.getfield 15, 3) := by decide +kernel
theorem dX6_become_29 : decode cX6_become 29 = .ok (.iconst 0, 1) := by decide +kernel
theorem dX6_become_30 : decode cX6_become 30 = .ok (.aload_n 0, 1) := by decide +kernel
theorem dX6_become_31 : decode cX6_become 31 = .ok (.getfield 15, 3) := by decide +kernel
theorem dX6_become_34 : decode cX6_become 34 = .ok (.iconst 0, 1) := by decide +kernel
theorem dX6_become_35 : decode cX6_become 35 = .ok (.aload_n 0, 1) := by decide +kernel
theorem dX6_become_36 : decode cX6_become 36 = .ok (.getfield 46, 3) := by decide +kernel
theorem dX6_become_39 : decode cX6_become 39 = .ok (.invokestatic 40, 3) := by decide +kernel
theorem dX6_become_42 : decode cX6_become 42 = .ok (.aload_n 1, 1) := by decide +kernel
theorem dX6_become_43 : decode cX6_become 43 = .ok (.getfield 19, 3) := by decide +kernel
theorem dX6_become_46 : decode cX6_become 46 = .ok (.iconst 0, 1) := by decide +kernel
theorem dX6_become_47 : decode cX6_become 47 = .ok (.aload_n 0, 1) := by decide +kernel
theorem dX6_become_48 : decode cX6_become 48 = .ok (.getfield 19, 3) := by decide +kernel
theorem dX6_become_51 : decode cX6_become 51 = .ok (.iconst 0, 1) := by decide +kernel
theorem dX6_become_52 : decode cX6_become 52 = .ok (.aload_n 0, 1) := by decide +kernel
theorem dX6_become_53 : decode cX6_become 53 = .ok (.getfield 46, 3) := by decide +kernel
theorem dX6_become_56 : decode cX6_become 56 = .ok (.invokestatic 40, 3) := by decide +kernel
theorem dX6_become_59 : decode cX6_become 59 = .ok (.aload_n 1, 1) := by decide +kernel
theorem dX6_become_60 : decode cX6_become 60 = .ok (.getfield 22, 3) := by decide +kernel
theorem dX6_become_63 : decode cX6_become 63 = .ok (.iconst 0, 1) := by decide +kernel
theorem dX6_become_64 : decode cX6_become 64 = .ok (.aload_n 0, 1) := by decide +kernel
theorem dX6_become_65 : decode cX6_become 65 = .ok (.getfield 22, 3) := by decide +kernel
theorem dX6_become_68 : decode cX6_become 68 = .ok (.iconst 0, 1) := by decide +kernel
theorem dX6_become_69 : decode cX6_become 69 = .ok (.aload_n 0, 1) := by decide +kernel
theorem dX6_become_70 : decode cX6_become 70 = .ok (.getfield 46, 3) := by decide +kernel
theorem dX6_become_73 : decode cX6_become 73 = .ok (.invokestatic 40, 3) := by decide +kernel
theorem dX6_become_76 : decode cX6_become 76 = .ok (.aload_n 1, 1) := by decide +kernel
theorem dX6_become_77 : decode cX6_become 77 = .ok (.getfield 25, 3) := by decide +kernel
theorem dX6_become_80 : decode cX6_become 80 = .ok (.iconst 0, 1) := by decide +kernel
theorem dX6_become_81 : decode cX6_become 81 = .ok (.aload_n 0, 1) := by decide +kernel
theorem dX6_become_82 : decode cX6_become 82 = .ok (.getfield 25, 3) := by decide +kernel
theorem dX6_become_85 : decode cX6_become 85 = .ok (.iconst 0, 1) := by decide +kernel
theorem dX6_become_86 : decode cX6_become 86 = .ok (.aload_n 0, 1) := by decide +kernel
theorem dX6_become_87 : decode cX6_become 87 = .ok (.getfield 46, 3) := by decide +kernel
theorem dX6_become_90 : decode cX6_become 90 = .ok (.invokestatic 40, 3) := by decide +kernel
theorem dX6_become_93 : decode cX6_become 93 = .ok (.aload_n 1, 1) := by decide +kernel
theorem dX6_become_94 : decode cX6_become 94 = .ok (.getfield 28, 3) := by decide +kernel
theorem dX6_become_97 : decode cX6_become 97 = .ok (.iconst 0, 1) := by decide +kernel
theorem dX6_become_98 : decode cX6_become 98 = .ok (.aload_n 0, 1) := by decide +kernel
theorem dX6_become_99 : decode cX6_become 99 = .ok (.getfield 28, 3) := by decide +kernel
theorem dX6_become_102 : decode cX6_become 102 = .ok (.iconst 0, 1) := by decide +kernel
theorem dX6_become_103 : decode cX6_become 103 = .ok (.aload_n 0, 1) := by decide +kernel
theorem dX6_become_104 : decode cX6_become 104 = .ok (.getfield 46, 3) := by decide +kernel
theorem dX6_become_107 : decode cX6_become 107 = .ok (.invokestatic 40, 3) := by decide +kernel
theorem dX6_become_110 : decode cX6_become 110 = .ok (.aload_n 1, 1) := by decide +kernel
theorem dX6_become_111 : decode cX6_become 111 = .ok (.getfield 31, 3) := by decide +kernel
theorem dX6_become_114 : decode cX6_become 114 = .ok (.iconst 0, 1) := by decide +kernel
theorem dX6_become_115 : decode cX6_become 115 = .ok (.aload_n 0, 1) := by decide +kernel
theorem dX6_become_116 : decode cX6_become 116 = .ok (.getfield 31, 3) := by decide +kernel
theorem dX6_become_119 : decode cX6_become 119 = .ok (.iconst 0, 1) := by decide +kernel
theorem dX6_become_120 : decode cX6_become 120 = .ok (.aload_n 0, 1) := by decide +kernel
theorem dX6_become_121 : decode cX6_become 121 = .ok (.getfield 46, 3) := by decide +kernel
theorem dX6_become_124 : decode cX6_become 124 = .ok (.invokestatic 40, 3) := by decide +kernel
theorem dX6_become_127 : decode cX6_become 127 = .ok (.aload_n 1, 1) := by decide +kernel
theorem dX6_become_128 : decode cX6_become 128 = .ok (.getfield 34, 3) := by decide +kernel
theorem dX6_become_131 : decode cX6_become 131 = .ok (.iconst 0, 1) := by decide +kernel
theorem dX6_become_132 : decode cX6_become 132 = .ok (.aload_n 0, 1) := by decide +kernel
theorem dX6_become_133 : decode cX6_become 133 = .ok (.getfield 34, 3) := by decide +kernel
theorem dX6_become_136 : decode cX6_become 136 = .ok (.iconst 0, 1) := by decide +kernel
theorem dX6_become_137 : decode cX6_become 137 = .ok (.iconst 4, 1) := by decide +kernel
theorem dX6_become_138 : decode cX6_become 138 = .ok (.invokestatic 40, 3) := by decide +kernel
theorem dX6_become_141 : decode cX6_become 141 = .ok (.return_, 1) := by decide +kernel
def stl {α : Type} (x : St) (f : St → Option α) : Option α := f x
theorem xstl {α : Type} {x : St} {f : St → Option α} {z : α} (h : stl x f = some z) : ∃ y, y = x ∧ f y = some z := ⟨x, rfl, h⟩
abbrev rm_X6_become : Room := { frames := 1, cells := 0, slots := 0, locals := 60 }
def f_X6_become (o : Nat) (o1 : Nat) (σ : St) : Option St := grd (cpb 0 0 ((si σ (1000 + 200 * o + 0) 0 (σ.1 (1000 + 200 * o1 + 0) 0)).1 (1000 + 200 * o + 0) 0) 40 40) (stl (srl (si σ (1000 + 200 * o + 0) 0 (σ.1 (1000 + 200 * o1 + 0) 0)) (8 * o + 1 - 6) (va_cpy ((si σ (1000 + 200 * o + 0) 0 (σ.1 (1000 + 200 * o1 + 0) 0)).2 (8 * o1 + 1 - 6)) ((si σ (1000 + 200 * o + 0) 0 (σ.1 (1000 + 200 * o1 + 0) 0)).2 (8 * o + 1 - 6)) 0 0 ((si σ (1000 + 200 * o + 0) 0 (σ.1 (1000 + 200 * o1 + 0) 0)).1 (1000 + 200 * o + 0) 0).toNatClampNeg)) (fun σ2 => grd (cpb 0 0 (σ2.1 (1000 + 200 * o + 0) 0) 40 40) (stl (sr σ2 (8 * o + 2 - 6) (va_cpy (σ2.1 (8 * o1 + 2 - 6)) (σ2.1 (8 * o + 2 - 6)) 0 0 (σ2.1 (1000 + 200 * o + 0) 0).toNatClampNeg)) (fun σ4 => grd (cpb 0 0 (σ4.1 (1000 + 200 * o + 0) 0) 40 40) (stl (sr σ4 (8 * o + 3 - 6) (va_cpy (σ4.1 (8 * o1 + 3 - 6)) (σ4.1 (8 * o + 3 - 6)) 0 0 (σ4.1 (1000 + 200 * o + 0) 0).toNatClampNeg)) (fun σ6 => grd (cpb 0 0 (σ6.1 (1000 + 200 * o + 0) 0) 40 40) (stl (sr σ6 (8 * o + 4 - 6) (va_cpy (σ6.1 (8 * o1 + 4 - 6)) (σ6.1 (8 * o + 4 - 6)) 0 0 (σ6.1 (1000 + 200 * o + 0) 0).toNatClampNeg)) (fun σ8 => grd (cpb 0 0 (σ8.1 (1000 + 200 * o + 0) 0) 40 40) (stl (sr σ8 (8 * o + 5 - 6) (va_cpy (σ8.1 (8 * o1 + 5 - 6)) (σ8.1 (8 * o + 5 - 6)) 0 0 (σ8.1 (1000 + 200 * o + 0) 0).toNatClampNeg)) (fun σ10 => grd (cpb 0 0 (σ10.1 (1000 + 200 * o + 0) 0) 40 40) (stl (sr σ10 (8 * o + 6 - 6) (va_cpy (σ10.1 (8 * o1 + 6 - 6)) (σ10.1 (8 * o + 6 - 6)) 0 0 (σ10.1 (1000 + 200 * o + 0) 0).toNatClampNeg)) (fun σ12 => grd (cpb 0 0 (σ12.1 (1000 + 200 * o + 0) 0) 40 40) (stl (srl σ12 (8 * o + 7 - 6) (va_cpy (σ12.2 (8 * o1 + 7 - 6)) (σ12.2 (8 * o + 7 - 6)) 0 0 (σ12.1 (1000 + 200 * o + 0) 0).toNatClampNeg)) (fun σ14 => grd (cpb 0 0 4 4 4) (stl (sr σ14 (8 * o + 8 - 6) (va_cpy (σ14.1 (8 * o1 + 8 - 6)) (σ14.1 (8 * o + 8 - 6)) 0 0 4)) (fun σ16 => some σ16))))))))))))))))
section
variable {p : Program} {l : Launch} {e : Env} {s : State} {m : MethodId} {args : Array Value} {below : List Frame} {meth : Method} {c : Code} {g : XG}
set_option maxRecDepth 4000 in
theorem m_X6_become (o : Nat) (ho : o = 1 ∨ o = 2) (o1 : Nat) (ho1 : o1 = 1 ∨ o1 = 2) (σ : St) {σ' : St} (h : f_X6_become o o1 σ = some σ') : xM l KX g yX6_become cX6_become 2 none rm_X6_become [.ref (g.q o), .ref (g.q o1)] σ none σ' := by
  refine xmet pn_X6 rfl (Nat.le_of_ble_eq_true rfl) (lv := [(0, .ref (g.q o)), (1, .ref (g.q o1))]) rfl (fun p e s m args below meth c ls C hW hl => ?_)
  have hx := C.1
  have hb := C.2.1
  unfold f_X6_become at h
  refine lv_aload_n hx hb dX6_become_0 rfl (lv_at hl 0 rfl) ?_
  refine lv_aload_n hx hb dX6_become_1 rfl (lv_at hl 1 rfl) ?_
  refine xg_i C hW fg_6_46 (KX_sl ho1) rfl (v := (1000 + 200 * o1 + 0)) rfl (x := σ.1 (1000 + 200 * o1 + 0) 0) rfl dX6_become_2 ?_
  refine xp_i C hW fp_6_46 (KX_sl ho) rfl (v := (1000 + 200 * o + 0)) rfl rfl rfl dX6_become_5 (fun H locs hW => ?_)
  refine lv_aload_n hx hb dX6_become_8 rfl (lv_at hl 1 rfl) ?_
  refine xg_r C hW fg_6_11 (KX_sl ho1) rfl dX6_become_9 ?_
  refine lv_iconst (v := 0) hx hb dX6_become_12 rfl ?_
  refine lv_aload_n hx hb dX6_become_13 rfl (lv_at hl 0 rfl) ?_
  refine xg_r C hW fg_6_11 (KX_sl ho) rfl dX6_become_14 ?_
  refine lv_iconst (v := 0) hx hb dX6_become_17 rfl ?_
  refine lv_aload_n hx hb dX6_become_18 rfl (lv_at hl 0 rfl) ?_
  refine xg_i C hW fg_6_46 (KX_sl ho) rfl (v := (1000 + 200 * o + 0)) rfl (x := (si σ (1000 + 200 * o + 0) 0 (σ.1 (1000 + 200 * o1 + 0) 0)).1 (1000 + 200 * o + 0) 0) rfl dX6_become_19 ?_
  obtain ⟨g1, h⟩ := xgd h
  refine xcp_l C hW (KX_sl_1 ho1) (KX_sl_1 ho) g1 ml_X6_40 (Nat.le_of_ble_eq_true rfl) (Nat.le_of_ble_eq_true rfl) hl.1 (Nat.le_of_ble_eq_true rfl) dX6_become_22 (fun H locs hW => ?_)
  obtain ⟨σ2, e2, h⟩ := xstl h
  have hW : xW KX g s σ2 H locs := by rw [e2]; exact hW
  refine lv_aload_n hx hb dX6_become_25 rfl (lv_at hl 1 rfl) ?_
  refine xg_r C hW fg_6_15 (KX_sl ho1) rfl dX6_become_26 ?_
  refine lv_iconst (v := 0) hx hb dX6_become_29 rfl ?_
  refine lv_aload_n hx hb dX6_become_30 rfl (lv_at hl 0 rfl) ?_
  refine xg_r C hW fg_6_15 (KX_sl ho) rfl dX6_become_31 ?_
  refine lv_iconst (v := 0) hx hb dX6_become_34 rfl ?_
  refine lv_aload_n hx hb dX6_become_35 rfl (lv_at hl 0 rfl) ?_
  refine xg_i C hW fg_6_46 (KX_sl ho) rfl (v := (1000 + 200 * o + 0)) rfl (x := σ2.1 (1000 + 200 * o + 0) 0) rfl dX6_become_36 ?_
  obtain ⟨g3, h⟩ := xgd h
  refine xcp_i C hW (KX_sl_2 ho1) (KX_sl_2 ho) g3 ml_X6_40 (Nat.le_of_ble_eq_true rfl) (Nat.le_of_ble_eq_true rfl) hl.1 (Nat.le_of_ble_eq_true rfl) dX6_become_39 (fun H locs hW => ?_)
  obtain ⟨σ4, e4, h⟩ := xstl h
  have hW : xW KX g s σ4 H locs := by rw [e4]; exact hW
  refine lv_aload_n hx hb dX6_become_42 rfl (lv_at hl 1 rfl) ?_
  refine xg_r C hW fg_6_19 (KX_sl ho1) rfl dX6_become_43 ?_
  refine lv_iconst (v := 0) hx hb dX6_become_46 rfl ?_
  refine lv_aload_n hx hb dX6_become_47 rfl (lv_at hl 0 rfl) ?_
  refine xg_r C hW fg_6_19 (KX_sl ho) rfl dX6_become_48 ?_
  refine lv_iconst (v := 0) hx hb dX6_become_51 rfl ?_
  refine lv_aload_n hx hb dX6_become_52 rfl (lv_at hl 0 rfl) ?_
  refine xg_i C hW fg_6_46 (KX_sl ho) rfl (v := (1000 + 200 * o + 0)) rfl (x := σ4.1 (1000 + 200 * o + 0) 0) rfl dX6_become_53 ?_
  obtain ⟨g5, h⟩ := xgd h
  refine xcp_i C hW (KX_sl_3 ho1) (KX_sl_3 ho) g5 ml_X6_40 (Nat.le_of_ble_eq_true rfl) (Nat.le_of_ble_eq_true rfl) hl.1 (Nat.le_of_ble_eq_true rfl) dX6_become_56 (fun H locs hW => ?_)
  obtain ⟨σ6, e6, h⟩ := xstl h
  have hW : xW KX g s σ6 H locs := by rw [e6]; exact hW
  refine lv_aload_n hx hb dX6_become_59 rfl (lv_at hl 1 rfl) ?_
  refine xg_r C hW fg_6_22 (KX_sl ho1) rfl dX6_become_60 ?_
  refine lv_iconst (v := 0) hx hb dX6_become_63 rfl ?_
  refine lv_aload_n hx hb dX6_become_64 rfl (lv_at hl 0 rfl) ?_
  refine xg_r C hW fg_6_22 (KX_sl ho) rfl dX6_become_65 ?_
  refine lv_iconst (v := 0) hx hb dX6_become_68 rfl ?_
  refine lv_aload_n hx hb dX6_become_69 rfl (lv_at hl 0 rfl) ?_
  refine xg_i C hW fg_6_46 (KX_sl ho) rfl (v := (1000 + 200 * o + 0)) rfl (x := σ6.1 (1000 + 200 * o + 0) 0) rfl dX6_become_70 ?_
  obtain ⟨g7, h⟩ := xgd h
  refine xcp_i C hW (KX_sl_4 ho1) (KX_sl_4 ho) g7 ml_X6_40 (Nat.le_of_ble_eq_true rfl) (Nat.le_of_ble_eq_true rfl) hl.1 (Nat.le_of_ble_eq_true rfl) dX6_become_73 (fun H locs hW => ?_)
  obtain ⟨σ8, e8, h⟩ := xstl h
  have hW : xW KX g s σ8 H locs := by rw [e8]; exact hW
  refine lv_aload_n hx hb dX6_become_76 rfl (lv_at hl 1 rfl) ?_
  refine xg_r C hW fg_6_25 (KX_sl ho1) rfl dX6_become_77 ?_
  refine lv_iconst (v := 0) hx hb dX6_become_80 rfl ?_
  refine lv_aload_n hx hb dX6_become_81 rfl (lv_at hl 0 rfl) ?_
  refine xg_r C hW fg_6_25 (KX_sl ho) rfl dX6_become_82 ?_
  refine lv_iconst (v := 0) hx hb dX6_become_85 rfl ?_
  refine lv_aload_n hx hb dX6_become_86 rfl (lv_at hl 0 rfl) ?_
  refine xg_i C hW fg_6_46 (KX_sl ho) rfl (v := (1000 + 200 * o + 0)) rfl (x := σ8.1 (1000 + 200 * o + 0) 0) rfl dX6_become_87 ?_
  obtain ⟨g9, h⟩ := xgd h
  refine xcp_i C hW (KX_sl_5 ho1) (KX_sl_5 ho) g9 ml_X6_40 (Nat.le_of_ble_eq_true rfl) (Nat.le_of_ble_eq_true rfl) hl.1 (Nat.le_of_ble_eq_true rfl) dX6_become_90 (fun H locs hW => ?_)
  obtain ⟨σ10, e10, h⟩ := xstl h
  have hW : xW KX g s σ10 H locs := by rw [e10]; exact hW
  refine lv_aload_n hx hb dX6_become_93 rfl (lv_at hl 1 rfl) ?_
  refine xg_r C hW fg_6_28 (KX_sl ho1) rfl dX6_become_94 ?_
  refine lv_iconst (v := 0) hx hb dX6_become_97 rfl ?_
  refine lv_aload_n hx hb dX6_become_98 rfl (lv_at hl 0 rfl) ?_
  refine xg_r C hW fg_6_28 (KX_sl ho) rfl dX6_become_99 ?_
  refine lv_iconst (v := 0) hx hb dX6_become_102 rfl ?_
  refine lv_aload_n hx hb dX6_become_103 rfl (lv_at hl 0 rfl) ?_
  refine xg_i C hW fg_6_46 (KX_sl ho) rfl (v := (1000 + 200 * o + 0)) rfl (x := σ10.1 (1000 + 200 * o + 0) 0) rfl dX6_become_104 ?_
  obtain ⟨g11, h⟩ := xgd h
  refine xcp_i C hW (KX_sl_6 ho1) (KX_sl_6 ho) g11 ml_X6_40 (Nat.le_of_ble_eq_true rfl) (Nat.le_of_ble_eq_true rfl) hl.1 (Nat.le_of_ble_eq_true rfl) dX6_become_107 (fun H locs hW => ?_)
  obtain ⟨σ12, e12, h⟩ := xstl h
  have hW : xW KX g s σ12 H locs := by rw [e12]; exact hW
  refine lv_aload_n hx hb dX6_become_110 rfl (lv_at hl 1 rfl) ?_
  refine xg_r C hW fg_6_31 (KX_sl ho1) rfl dX6_become_111 ?_
  refine lv_iconst (v := 0) hx hb dX6_become_114 rfl ?_
  refine lv_aload_n hx hb dX6_become_115 rfl (lv_at hl 0 rfl) ?_
  refine xg_r C hW fg_6_31 (KX_sl ho) rfl dX6_become_116 ?_
  refine lv_iconst (v := 0) hx hb dX6_become_119 rfl ?_
  refine lv_aload_n hx hb dX6_become_120 rfl (lv_at hl 0 rfl) ?_
  refine xg_i C hW fg_6_46 (KX_sl ho) rfl (v := (1000 + 200 * o + 0)) rfl (x := σ12.1 (1000 + 200 * o + 0) 0) rfl dX6_become_121 ?_
  obtain ⟨g13, h⟩ := xgd h
  refine xcp_l C hW (KX_sl_7 ho1) (KX_sl_7 ho) g13 ml_X6_40 (Nat.le_of_ble_eq_true rfl) (Nat.le_of_ble_eq_true rfl) hl.1 (Nat.le_of_ble_eq_true rfl) dX6_become_124 (fun H locs hW => ?_)
  obtain ⟨σ14, e14, h⟩ := xstl h
  have hW : xW KX g s σ14 H locs := by rw [e14]; exact hW
  refine lv_aload_n hx hb dX6_become_127 rfl (lv_at hl 1 rfl) ?_
  refine xg_r C hW fg_6_34 (KX_sl ho1) rfl dX6_become_128 ?_
  refine lv_iconst (v := 0) hx hb dX6_become_131 rfl ?_
  refine lv_aload_n hx hb dX6_become_132 rfl (lv_at hl 0 rfl) ?_
  refine xg_r C hW fg_6_34 (KX_sl ho) rfl dX6_become_133 ?_
  refine lv_iconst (v := 0) hx hb dX6_become_136 rfl ?_
  refine lv_iconst (v := 4) hx hb dX6_become_137 rfl ?_
  obtain ⟨g15, h⟩ := xgd h
  refine xcp_i C hW (KX_sl_8 ho1) (KX_sl_8 ho) g15 ml_X6_40 (Nat.le_of_ble_eq_true rfl) (Nat.le_of_ble_eq_true rfl) hl.1 (Nat.le_of_ble_eq_true rfl) dX6_become_138 (fun H locs hW => ?_)
  obtain ⟨σ16, e16, h⟩ := xstl h
  have hW : xW KX g s σ16 H locs := by rw [e16]; exact hW
  cases h
  exact xr_v C hW dX6_become_141
end
theorem dX6_putSounds_0 : decode cX6_putSounds 0 = .ok (.aload_n 0, 1) := by decide +kernel
theorem dX6_putSounds_1 : decode cX6_putSounds 1 = .ok (.getfield 22, 3) := by decide +kernel
theorem dX6_putSounds_4 : decode cX6_putSounds 4 = .ok (.iload_n 1, 1) := by decide +kernel
theorem dX6_putSounds_5 : decode cX6_putSounds 5 = .ok (.iconst 1, 1) := by decide +kernel
theorem dX6_putSounds_6 : decode cX6_putSounds 6 = .ok (.iastore, 1) := by decide +kernel
theorem dX6_putSounds_7 : decode cX6_putSounds 7 = .ok (.aload_n 0, 1) := by decide +kernel
theorem dX6_putSounds_8 : decode cX6_putSounds 8 = .ok (.getfield 28, 3) := by decide +kernel
theorem dX6_putSounds_11 : decode cX6_putSounds 11 = .ok (.iload_n 1, 1) := by decide +kernel
theorem dX6_putSounds_12 : decode cX6_putSounds 12 = .ok (.iload_n 2, 1) := by decide +kernel
theorem dX6_putSounds_13 : decode cX6_putSounds 13 = .ok (.iastore, 1) := by decide +kernel
theorem dX6_putSounds_14 : decode cX6_putSounds 14 = .ok (.aload_n 0, 1) := by decide +kernel
theorem dX6_putSounds_15 : decode cX6_putSounds 15 = .ok (.getfield 25, 3) := by decide +kernel
theorem dX6_putSounds_18 : decode cX6_putSounds 18 = .ok (.iload_n 1, 1) := by decide +kernel
theorem dX6_putSounds_19 : decode cX6_putSounds 19 = .ok (.iload_n 3, 1) := by decide +kernel
theorem dX6_putSounds_20 : decode cX6_putSounds 20 = .ok (.iastore, 1) := by decide +kernel
theorem dX6_putSounds_21 : decode cX6_putSounds 21 = .ok (.return_, 1) := by decide +kernel
abbrev rm_X6_putSounds : Room := { frames := 0, cells := 0, slots := 0, locals := 0 }
def f_X6_putSounds (o : Nat) (x1 : Int32) (x2 : Int32) (x3 : Int32) (σ : St) : Option St := grd (ib x1 40) (grd (ib x1 40) (grd (ib x1 40) (some ((si (si (si σ (8 * o + 4 - 6) x1.toNatClampNeg 1) (8 * o + 6 - 6) x1.toNatClampNeg x2) (8 * o + 5 - 6) x1.toNatClampNeg x3)))))
section
variable {p : Program} {l : Launch} {e : Env} {s : State} {m : MethodId} {args : Array Value} {below : List Frame} {meth : Method} {c : Code} {g : XG}
set_option maxRecDepth 4000 in
theorem m_X6_putSounds (o : Nat) (ho : o = 1 ∨ o = 2) (x1 : Int32) (x2 : Int32) (x3 : Int32) (σ : St) {σ' : St} (h : f_X6_putSounds o x1 x2 x3 σ = some σ') : xM l KX g yX6_putSounds cX6_putSounds 4 none rm_X6_putSounds [.ref (g.q o), .int x1, .int x2, .int x3] σ none σ' := by
  refine xmet pn_X6 rfl (Nat.le_of_ble_eq_true rfl) (lv := [(0, .ref (g.q o)), (1, .int x1), (2, .int x2), (3, .int x3)]) rfl (fun p e s m args below meth c ls C hW hl => ?_)
  have hx := C.1
  have hb := C.2.1
  unfold f_X6_putSounds at h
  refine lv_aload_n hx hb dX6_putSounds_0 rfl (lv_at hl 0 rfl) ?_
  refine xg_r C hW fg_6_22 (KX_sl ho) rfl dX6_putSounds_1 ?_
  refine lv_iload_n hx hb dX6_putSounds_4 rfl (lv_at hl 1 rfl) ?_
  refine lv_iconst (v := 1) hx hb dX6_putSounds_5 rfl ?_
  obtain ⟨g1, h⟩ := xgd h
  refine xs_i C hW (KX_sl_4 ho) g1 dX6_putSounds_6 (fun H locs hW => ?_)
  refine lv_aload_n hx hb dX6_putSounds_7 rfl (lv_at hl 0 rfl) ?_
  refine xg_r C hW fg_6_28 (KX_sl ho) rfl dX6_putSounds_8 ?_
  refine lv_iload_n hx hb dX6_putSounds_11 rfl (lv_at hl 1 rfl) ?_
  refine lv_iload_n hx hb dX6_putSounds_12 rfl (lv_at hl 2 rfl) ?_
  obtain ⟨g2, h⟩ := xgd h
  refine xs_i C hW (KX_sl_6 ho) g2 dX6_putSounds_13 (fun H locs hW => ?_)
  refine lv_aload_n hx hb dX6_putSounds_14 rfl (lv_at hl 0 rfl) ?_
  refine xg_r C hW fg_6_25 (KX_sl ho) rfl dX6_putSounds_15 ?_
  refine lv_iload_n hx hb dX6_putSounds_18 rfl (lv_at hl 1 rfl) ?_
  refine lv_iload_n hx hb dX6_putSounds_19 rfl (lv_at hl 3 rfl) ?_
  obtain ⟨g3, h⟩ := xgd h
  refine xs_i C hW (KX_sl_5 ho) g3 dX6_putSounds_20 (fun H locs hW => ?_)
  cases h
  exact xr_v C hW dX6_putSounds_21
end
