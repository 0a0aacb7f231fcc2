theorem dX12_asListed_0 : decode cX12_asListed 0 = .ok (.iconst 0, 1) := by decide +kernel
theorem dX12_asListed_1 : decode cX12_asListed 1 = .ok (.istore_n 1, 1) := by decide +kernel
theorem dX12_asListed_2 : decode cX12_asListed 2 = .ok (.iload_n 1, 1) := by decide +kernel
theorem dX12_asListed_3 : decode cX12_asListed 3 = .ok (.aload_n 0, 1) := by decide +kernel
theorem dX12_asListed_4 : decode cX12_asListed 4 = .ok (.getfield 21, 3) := by decide +kernel
theorem dX12_asListed_7 : decode cX12_asListed 7 = .ok (.iconst 0, 1) := by decide +kernel
theorem dX12_asListed_8 : decode cX12_asListed 8 = .ok (.iaload, 1) := by decide +kernel
theorem dX12_asListed_9 : decode cX12_asListed 9 = .ok (.if_icmp .ge 66, 3) := by decide +kernel
theorem dX12_asListed_12 : decode cX12_asListed 12 = .ok (.aload_n 0, 1) := by decide +kernel
theorem dX12_asListed_13 : decode cX12_asListed 13 = .ok (.getfield 115, 3) := by decide +kernel
theorem dX12_asListed_16 : decode cX12_asListed 16 = .ok (.iload_n 1, 1) := by decide +kernel
theorem dX12_asListed_17 : decode cX12_asListed 17 = .ok (.aload_n 0, 1) := by decide +kernel
theorem dX12_asListed_18 : decode cX12_asListed 18 = .ok (.getfield 34, 3) := by decide +kernel
theorem dX12_asListed_21 : decode cX12_asListed 21 = .ok (.iload_n 1, 1) := by decide +kernel
theorem dX12_asListed_22 : decode cX12_asListed 22 = .ok (.iaload, 1) := by decide +kernel
theorem dX12_asListed_23 : decode cX12_asListed 23 = .ok (.iastore, 1) := by decide +kernel
theorem dX12_asListed_24 : decode cX12_asListed 24 = .ok (.aload_n 0, 1) := by decide +kernel
theorem dX12_asListed_25 : decode cX12_asListed 25 = .ok (.getfield 118, 3) := by decide +kernel
theorem dX12_asListed_28 : decode cX12_asListed 28 = .ok (.iload_n 1, 1) := by decide +kernel
theorem dX12_asListed_29 : decode cX12_asListed 29 = .ok (.aload_n 0, 1) := by decide +kernel
theorem dX12_asListed_30 : decode cX12_asListed 30 = .ok (.getfield 37, 3) := by decide +kernel
theorem dX12_asListed_33 : decode cX12_asListed 33 = .ok (.iload_n 1, 1) := by decide +kernel
theorem dX12_asListed_34 : decode cX12_asListed 34 = .ok (.iaload, 1) := by decide +kernel
theorem dX12_asListed_35 : decode cX12_asListed 35 = .ok (.iastore, 1) := by decide +kernel
theorem dX12_asListed_36 : decode cX12_asListed 36 = .ok (.iconst 0, 1) := by decide +kernel
theorem dX12_asListed_37 : decode cX12_asListed 37 = .ok (.istore_n 2, 1) := by decide +kernel
theorem dX12_asListed_38 : decode cX12_asListed 38 = .ok (.iload_n 2, 1) := by decide +kernel
theorem dX12_asListed_39 : decode cX12_asListed 39 = .ok (.iconst 3, 1) := by decide +kernel
theorem dX12_asListed_40 : decode cX12_asListed 40 = .ok (.if_icmp .ge 29, 3) := by decide +kernel
theorem dX12_asListed_43 : decode cX12_asListed 43 = .ok (.aload_n 0, 1) := by decide +kernel
theorem dX12_asListed_44 : decode cX12_asListed 44 = .ok (.getfield 121, 3) := by decide +kernel
theorem dX12_asListed_47 : decode cX12_asListed 47 = .ok (.iconst 3, 1) := by decide +kernel
theorem dX12_asListed_48 : decode cX12_asListed 48 = .ok (.iload_n 1, 1) := by decide +kernel
theorem dX12_asListed_49 : decode cX12_asListed 49 = .ok (.imul, 1) := by decide +kernel
theorem dX12_asListed_50 : decode cX12_asListed 50 = .ok (.iload_n 2, 1) := by decide +kernel
theorem dX12_asListed_51 : decode cX12_asListed 51 = .ok (.iadd, 1) := by decide +kernel
theorem dX12_asListed_52 : decode cX12_asListed 52 = .ok (.aload_n 0, 1) := by decide +kernel
theorem dX12_asListed_53 : decode cX12_asListed 53 = .ok (.getfield 40, 3) := by decide +kernel
theorem dX12_asListed_56 : decode cX12_asListed 56 = .ok (.iconst 3, 1) := by decide +kernel
theorem dX12_asListed_57 : decode cX12_asListed 57 = .ok (.iload_n 1, 1) := by decide +kernel
theorem dX12_asListed_58 : decode cX12_asListed 58 = .ok (.imul, 1) := by decide +kernel
theorem dX12_asListed_59 : decode cX12_asListed 59 = .ok (.iload_n 2, 1) := by decide +kernel
theorem dX12_asListed_60 : decode cX12_asListed 60 = .ok (.iadd, 1) := by decide +kernel
theorem dX12_asListed_61 : decode cX12_asListed 61 = .ok (.iaload, 1) := by decide +kernel
theorem dX12_asListed_62 : decode cX12_asListed 62 = .ok (.iastore, 1) := by decide +kernel
theorem dX12_asListed_63 : decode cX12_asListed 63 = .ok (.iinc 2 1, 3) := by decide +kernel
theorem dX12_asListed_66 : decode cX12_asListed 66 = .ok (.goto (-28), 3) := by decide +kernel
theorem dX12_asListed_69 : decode cX12_asListed 69 = .ok (.iinc 1 1, 3) := by decide +kernel
theorem dX12_asListed_72 : decode cX12_asListed 72 = .ok (.goto (-70), 3) := by decide +kernel
theorem dX12_asListed_75 : decode cX12_asListed 75 = .ok (.return_, 1) := by decide +kernel
abbrev rm_X12_asListed : Room := { frames := 0, cells := 0, slots := 0, locals := 0 }
def f_X12_asListed_38 (N : Nat) (k2 : Int32 → St → Option St) : Nat → Int32 → Int32 → St → Option St
  | 0, _, _, _ => none
  | n + 1, x1, x2, σ => (if 3 ≤ x2 then k2 (x1 + 1) σ else grd (ib ((3 * x1) + x2) 240) (grd (ib ((3 * x1) + x2) 120) (f_X12_asListed_38 N k2 n x1 (x2 + 1) (si σ 36 ((3 * x1) + x2).toNatClampNeg (σ.1 9 ((3 * x1) + x2).toNatClampNeg)))))
def f_X12_asListed_2 (N : Nat) : Nat → Int32 → St → Option St
  | 0, _, _ => none
  | n + 1, x1, σ => grd (ib 0 2) ((if (σ.1 3 0) ≤ x1 then some σ else grd (ib x1 80) (grd (ib x1 40) (grd (ib x1 80) (grd (ib x1 40) (f_X12_asListed_38 N (f_X12_asListed_2 N n) N x1 0 (si (si σ 34 x1.toNatClampNeg (σ.1 7 x1.toNatClampNeg)) 35 x1.toNatClampNeg (σ.1 8 x1.toNatClampNeg))))))))
def f_X12_asListed (N : Nat) (σ : St) : Option St := f_X12_asListed_2 N N 0 σ
section
variable {p : Program} {l : Launch} {e : Env} {s : State} {m : MethodId} {args : Array Value} {below : List Frame} {meth : Method} {c : Code} {g : XG}
set_option maxRecDepth 4000 in
theorem w_X12_asListed_38 (N : Nat) (k2 : Int32 → St → Option St) {σ' : St} (C : xC KM g RX12 cX12_asListed 3 none p s m args meth c) (hk2 : ∀ (x1 : Int32) (σ : St) (H : Heap) (locs : List Loc) (ls : Array Slot), xW KM g s σ H locs → lv_has ls 3 [(0, .ref (g.q 0)), (1, .int x1)] → k2 x1 σ = some σ' → W p l e rm_X12_asListed s m args below meth c H locs 0 0 (MQ below (xPost KM g none σ') args s 0 0 (xA KM g.q)) (F0 m 2 ls [])) : ∀ (n : Nat), ∀ (x1 : Int32) (x2 : Int32) (σ : St) (H : Heap) (locs : List Loc) (ls : Array Slot), xW KM g s σ H locs → lv_has ls 3 [(0, .ref (g.q 0)), (1, .int x1), (2, .int x2)] → f_X12_asListed_38 N k2 n x1 x2 σ = some σ' → W p l e rm_X12_asListed s m args below meth c H locs 0 0 (MQ below (xPost KM g none σ') args s 0 0 (xA KM g.q)) (F0 m 38 ls []) := by
  have hx := C.1
  have hb := C.2.1
  intro n
  induction n with
  | zero => intro x1 x2 σ H locs ls hW hl h; rw [f_X12_asListed_38] at h; cases h
  | succ n ih =>
    intro x1 x2 σ H locs ls hW hl h
    rw [f_X12_asListed_38] at h
    refine lv_iload_n hx hb dX12_asListed_38 rfl (lv_at hl 2 rfl) ?_
    refine lv_iconst (v := 3) hx hb dX12_asListed_39 rfl ?_
    refine lv_icmp_ge (tgt := 69) hx hb dX12_asListed_40 (by decide) (fun c7 => ?_) (fun c7 => ?_)
    · have h := xit c7 h
      refine lv_iinc (v := x1 + 1) (lv' := [(1, .int (x1 + 1)), (0, .ref (g.q 0)), (2, .int x2)]) hx hb dX12_asListed_69 hl (k := 1) rfl rfl (Nat.le_of_ble_eq_true rfl) rfl (fun ls hl => ?_)
      refine lv_goto (tgt := 2) hx hb dX12_asListed_72 (by decide) ?_
      exact hk2 (x1 + 1) _ _ _ _ hW (lv_sub hl [1, 0] rfl) h
    · have h := xif c7 h
      refine lv_aload_n hx hb dX12_asListed_43 rfl (lv_at hl 0 rfl) ?_
      refine xg_r C hW fg_12_121 KM_0 rfl dX12_asListed_44 ?_
      refine lv_iconst (v := 3) hx hb dX12_asListed_47 rfl ?_
      refine lv_iload_n hx hb dX12_asListed_48 rfl (lv_at hl 1 rfl) ?_
      refine lv_imul hx hb dX12_asListed_49 ?_
      refine lv_iload_n hx hb dX12_asListed_50 rfl (lv_at hl 2 rfl) ?_
      refine lv_iadd hx hb dX12_asListed_51 ?_
      refine lv_aload_n hx hb dX12_asListed_52 rfl (lv_at hl 0 rfl) ?_
      refine xg_r C hW fg_12_40 KM_0 rfl dX12_asListed_53 ?_
      refine lv_iconst (v := 3) hx hb dX12_asListed_56 rfl ?_
      refine lv_iload_n hx hb dX12_asListed_57 rfl (lv_at hl 1 rfl) ?_
      refine lv_imul hx hb dX12_asListed_58 ?_
      refine lv_iload_n hx hb dX12_asListed_59 rfl (lv_at hl 2 rfl) ?_
      refine lv_iadd hx hb dX12_asListed_60 ?_
      obtain ⟨g8, h⟩ := xgd h
      refine xa_i C hW KM_9 g8 (x := σ.1 9 ((3 * x1) + x2).toNatClampNeg) rfl dX12_asListed_61 ?_
      obtain ⟨g9, h⟩ := xgd h
      refine xs_i C hW KM_36 g9 dX12_asListed_62 (fun H locs hW => ?_)
      refine lv_iinc (v := x2 + 1) (lv' := [(2, .int (x2 + 1)), (0, .ref (g.q 0)), (1, .int x1)]) hx hb dX12_asListed_63 hl (k := 2) rfl rfl (Nat.le_of_ble_eq_true rfl) rfl (fun ls hl => ?_)
      refine lv_goto (tgt := 38) hx hb dX12_asListed_66 (by decide) ?_
      exact ih x1 (x2 + 1) _ _ _ _ hW (lv_sub hl [1, 2, 0] rfl) h
set_option maxRecDepth 4000 in
theorem w_X12_asListed_2 (N : Nat) {σ' : St} (C : xC KM g RX12 cX12_asListed 3 none p s m args meth c) : ∀ (n : Nat), ∀ (x1 : Int32) (σ : St) (H : Heap) (locs : List Loc) (ls : Array Slot), xW KM g s σ H locs → lv_has ls 3 [(0, .ref (g.q 0)), (1, .int x1)] → f_X12_asListed_2 N n x1 σ = some σ' → W p l e rm_X12_asListed s m args below meth c H locs 0 0 (MQ below (xPost KM g none σ') args s 0 0 (xA KM g.q)) (F0 m 2 ls []) := by
  have hx := C.1
  have hb := C.2.1
  intro n
  induction n with
  | zero => intro x1 σ H locs ls hW hl h; rw [f_X12_asListed_2] at h; cases h
  | succ n ih =>
    intro x1 σ H locs ls hW hl h
    rw [f_X12_asListed_2] at h
    refine lv_iload_n hx hb dX12_asListed_2 rfl (lv_at hl 1 rfl) ?_
    refine lv_aload_n hx hb dX12_asListed_3 rfl (lv_at hl 0 rfl) ?_
    refine xg_r C hW fg_12_21 KM_0 rfl dX12_asListed_4 ?_
    refine lv_iconst (v := 0) hx hb dX12_asListed_7 rfl ?_
    obtain ⟨g1, h⟩ := xgd h
    refine xa_i C hW KM_3 g1 (x := σ.1 3 0) rfl dX12_asListed_8 ?_
    refine lv_icmp_ge (tgt := 75) hx hb dX12_asListed_9 (by decide) (fun c2 => ?_) (fun c2 => ?_)
    · have h := xit c2 h
      cases h
      exact xr_v C hW dX12_asListed_75
    · have h := xif c2 h
      refine lv_aload_n hx hb dX12_asListed_12 rfl (lv_at hl 0 rfl) ?_
      refine xg_r C hW fg_12_115 KM_0 rfl dX12_asListed_13 ?_
      refine lv_iload_n hx hb dX12_asListed_16 rfl (lv_at hl 1 rfl) ?_
      refine lv_aload_n hx hb dX12_asListed_17 rfl (lv_at hl 0 rfl) ?_
      refine xg_r C hW fg_12_34 KM_0 rfl dX12_asListed_18 ?_
      refine lv_iload_n hx hb dX12_asListed_21 rfl (lv_at hl 1 rfl) ?_
      obtain ⟨g3, h⟩ := xgd h
      refine xa_i C hW KM_7 g3 (x := σ.1 7 x1.toNatClampNeg) rfl dX12_asListed_22 ?_
      obtain ⟨g4, h⟩ := xgd h
      refine xs_i C hW KM_34 g4 dX12_asListed_23 (fun H locs hW => ?_)
      refine lv_aload_n hx hb dX12_asListed_24 rfl (lv_at hl 0 rfl) ?_
      refine xg_r C hW fg_12_118 KM_0 rfl dX12_asListed_25 ?_
      refine lv_iload_n hx hb dX12_asListed_28 rfl (lv_at hl 1 rfl) ?_
      refine lv_aload_n hx hb dX12_asListed_29 rfl (lv_at hl 0 rfl) ?_
      refine xg_r C hW fg_12_37 KM_0 rfl dX12_asListed_30 ?_
      refine lv_iload_n hx hb dX12_asListed_33 rfl (lv_at hl 1 rfl) ?_
      obtain ⟨g5, h⟩ := xgd h
      refine xa_i C hW KM_8 g5 (x := σ.1 8 x1.toNatClampNeg) rfl dX12_asListed_34 ?_
      obtain ⟨g6, h⟩ := xgd h
      refine xs_i C hW KM_35 g6 dX12_asListed_35 (fun H locs hW => ?_)
      refine lv_iconst (v := 0) hx hb dX12_asListed_36 rfl ?_
      refine lv_istore_n (lv' := [(2, .int 0), (0, .ref (g.q 0)), (1, .int x1)]) hx hb dX12_asListed_37 rfl hl (Nat.le_of_ble_eq_true rfl) rfl (fun ls hl => ?_)
      exact w_X12_asListed_38 N (f_X12_asListed_2 N n) C ih N x1 0 _ _ _ _ hW (lv_sub hl [1, 2, 0] rfl) h
set_option maxRecDepth 4000 in
theorem m_X12_asListed (N : Nat) (σ : St) {σ' : St} (h : f_X12_asListed N σ = some σ') : xM l KM g yX12_asListed cX12_asListed 3 none rm_X12_asListed [.ref (g.q 0)] σ none σ' := by
  refine xmet pn_X12 rfl (Nat.le_of_ble_eq_true rfl) (lv := [(0, .ref (g.q 0))]) rfl (fun p e s m args below meth c ls C hW hl => ?_)
  have hx := C.1
  have hb := C.2.1
  unfold f_X12_asListed at h
  refine lv_iconst (v := 0) hx hb dX12_asListed_0 rfl ?_
  refine lv_istore_n (lv' := [(1, .int 0), (0, .ref (g.q 0))]) hx hb dX12_asListed_1 rfl hl (Nat.le_of_ble_eq_true rfl) rfl (fun ls hl => ?_)
  exact w_X12_asListed_2 N C N 0 _ _ _ _ hW (lv_sub hl [1, 0] rfl) h
end
theorem dX12_isIdea_0 : decode cX12_isIdea 0 = .ok (.aload_n 0, 1) := by decide +kernel
theorem dX12_isIdea_1 : decode cX12_isIdea 1 = .ok (.getfield 115, 3) := by decide +kernel
theorem dX12_isIdea_4 : decode cX12_isIdea 4 = .ok (.iload_n 1, 1) := by decide +kernel
theorem dX12_isIdea_5 : decode cX12_isIdea 5 = .ok (.iaload, 1) := by decide +kernel
theorem dX12_isIdea_6 : decode cX12_isIdea 6 = .ok (.iconst 2, 1) := by decide +kernel
theorem dX12_isIdea_7 : decode cX12_isIdea 7 = .ok (.if_icmp .ne 23, 3) := by decide +kernel
theorem dX12_isIdea_10 : decode cX12_isIdea 10 = .ok (.aload_n 0, 1) := by decide +kernel
theorem dX12_isIdea_11 : decode cX12_isIdea 11 = .ok (.getfield 43, 3) := by decide +kernel
theorem dX12_isIdea_14 : decode cX12_isIdea 14 = .ok (.iload_n 1, 1) := by decide +kernel
theorem dX12_isIdea_15 : decode cX12_isIdea 15 = .ok (.laload, 1) := by decide +kernel
theorem dX12_isIdea_16 : decode cX12_isIdea 16 = .ok (.aload_n 0, 1) := by decide +kernel
theorem dX12_isIdea_17 : decode cX12_isIdea 17 = .ok (.getfield 103, 3) := by decide +kernel
theorem dX12_isIdea_20 : decode cX12_isIdea 20 = .ok (.iload_n 2, 1) := by decide +kernel
theorem dX12_isIdea_21 : decode cX12_isIdea 21 = .ok (.laload, 1) := by decide +kernel
theorem dX12_isIdea_22 : decode cX12_isIdea 22 = .ok (.lcmp, 1) := by decide +kernel
theorem dX12_isIdea_23 : decode cX12_isIdea 23 = .ok (.ifCond .ne 7, 3) := by decide +kernel
theorem dX12_isIdea_26 : decode cX12_isIdea 26 = .ok (.iconst 1, 1) := by decide +kernel
theorem dX12_isIdea_27 : decode cX12_isIdea 27 = .ok (.goto 4, 3) := by decide +kernel
theorem dX12_isIdea_30 : decode cX12_isIdea 30 = .ok (.iconst 0, 1) := by decide +kernel
theorem dX12_isIdea_31 : decode cX12_isIdea 31 = .ok (.ireturn, 1) := by decide +kernel
abbrev rm_X12_isIdea : Room := { frames := 0, cells := 0, slots := 0, locals := 0 }
def f_X12_isIdea (x1 : Int32) (x2 : Int32) (σ : St) : Option Int32 := grd (ib x1 40) ((if (σ.1 34 x1.toNatClampNeg) = 2 then grd (ib x1 80) (grd (ib x2 40) ((if (lg_cmp (σ.2 10 x1.toNatClampNeg) (σ.2 30 x2.toNatClampNeg)) = 0 then some 1 else some 0))) else some 0))
section
variable {p : Program} {l : Launch} {e : Env} {s : State} {m : MethodId} {args : Array Value} {below : List Frame} {meth : Method} {c : Code} {g : XG}
set_option maxRecDepth 4000 in
theorem m_X12_isIdea (x1 : Int32) (x2 : Int32) (σ : St) {r : Int32} (h : f_X12_isIdea x1 x2 σ = some r) : xM l KM g yX12_isIdea cX12_isIdea 3 (some .boolean) rm_X12_isIdea [.ref (g.q 0), .int x1, .int x2] σ (some (.int r)) σ := by
  refine xmet pn_X12 rfl (Nat.le_of_ble_eq_true rfl) (lv := [(0, .ref (g.q 0)), (1, .int x1), (2, .int x2)]) rfl (fun p e s m args below meth c ls C hW hl => ?_)
  have hx := C.1
  have hb := C.2.1
  unfold f_X12_isIdea at h
  refine lv_aload_n hx hb dX12_isIdea_0 rfl (lv_at hl 0 rfl) ?_
  refine xg_r C hW fg_12_115 KM_0 rfl dX12_isIdea_1 ?_
  refine lv_iload_n hx hb dX12_isIdea_4 rfl (lv_at hl 1 rfl) ?_
  obtain ⟨g1, h⟩ := xgd h
  refine xa_i C hW KM_34 g1 (x := σ.1 34 x1.toNatClampNeg) rfl dX12_isIdea_5 ?_
  refine lv_iconst (v := 2) hx hb dX12_isIdea_6 rfl ?_
  refine lv_icmp_ne (tgt := 30) hx hb dX12_isIdea_7 (by decide) (fun c2 => ?_) (fun c2 => ?_)
  · have h := xif c2 h
    refine lv_iconst (v := 0) hx hb dX12_isIdea_30 rfl ?_
    cases h
    exact xr_z C hW (by decide) dX12_isIdea_31
  · have h := xit c2 h
    refine lv_aload_n hx hb dX12_isIdea_10 rfl (lv_at hl 0 rfl) ?_
    refine xg_r C hW fg_12_43 KM_0 rfl dX12_isIdea_11 ?_
    refine lv_iload_n hx hb dX12_isIdea_14 rfl (lv_at hl 1 rfl) ?_
    obtain ⟨g3, h⟩ := xgd h
    refine xa_l C hW KM_10 g3 (x := σ.2 10 x1.toNatClampNeg) rfl dX12_isIdea_15 ?_
    refine lv_aload_n hx hb dX12_isIdea_16 rfl (lv_at hl 0 rfl) ?_
    refine xg_r C hW fg_12_103 KM_0 rfl dX12_isIdea_17 ?_
    refine lv_iload_n hx hb dX12_isIdea_20 rfl (lv_at hl 2 rfl) ?_
    obtain ⟨g4, h⟩ := xgd h
    refine xa_l C hW KM_30 g4 (x := σ.2 30 x2.toNatClampNeg) rfl dX12_isIdea_21 ?_
    refine W.lcmp hx hb dX12_isIdea_22 ?_
    refine lv_if_ne (tgt := 30) hx hb dX12_isIdea_23 (by decide) (fun c5 => ?_) (fun c5 => ?_)
    · have h := xif c5 h
      refine lv_iconst (v := 0) hx hb dX12_isIdea_30 rfl ?_
      cases h
      exact xr_z C hW (by decide) dX12_isIdea_31
    · have h := xit c5 h
      refine lv_iconst (v := 1) hx hb dX12_isIdea_26 rfl ?_
      refine lv_goto (tgt := 31) hx hb dX12_isIdea_27 (by decide) ?_
      cases h
      exact xr_z C hW (by decide) dX12_isIdea_31
end
theorem dX12_isKind_0 : decode cX12_isKind 0 = .ok (.aload_n 0, 1) := by decide +kernel
theorem dX12_isKind_1 : decode cX12_isKind 1 = .ok (.getfield 115, 3) := by decide +kernel
theorem dX12_isKind_4 : decode cX12_isKind 4 = .ok (.iload_n 1, 1) := by decide +kernel
theorem dX12_isKind_5 : decode cX12_isKind 5 = .ok (.iaload, 1) := by decide +kernel
theorem dX12_isKind_6 : decode cX12_isKind 6 = .ok (.iconst 3, 1) := by decide +kernel
theorem dX12_isKind_7 : decode cX12_isKind 7 = .ok (.if_icmp .ne 23, 3) := by decide +kernel
theorem dX12_isKind_10 : decode cX12_isKind 10 = .ok (.aload_n 0, 1) := by decide +kernel
theorem dX12_isKind_11 : decode cX12_isKind 11 = .ok (.getfield 43, 3) := by decide +kernel
theorem dX12_isKind_14 : decode cX12_isKind 14 = .ok (.iload_n 1, 1) := by decide +kernel
theorem dX12_isKind_15 : decode cX12_isKind 15 = .ok (.laload, 1) := by decide +kernel
theorem dX12_isKind_16 : decode cX12_isKind 16 = .ok (.aload_n 0, 1) := by decide +kernel
theorem dX12_isKind_17 : decode cX12_isKind 17 = .ok (.getfield 112, 3) := by decide +kernel
theorem dX12_isKind_20 : decode cX12_isKind 20 = .ok (.iload_n 2, 1) := by decide +kernel
theorem dX12_isKind_21 : decode cX12_isKind 21 = .ok (.laload, 1) := by decide +kernel
theorem dX12_isKind_22 : decode cX12_isKind 22 = .ok (.lcmp, 1) := by decide +kernel
theorem dX12_isKind_23 : decode cX12_isKind 23 = .ok (.ifCond .ne 7, 3) := by decide +kernel
theorem dX12_isKind_26 : decode cX12_isKind 26 = .ok (.iconst 1, 1) := by decide +kernel
theorem dX12_isKind_27 : decode cX12_isKind 27 = .ok (.goto 4, 3) := by decide +kernel
theorem dX12_isKind_30 : decode cX12_isKind 30 = .ok (.iconst 0, 1) := by decide +kernel
theorem dX12_isKind_31 : decode cX12_isKind 31 = .ok (.ireturn, 1) := by decide +kernel
abbrev rm_X12_isKind : Room := { frames := 0, cells := 0, slots := 0, locals := 0 }
def f_X12_isKind (x1 : Int32) (x2 : Int32) (σ : St) : Option Int32 := grd (ib x1 40) ((if (σ.1 34 x1.toNatClampNeg) = 3 then grd (ib x1 80) (grd (ib x2 40) ((if (lg_cmp (σ.2 10 x1.toNatClampNeg) (σ.2 33 x2.toNatClampNeg)) = 0 then some 1 else some 0))) else some 0))
section
variable {p : Program} {l : Launch} {e : Env} {s : State} {m : MethodId} {args : Array Value} {below : List Frame} {meth : Method} {c : Code} {g : XG}
set_option maxRecDepth 4000 in
theorem m_X12_isKind (x1 : Int32) (x2 : Int32) (σ : St) {r : Int32} (h : f_X12_isKind x1 x2 σ = some r) : xM l KM g yX12_isKind cX12_isKind 3 (some .boolean) rm_X12_isKind [.ref (g.q 0), .int x1, .int x2] σ (some (.int r)) σ := by
  refine xmet pn_X12 rfl (Nat.le_of_ble_eq_true rfl) (lv := [(0, .ref (g.q 0)), (1, .int x1), (2, .int x2)]) rfl (fun p e s m args below meth c ls C hW hl => ?_)
  have hx := C.1
  have hb := C.2.1
  unfold f_X12_isKind at h
  refine lv_aload_n hx hb dX12_isKind_0 rfl (lv_at hl 0 rfl) ?_
  refine xg_r C hW fg_12_115 KM_0 rfl dX12_isKind_1 ?_
  refine lv_iload_n hx hb dX12_isKind_4 rfl (lv_at hl 1 rfl) ?_
  obtain ⟨g1, h⟩ := xgd h
  refine xa_i C hW KM_34 g1 (x := σ.1 34 x1.toNatClampNeg) rfl dX12_isKind_5 ?_
  refine lv_iconst (v := 3) hx hb dX12_isKind_6 rfl ?_
  refine lv_icmp_ne (tgt := 30) hx hb dX12_isKind_7 (by decide) (fun c2 => ?_) (fun c2 => ?_)
  · have h := xif c2 h
    refine lv_iconst (v := 0) hx hb dX12_isKind_30 rfl ?_
    cases h
    exact xr_z C hW (by decide) dX12_isKind_31
  · have h := xit c2 h
    refine lv_aload_n hx hb dX12_isKind_10 rfl (lv_at hl 0 rfl) ?_
    refine xg_r C hW fg_12_43 KM_0 rfl dX12_isKind_11 ?_
    refine lv_iload_n hx hb dX12_isKind_14 rfl (lv_at hl 1 rfl) ?_
    obtain ⟨g3, h⟩ := xgd h
    refine xa_l C hW KM_10 g3 (x := σ.2 10 x1.toNatClampNeg) rfl dX12_isKind_15 ?_
    refine lv_aload_n hx hb dX12_isKind_16 rfl (lv_at hl 0 rfl) ?_
    refine xg_r C hW fg_12_112 KM_0 rfl dX12_isKind_17 ?_
    refine lv_iload_n hx hb dX12_isKind_20 rfl (lv_at hl 2 rfl) ?_
    obtain ⟨g4, h⟩ := xgd h
    refine xa_l C hW KM_33 g4 (x := σ.2 33 x2.toNatClampNeg) rfl dX12_isKind_21 ?_
    refine W.lcmp hx hb dX12_isKind_22 ?_
    refine lv_if_ne (tgt := 30) hx hb dX12_isKind_23 (by decide) (fun c5 => ?_) (fun c5 => ?_)
    · have h := xif c5 h
      refine lv_iconst (v := 0) hx hb dX12_isKind_30 rfl ?_
      cases h
      exact xr_z C hW (by decide) dX12_isKind_31
    · have h := xit c5 h
      refine lv_iconst (v := 1) hx hb dX12_isKind_26 rfl ?_
      refine lv_goto (tgt := 31) hx hb dX12_isKind_27 (by decide) ?_
      cases h
      exact xr_z C hW (by decide) dX12_isKind_31
end
theorem dX12_isAt_0 : decode cX12_isAt 0 = .ok (.aload_n 0, 1) := by decide +kernel
theorem dX12_isAt_1 : decode cX12_isAt 1 = .ok (.getfield 115, 3) := by decide +kernel
theorem dX12_isAt_4 : decode cX12_isAt 4 = .ok (.iload_n 1, 1) := by decide +kernel
theorem dX12_isAt_5 : decode cX12_isAt 5 = .ok (.iaload, 1) := by decide +kernel
theorem dX12_isAt_6 : decode cX12_isAt 6 = .ok (.iconst 1, 1) := by decide +kernel
theorem dX12_isAt_7 : decode cX12_isAt 7 = .ok (.if_icmp .ne 24, 3) := by decide +kernel
theorem dX12_isAt_10 : decode cX12_isAt 10 = .ok (.iload_n 3, 1) := by decide +kernel
theorem dX12_isAt_11 : decode cX12_isAt 11 = .ok (.ifCond .lt 20, 3) := by decide +kernel
theorem dX12_isAt_14 : decode cX12_isAt 14 = .ok (.iload_n 3, 1) := by decide +kernel
theorem dX12_isAt_15 : decode cX12_isAt 15 = .ok (.aload_n 0, 1) := by decide +kernel
theorem dX12_isAt_16 : decode cX12_isAt 16 = .ok (.getfield 118, 3) := by decide +kernel
theorem dX12_isAt_19 : decode cX12_isAt 19 = .ok (.iload_n 1, 1) := by decide +kernel
theorem dX12_isAt_20 : decode cX12_isAt 20 = .ok (.iaload, 1) := by decide +kernel
theorem dX12_isAt_21 : decode cX12_isAt 21 = .ok (.iadd, 1) := by decide +kernel
theorem dX12_isAt_22 : decode cX12_isAt 22 = .ok (.aload_n 0, 1) := by decide +kernel
theorem dX12_isAt_23 : decode cX12_isAt 23 = .ok (.getfield 106, 3) := by decide +kernel
theorem dX12_isAt_26 : decode cX12_isAt 26 = .ok (.iload_n 2, 1) := by decide +kernel
theorem dX12_isAt_27 : decode cX12_isAt 27 = .ok (.iaload, 1) := by decide +kernel
theorem dX12_isAt_28 : decode cX12_isAt 28 = .ok (.if_icmp .le 5, 3) := by decide +kernel
theorem dX12_isAt_31 : decode cX12_isAt 31 = .ok (.iconst 0, 1) := by decide +kernel
theorem dX12_isAt_32 : decode cX12_isAt 32 = .ok (.ireturn, 1) := by decide +kernel
theorem dX12_isAt_33 : decode cX12_isAt 33 = .ok (.iconst 0, 1) := by decide +kernel
theorem dX12_isAt_34 : decode cX12_isAt 34 = .ok (.istore 4, 2) := by decide +kernel
theorem dX12_isAt_36 : decode cX12_isAt 36 = .ok (.iload 4, 2) := by decide +kernel
theorem dX12_isAt_38 : decode cX12_isAt 38 = .ok (.aload_n 0, 1) := by decide +kernel
theorem dX12_isAt_39 : decode cX12_isAt 39 = .ok (.getfield 118, 3) := by decide +kernel
theorem dX12_isAt_42 : decode cX12_isAt 42 = .ok (.iload_n 1, 1) := by decide +kernel
theorem dX12_isAt_43 : decode cX12_isAt 43 = .ok (.iaload, 1) := by decide +kernel
theorem dX12_isAt_44 : decode cX12_isAt 44 = .ok (.if_icmp .ge 39, 3) := by decide +kernel
theorem dX12_isAt_47 : decode cX12_isAt 47 = .ok (.aload_n 0, 1) := by decide +kernel
theorem dX12_isAt_48 : decode cX12_isAt 48 = .ok (.getfield 121, 3) := by decide +kernel
theorem dX12_isAt_51 : decode cX12_isAt 51 = .ok (.iconst 3, 1) := by decide +kernel
theorem dX12_isAt_52 : decode cX12_isAt 52 = .ok (.iload_n 1, 1) := by decide +kernel
theorem dX12_isAt_53 : decode cX12_isAt 53 = .ok (.imul, 1) := by decide +kernel
theorem dX12_isAt_54 : decode cX12_isAt 54 = .ok (.iload 4, 2) := by decide +kernel
theorem dX12_isAt_56 : decode cX12_isAt 56 = .ok (.iadd, 1) := by decide +kernel
theorem dX12_isAt_57 : decode cX12_isAt 57 = .ok (.iaload, 1) := by decide +kernel
theorem dX12_isAt_58 : decode cX12_isAt 58 = .ok (.aload_n 0, 1) := by decide +kernel
theorem dX12_isAt_59 : decode cX12_isAt 59 = .ok (.getfield 109, 3) := by decide +kernel
theorem dX12_isAt_62 : decode cX12_isAt 62 = .ok (.bipush 8, 2) := by decide +kernel
theorem dX12_isAt_64 : decode cX12_isAt 64 = .ok (.iload_n 2, 1) := by decide +kernel
theorem dX12_isAt_65 : decode cX12_isAt 65 = .ok (.imul, 1) := by decide +kernel
theorem dX12_isAt_66 : decode cX12_isAt 66 = .ok (.iload_n 3, 1) := by decide +kernel
theorem dX12_isAt_67 : decode cX12_isAt 67 = .ok (.iadd, 1) := by decide +kernel
theorem dX12_isAt_68 : decode cX12_isAt 68 = .ok (.iload 4, 2) := by decide +kernel
theorem dX12_isAt_70 : decode cX12_isAt 70 = .ok (.iadd, 1) := by decide +kernel
theorem dX12_isAt_71 : decode cX12_isAt 71 = .ok (.iaload, 1) := by decide +kernel
theorem dX12_isAt_72 : decode cX12_isAt 72 = .ok (.if_icmp .eq 5, 3) := by decide +kernel
theorem dX12_isAt_75 : decode cX12_isAt 75 = .ok (.iconst 0, 1) := by decide +kernel
theorem dX12_isAt_76 : decode cX12_isAt 76 = .ok (.ireturn, 1) := by decide +kernel
theorem dX12_isAt_77 : decode cX12_isAt 77 = .ok (.iinc 4 1, 3) := by decide +kernel
theorem dX12_isAt_80 : decode cX12_isAt 80 = .ok (.goto (-44), 3) := by decide +kernel
theorem dX12_isAt_83 : decode cX12_isAt 83 = .ok (.iconst 1, 1) := by decide +kernel
theorem dX12_isAt_84 : decode cX12_isAt 84 = .ok (.ireturn, 1) := by decide +kernel
abbrev rm_X12_isAt : Room := { frames := 0, cells := 0, slots := 0, locals := 0 }
def f_X12_isAt_36 (N : Nat) : Nat → Int32 → Int32 → Int32 → Int32 → St → Option Int32
  | 0, _, _, _, _, _ => none
  | n + 1, x1, x2, x3, x4, σ => grd (ib x1 40) ((if (σ.1 35 x1.toNatClampNeg) ≤ x4 then some 1 else grd (ib ((3 * x1) + x4) 120) (grd (ib (((8 * x2) + x3) + x4) 320) ((if (σ.1 36 ((3 * x1) + x4).toNatClampNeg) = (σ.1 32 (((8 * x2) + x3) + x4).toNatClampNeg) then f_X12_isAt_36 N n x1 x2 x3 (x4 + 1) σ else some 0)))))
def f_X12_isAt (N : Nat) (x1 : Int32) (x2 : Int32) (x3 : Int32) (σ : St) : Option Int32 := grd (ib x1 40) ((if (σ.1 34 x1.toNatClampNeg) = 1 then (if x3 < 0 then some 0 else grd (ib x1 40) (grd (ib x2 40) ((if (x3 + (σ.1 35 x1.toNatClampNeg)) ≤ (σ.1 31 x2.toNatClampNeg) then f_X12_isAt_36 N N x1 x2 x3 0 σ else some 0)))) else some 0))
section
variable {p : Program} {l : Launch} {e : Env} {s : State} {m : MethodId} {args : Array Value} {below : List Frame} {meth : Method} {c : Code} {g : XG}
set_option maxRecDepth 4000 in
theorem w_X12_isAt_36 (N : Nat) (σ : St) {r : Int32} (C : xC KM g RX12 cX12_isAt 5 (some .boolean) p s m args meth c) : ∀ (n : Nat), ∀ (x1 : Int32) (x2 : Int32) (x3 : Int32) (x4 : Int32) (H : Heap) (locs : List Loc) (ls : Array Slot), xW KM g s σ H locs → lv_has ls 5 [(0, .ref (g.q 0)), (1, .int x1), (2, .int x2), (3, .int x3), (4, .int x4)] → f_X12_isAt_36 N n x1 x2 x3 x4 σ = some r → W p l e rm_X12_isAt s m args below meth c H locs 0 0 (MQ below (xPost KM g (some (.int r)) σ) args s 0 0 (xA KM g.q)) (F0 m 36 ls []) := by
  have hx := C.1
  have hb := C.2.1
  intro n
  induction n with
  | zero => intro x1 x2 x3 x4 H locs ls hW hl h; rw [f_X12_isAt_36] at h; cases h
  | succ n ih =>
    intro x1 x2 x3 x4 H locs ls hW hl h
    rw [f_X12_isAt_36] at h
    refine lv_iload hx hb dX12_isAt_36 (lv_at hl 4 rfl) ?_
    refine lv_aload_n hx hb dX12_isAt_38 rfl (lv_at hl 0 rfl) ?_
    refine xg_r C hW fg_12_118 KM_0 rfl dX12_isAt_39 ?_
    refine lv_iload_n hx hb dX12_isAt_42 rfl (lv_at hl 1 rfl) ?_
    obtain ⟨g7, h⟩ := xgd h
    refine xa_i C hW KM_35 g7 (x := σ.1 35 x1.toNatClampNeg) rfl dX12_isAt_43 ?_
    refine lv_icmp_ge (tgt := 83) hx hb dX12_isAt_44 (by decide) (fun c8 => ?_) (fun c8 => ?_)
    · have h := xit c8 h
      refine lv_iconst (v := 1) hx hb dX12_isAt_83 rfl ?_
      cases h
      exact xr_z C hW (by decide) dX12_isAt_84
    · have h := xif c8 h
      refine lv_aload_n hx hb dX12_isAt_47 rfl (lv_at hl 0 rfl) ?_
      refine xg_r C hW fg_12_121 KM_0 rfl dX12_isAt_48 ?_
      refine lv_iconst (v := 3) hx hb dX12_isAt_51 rfl ?_
      refine lv_iload_n hx hb dX12_isAt_52 rfl (lv_at hl 1 rfl) ?_
      refine lv_imul hx hb dX12_isAt_53 ?_
      refine lv_iload hx hb dX12_isAt_54 (lv_at hl 4 rfl) ?_
      refine lv_iadd hx hb dX12_isAt_56 ?_
      obtain ⟨g9, h⟩ := xgd h
      refine xa_i C hW KM_36 g9 (x := σ.1 36 ((3 * x1) + x4).toNatClampNeg) rfl dX12_isAt_57 ?_
      refine lv_aload_n hx hb dX12_isAt_58 rfl (lv_at hl 0 rfl) ?_
      refine xg_r C hW fg_12_109 KM_0 rfl dX12_isAt_59 ?_
      refine lv_bipush (v := 8) hx hb dX12_isAt_62 rfl ?_
      refine lv_iload_n hx hb dX12_isAt_64 rfl (lv_at hl 2 rfl) ?_
      refine lv_imul hx hb dX12_isAt_65 ?_
      refine lv_iload_n hx hb dX12_isAt_66 rfl (lv_at hl 3 rfl) ?_
      refine lv_iadd hx hb dX12_isAt_67 ?_
      refine lv_iload hx hb dX12_isAt_68 (lv_at hl 4 rfl) ?_
      refine lv_iadd hx hb dX12_isAt_70 ?_
      obtain ⟨g10, h⟩ := xgd h
      refine xa_i C hW KM_32 g10 (x := σ.1 32 (((8 * x2) + x3) + x4).toNatClampNeg) rfl dX12_isAt_71 ?_
      refine lv_icmp_eq (tgt := 77) hx hb dX12_isAt_72 (by decide) (fun c11 => ?_) (fun c11 => ?_)
      · have h := xit c11 h
        refine lv_iinc (v := x4 + 1) (lv' := [(4, .int (x4 + 1)), (0, .ref (g.q 0)), (1, .int x1), (2, .int x2), (3, .int x3)]) hx hb dX12_isAt_77 hl (k := 4) rfl rfl (Nat.le_of_ble_eq_true rfl) rfl (fun ls hl => ?_)
        refine lv_goto (tgt := 36) hx hb dX12_isAt_80 (by decide) ?_
        exact ih x1 x2 x3 (x4 + 1) _ _ _ hW (lv_sub hl [1, 2, 3, 4, 0] rfl) h
      · have h := xif c11 h
        refine lv_iconst (v := 0) hx hb dX12_isAt_75 rfl ?_
        cases h
        exact xr_z C hW (by decide) dX12_isAt_76
set_option maxRecDepth 4000 in
theorem m_X12_isAt (N : Nat) (x1 : Int32) (x2 : Int32) (x3 : Int32) (σ : St) {r : Int32} (h : f_X12_isAt N x1 x2 x3 σ = some r) : xM l KM g yX12_isAt cX12_isAt 5 (some .boolean) rm_X12_isAt [.ref (g.q 0), .int x1, .int x2, .int x3] σ (some (.int r)) σ := by
  refine xmet pn_X12 rfl (Nat.le_of_ble_eq_true rfl) (lv := [(0, .ref (g.q 0)), (1, .int x1), (2, .int x2), (3, .int x3)]) rfl (fun p e s m args below meth c ls C hW hl => ?_)
  have hx := C.1
  have hb := C.2.1
  unfold f_X12_isAt at h
  refine lv_aload_n hx hb dX12_isAt_0 rfl (lv_at hl 0 rfl) ?_
  refine xg_r C hW fg_12_115 KM_0 rfl dX12_isAt_1 ?_
  refine lv_iload_n hx hb dX12_isAt_4 rfl (lv_at hl 1 rfl) ?_
  obtain ⟨g1, h⟩ := xgd h
  refine xa_i C hW KM_34 g1 (x := σ.1 34 x1.toNatClampNeg) rfl dX12_isAt_5 ?_
  refine lv_iconst (v := 1) hx hb dX12_isAt_6 rfl ?_
  refine lv_icmp_ne (tgt := 31) hx hb dX12_isAt_7 (by decide) (fun c2 => ?_) (fun c2 => ?_)
  · have h := xif c2 h
    refine lv_iconst (v := 0) hx hb dX12_isAt_31 rfl ?_
    cases h
    exact xr_z C hW (by decide) dX12_isAt_32
  · have h := xit c2 h
    refine lv_iload_n hx hb dX12_isAt_10 rfl (lv_at hl 3 rfl) ?_
    refine lv_if_lt (tgt := 31) hx hb dX12_isAt_11 (by decide) (fun c3 => ?_) (fun c3 => ?_)
    · have h := xit c3 h
      refine lv_iconst (v := 0) hx hb dX12_isAt_31 rfl ?_
      cases h
      exact xr_z C hW (by decide) dX12_isAt_32
    · have h := xif c3 h
      refine lv_iload_n hx hb dX12_isAt_14 rfl (lv_at hl 3 rfl) ?_
      refine lv_aload_n hx hb dX12_isAt_15 rfl (lv_at hl 0 rfl) ?_
      refine xg_r C hW fg_12_118 KM_0 rfl dX12_isAt_16 ?_
      refine lv_iload_n hx hb dX12_isAt_19 rfl (lv_at hl 1 rfl) ?_
      obtain ⟨g4, h⟩ := xgd h
      refine xa_i C hW KM_35 g4 (x := σ.1 35 x1.toNatClampNeg) rfl dX12_isAt_20 ?_
      refine lv_iadd hx hb dX12_isAt_21 ?_
      refine lv_aload_n hx hb dX12_isAt_22 rfl (lv_at hl 0 rfl) ?_
      refine xg_r C hW fg_12_106 KM_0 rfl dX12_isAt_23 ?_
      refine lv_iload_n hx hb dX12_isAt_26 rfl (lv_at hl 2 rfl) ?_
      obtain ⟨g5, h⟩ := xgd h
      refine xa_i C hW KM_31 g5 (x := σ.1 31 x2.toNatClampNeg) rfl dX12_isAt_27 ?_
      refine lv_icmp_le (tgt := 33) hx hb dX12_isAt_28 (by decide) (fun c6 => ?_) (fun c6 => ?_)
      · have h := xit c6 h
        refine lv_iconst (v := 0) hx hb dX12_isAt_33 rfl ?_
        refine lv_istore (lv' := [(4, .int 0), (0, .ref (g.q 0)), (1, .int x1), (2, .int x2), (3, .int x3)]) hx hb dX12_isAt_34 hl (Nat.le_of_ble_eq_true rfl) rfl (fun ls hl => ?_)
        exact w_X12_isAt_36 N σ C N x1 x2 x3 0 _ _ _ hW (lv_sub hl [1, 2, 3, 4, 0] rfl) h
      · have h := xif c6 h
        refine lv_iconst (v := 0) hx hb dX12_isAt_31 rfl ?_
        cases h
        exact xr_z C hW (by decide) dX12_isAt_32
end
theorem dX12_isTail_0 : decode cX12_isTail 0 = .ok (.aload_n 0, 1) := by decide +kernel
theorem dX12_isTail_1 : decode cX12_isTail 1 = .ok (.iload_n 1, 1) := by decide +kernel
theorem dX12_isTail_2 : decode cX12_isTail 2 = .ok (.iload_n 2, 1) := by decide +kernel
theorem dX12_isTail_3 : decode cX12_isTail 3 = .ok (.aload_n 0, 1) := by decide +kernel
theorem dX12_isTail_4 : decode cX12_isTail 4 = .ok (.getfield 106, 3) := by decide +kernel
theorem dX12_isTail_7 : decode cX12_isTail 7 = .ok (.iload_n 2, 1) := by decide +kernel
theorem dX12_isTail_8 : decode cX12_isTail 8 = .ok (.iaload, 1) := by decide +kernel
theorem dX12_isTail_9 : decode cX12_isTail 9 = .ok (.aload_n 0, 1) := by decide +kernel
theorem dX12_isTail_10 : decode cX12_isTail 10 = .ok (.getfield 118, 3) := by decide +kernel
theorem dX12_isTail_13 : decode cX12_isTail 13 = .ok (.iload_n 1, 1) := by decide +kernel
theorem dX12_isTail_14 : decode cX12_isTail 14 = .ok (.iaload, 1) := by decide +kernel
theorem dX12_isTail_15 : decode cX12_isTail 15 = .ok (.isub, 1) := by decide +kernel
theorem dX12_isTail_16 : decode cX12_isTail 16 = .ok (.invokevirtual 414, 3) := by decide +kernel
theorem dX12_isTail_19 : decode cX12_isTail 19 = .ok (.ireturn, 1) := by decide +kernel
abbrev rm_X12_isTail : Room := { frames := 1, cells := 0, slots := 0, locals := 24 }
def f_X12_isTail (N : Nat) (x1 : Int32) (x2 : Int32) (σ : St) : Option Int32 := grd (ib x2 40) (grd (ib x1 40) (bo (f_X12_isAt N x1 x2 ((σ.1 31 x2.toNatClampNeg) - (σ.1 35 x1.toNatClampNeg)) σ) (fun r3_ => grd (zbb r3_) (some r3_))))
section
variable {p : Program} {l : Launch} {e : Env} {s : State} {m : MethodId} {args : Array Value} {below : List Frame} {meth : Method} {c : Code} {g : XG}
set_option maxRecDepth 4000 in
theorem m_X12_isTail (N : Nat) (x1 : Int32) (x2 : Int32) (σ : St) {r : Int32} (h : f_X12_isTail N x1 x2 σ = some r) : xM l KM g yX12_isTail cX12_isTail 3 (some .boolean) rm_X12_isTail [.ref (g.q 0), .int x1, .int x2] σ (some (.int r)) σ := by
  refine xmet pn_X12 rfl (Nat.le_of_ble_eq_true rfl) (lv := [(0, .ref (g.q 0)), (1, .int x1), (2, .int x2)]) rfl (fun p e s m args below meth c ls C hW hl => ?_)
  have hx := C.1
  have hb := C.2.1
  unfold f_X12_isTail at h
  refine lv_aload_n hx hb dX12_isTail_0 rfl (lv_at hl 0 rfl) ?_
  refine lv_iload_n hx hb dX12_isTail_1 rfl (lv_at hl 1 rfl) ?_
  refine lv_iload_n hx hb dX12_isTail_2 rfl (lv_at hl 2 rfl) ?_
  refine lv_aload_n hx hb dX12_isTail_3 rfl (lv_at hl 0 rfl) ?_
  refine xg_r C hW fg_12_106 KM_0 rfl dX12_isTail_4 ?_
  refine lv_iload_n hx hb dX12_isTail_7 rfl (lv_at hl 2 rfl) ?_
  obtain ⟨g1, h⟩ := xgd h
  refine xa_i C hW KM_31 g1 (x := σ.1 31 x2.toNatClampNeg) rfl dX12_isTail_8 ?_
  refine lv_aload_n hx hb dX12_isTail_9 rfl (lv_at hl 0 rfl) ?_
  refine xg_r C hW fg_12_118 KM_0 rfl dX12_isTail_10 ?_
  refine lv_iload_n hx hb dX12_isTail_13 rfl (lv_at hl 1 rfl) ?_
  obtain ⟨g2, h⟩ := xgd h
  refine xa_i C hW KM_35 g2 (x := σ.1 35 x1.toNatClampNeg) rfl dX12_isTail_14 ?_
  refine lv_isub hx hb dX12_isTail_15 ?_
  obtain ⟨r3_, e3, h⟩ := xbo h
  refine xc_V (As := [.int x1, .int x2, .int ((σ.1 31 x2.toNatClampNeg) - (σ.1 35 x1.toNatClampNeg))]) (rest := []) C hW (m_X12_isAt N x1 x2 ((σ.1 31 x2.toNatClampNeg) - (σ.1 35 x1.toNatClampNeg)) _ e3) mf_X12_isAt mv_X12_isAt ml_X12_414 ⟨rfl, rfl⟩ ⟨Nat.le_of_ble_eq_true rfl, Nat.le_of_ble_eq_true rfl⟩ KM_0 rfl hl.1 rfl rfl (Nat.le_of_ble_eq_true rfl) dX12_isTail_16 (fun H locs hW => W.eq (g2 := F0 m 19 ls [.int r3_]) rfl ?_)
  obtain ⟨g4, h⟩ := xgd h
  cases h
  exact xr_z C hW g4 dX12_isTail_19
end
theorem dX12_beginCover_0 : decode cX12_beginCover 0 = .ok (.iconst 0, 1) := by decide +kernel
theorem dX12_beginCover_1 : decode cX12_beginCover 1 = .ok (.istore_n 1, 1) := by decide +kernel
theorem dX12_beginCover_2 : decode cX12_beginCover 2 = .ok (.iload_n 1, 1) := by decide +kernel
theorem dX12_beginCover_3 : decode cX12_beginCover 3 = .ok (.bipush 18, 2) := by decide +kernel
theorem dX12_beginCover_5 : decode cX12_beginCover 5 = .ok (.if_icmp .ge 16, 3) := by decide +kernel
theorem dX12_beginCover_8 : decode cX12_beginCover 8 = .ok (.aload_n 0, 1) := by decide +kernel
theorem dX12_beginCover_9 : decode cX12_beginCover 9 = .ok (.getfield 124, 3) := by decide +kernel
theorem dX12_beginCover_12 : decode cX12_beginCover 12 = .ok (.iload_n 1, 1) := by decide +kernel
theorem dX12_beginCover_13 : decode cX12_beginCover 13 = .ok (.iconst 0, 1) := by decide +kernel
theorem dX12_beginCover_14 : decode cX12_beginCover 14 = .ok (.iastore, 1) := by decide +kernel
theorem dX12_beginCover_15 : decode cX12_beginCover 15 = .ok (.iinc 1 1, 3) := by decide +kernel
theorem dX12_beginCover_18 : decode cX12_beginCover 18 = .ok (.goto (-16), 3) := by decide +kernel
theorem dX12_beginCover_21 : decode cX12_beginCover 21 = .ok (.aload_n 0, 1) := by decide +kernel
theorem dX12_beginCover_22 : decode cX12_beginCover 22 = .ok (.getfield 124, 3) := by decide +kernel
theorem dX12_beginCover_25 : decode cX12_beginCover 25 = .ok (.iconst 0, 1) := by decide +kernel
theorem dX12_beginCover_26 : decode cX12_beginCover 26 = .ok (.iconst 1, 1) := by decide +kernel
theorem dX12_beginCover_27 : decode cX12_beginCover 27 = .ok (.iastore, 1) := by decide +kernel
theorem dX12_beginCover_28 : decode cX12_beginCover 28 = .ok (.return_, 1) := by decide +kernel
abbrev rm_X12_beginCover : Room := { frames := 0, cells := 0, slots := 0, locals := 0 }
def f_X12_beginCover_2 (N : Nat) : Nat → Int32 → St → Option St
  | 0, _, _ => none
  | n + 1, x1, σ => (if 18 ≤ x1 then grd (ib 0 234) (some ((si σ 37 0 1))) else grd (ib x1 234) (f_X12_beginCover_2 N n (x1 + 1) (si σ 37 x1.toNatClampNeg 0)))
def f_X12_beginCover (N : Nat) (σ : St) : Option St := f_X12_beginCover_2 N N 0 σ
section
variable {p : Program} {l : Launch} {e : Env} {s : State} {m : MethodId} {args : Array Value} {below : List Frame} {meth : Method} {c : Code} {g : XG}
set_option maxRecDepth 4000 in
theorem w_X12_beginCover_2 (N : Nat) {σ' : St} (C : xC KM g RX12 cX12_beginCover 2 none p s m args meth c) : ∀ (n : Nat), ∀ (x1 : Int32) (σ : St) (H : Heap) (locs : List Loc) (ls : Array Slot), xW KM g s σ H locs → lv_has ls 2 [(0, .ref (g.q 0)), (1, .int x1)] → f_X12_beginCover_2 N n x1 σ = some σ' → W p l e rm_X12_beginCover s m args below meth c H locs 0 0 (MQ below (xPost KM g none σ') args s 0 0 (xA KM g.q)) (F0 m 2 ls []) := by
  have hx := C.1
  have hb := C.2.1
  intro n
  induction n with
  | zero => intro x1 σ H locs ls hW hl h; rw [f_X12_beginCover_2] at h; cases h
  | succ n ih =>
    intro x1 σ H locs ls hW hl h
    rw [f_X12_beginCover_2] at h
    refine lv_iload_n hx hb dX12_beginCover_2 rfl (lv_at hl 1 rfl) ?_
    refine lv_bipush (v := 18) hx hb dX12_beginCover_3 rfl ?_
    refine lv_icmp_ge (tgt := 21) hx hb dX12_beginCover_5 (by decide) (fun c1 => ?_) (fun c1 => ?_)
    · have h := xit c1 h
      refine lv_aload_n hx hb dX12_beginCover_21 rfl (lv_at hl 0 rfl) ?_
      refine xg_r C hW fg_12_124 KM_0 rfl dX12_beginCover_22 ?_
      refine lv_iconst (v := 0) hx hb dX12_beginCover_25 rfl ?_
      refine lv_iconst (v := 1) hx hb dX12_beginCover_26 rfl ?_
      obtain ⟨g2, h⟩ := xgd h
      refine xs_i C hW KM_37 g2 dX12_beginCover_27 (fun H locs hW => ?_)
      cases h
      exact xr_v C hW dX12_beginCover_28
    · have h := xif c1 h
      refine lv_aload_n hx hb dX12_beginCover_8 rfl (lv_at hl 0 rfl) ?_
      refine xg_r C hW fg_12_124 KM_0 rfl dX12_beginCover_9 ?_
      refine lv_iload_n hx hb dX12_beginCover_12 rfl (lv_at hl 1 rfl) ?_
      refine lv_iconst (v := 0) hx hb dX12_beginCover_13 rfl ?_
      obtain ⟨g3, h⟩ := xgd h
      refine xs_i C hW KM_37 g3 dX12_beginCover_14 (fun H locs hW => ?_)
      refine lv_iinc (v := x1 + 1) (lv' := [(1, .int (x1 + 1)), (0, .ref (g.q 0))]) hx hb dX12_beginCover_15 hl (k := 1) rfl rfl (Nat.le_of_ble_eq_true rfl) rfl (fun ls hl => ?_)
      refine lv_goto (tgt := 2) hx hb dX12_beginCover_18 (by decide) ?_
      exact ih (x1 + 1) _ _ _ _ hW (lv_sub hl [1, 0] rfl) h
set_option maxRecDepth 4000 in
theorem m_X12_beginCover (N : Nat) (σ : St) {σ' : St} (h : f_X12_beginCover N σ = some σ') : xM l KM g yX12_beginCover cX12_beginCover 2 none rm_X12_beginCover [.ref (g.q 0)] σ none σ' := by
  refine xmet pn_X12 rfl (Nat.le_of_ble_eq_true rfl) (lv := [(0, .ref (g.q 0))]) rfl (fun p e s m args below meth c ls C hW hl => ?_)
  have hx := C.1
  have hb := C.2.1
  unfold f_X12_beginCover at h
  refine lv_iconst (v := 0) hx hb dX12_beginCover_0 rfl ?_
  refine lv_istore_n (lv' := [(1, .int 0), (0, .ref (g.q 0))]) hx hb dX12_beginCover_1 rfl hl (Nat.le_of_ble_eq_true rfl) rfl (fun ls hl => ?_)
  exact w_X12_beginCover_2 N C N 0 _ _ _ _ hW (lv_sub hl [1, 0] rfl) h
end
theorem dX12_coverOn_0 : decode cX12_coverOn 0 = .ok (.iconst 0, 1) := by decide +kernel
theorem dX12_coverOn_1 : decode cX12_coverOn 1 = .ok (.istore 4, 2) := by decide +kernel
theorem dX12_coverOn_3 : decode cX12_coverOn 3 = .ok (.iconst 0, 1) := by decide +kernel
theorem dX12_coverOn_4 : decode cX12_coverOn 4 = .ok (.istore 5, 2) := by decide +kernel
theorem dX12_coverOn_6 : decode cX12_coverOn 6 = .ok (.iload 5, 2) := by decide +kernel
theorem dX12_coverOn_8 : decode cX12_coverOn 8 = .ok (.bipush 18, 2) := by decide +kernel
theorem dX12_coverOn_10 : decode cX12_coverOn 10 = .ok (.if_icmp .ge 25, 3) := by decide +kernel
theorem dX12_coverOn_13 : decode cX12_coverOn 13 = .ok (.aload_n 0, 1) := by decide +kernel
theorem dX12_coverOn_14 : decode cX12_coverOn 14 = .ok (.getfield 124, 3) := by decide +kernel
theorem dX12_coverOn_17 : decode cX12_coverOn 17 = .ok (.bipush 18, 2) := by decide +kernel
theorem dX12_coverOn_19 : decode cX12_coverOn 19 = .ok (.iload_n 1, 1) := by decide +kernel
theorem dX12_coverOn_20 : decode cX12_coverOn 20 = .ok (.imul, 1) := by decide +kernel
theorem dX12_coverOn_21 : decode cX12_coverOn 21 = .ok (.bipush 18, 2) := by decide +kernel
theorem dX12_coverOn_23 : decode cX12_coverOn 23 = .ok (.iadd, 1) := by decide +kernel
theorem dX12_coverOn_24 : decode cX12_coverOn 24 = .ok (.iload 5, 2) := by decide +kernel
theorem dX12_coverOn_26 : decode cX12_coverOn 26 = .ok (.iadd, 1) := by decide +kernel
theorem dX12_coverOn_27 : decode cX12_coverOn 27 = .ok (.iconst 0, 1) := by decide +kernel
theorem dX12_coverOn_28 : decode cX12_coverOn 28 = .ok (.iastore, 1) := by decide +kernel
theorem dX12_coverOn_29 : decode cX12_coverOn 29 = .ok (.iinc 5 1, 3) := by decide +kernel
theorem dX12_coverOn_32 : decode cX12_coverOn 32 = .ok (.goto (-26), 3) := by decide +kernel
theorem dX12_coverOn_35 : decode cX12_coverOn 35 = .ok (.iconst 0, 1) := by decide +kernel
theorem dX12_coverOn_36 : decode cX12_coverOn 36 = .ok (.istore 5, 2) := by decide +kernel
theorem dX12_coverOn_38 : decode cX12_coverOn 38 = .ok (.iload 5, 2) := by decide +kernel
theorem dX12_coverOn_40 : decode cX12_coverOn 40 = .ok (.aload_n 0, 1) := by decide +kernel
theorem dX12_coverOn_41 : decode cX12_coverOn 41 = .ok (.getfield 106, 3) := by decide +kernel
theorem dX12_coverOn_44 : decode cX12_coverOn 44 = .ok (.iload_n 3, 1) := by decide +kernel
theorem dX12_coverOn_45 : decode cX12_coverOn 45 = .ok (.iaload, 1) := by decide +kernel
theorem dX12_coverOn_46 : decode cX12_coverOn 46 = .ok (.if_icmp .gt 206, 3) := by decide +kernel
theorem dX12_coverOn_49 : decode cX12_coverOn 49 = .ok (.aload_n 0, 1) := by decide +kernel
theorem dX12_coverOn_50 : decode cX12_coverOn 50 = .ok (.getfield 115, 3) := by decide +kernel
theorem dX12_coverOn_53 : decode cX12_coverOn 53 = .ok (.iload_n 2, 1) := by decide +kernel
theorem dX12_coverOn_54 : decode cX12_coverOn 54 = .ok (.iaload, 1) := by decide +kernel
theorem dX12_coverOn_55 : decode cX12_coverOn 55 = .ok (.iconst 1, 1) := by decide +kernel
theorem dX12_coverOn_56 : decode cX12_coverOn 56 = .ok (.if_icmp .ne 196, 3) := by decide +kernel
theorem dX12_coverOn_59 : decode cX12_coverOn 59 = .ok (.aload_n 0, 1) := by decide +kernel
theorem dX12_coverOn_60 : decode cX12_coverOn 60 = .ok (.getfield 124, 3) := by decide +kernel
theorem dX12_coverOn_63 : decode cX12_coverOn 63 = .ok (.bipush 18, 2) := by decide +kernel
theorem dX12_coverOn_65 : decode cX12_coverOn 65 = .ok (.iload_n 1, 1) := by decide +kernel
theorem dX12_coverOn_66 : decode cX12_coverOn 66 = .ok (.imul, 1) := by decide +kernel
theorem dX12_coverOn_67 : decode cX12_coverOn 67 = .ok (.iconst 2, 1) := by decide +kernel
theorem dX12_coverOn_68 : decode cX12_coverOn 68 = .ok (.iload 5, 2) := by decide +kernel
theorem dX12_coverOn_70 : decode cX12_coverOn 70 = .ok (.imul, 1) := by decide +kernel
theorem dX12_coverOn_71 : decode cX12_coverOn 71 = .ok (.iadd, 1) := by decide +kernel
theorem dX12_coverOn_72 : decode cX12_coverOn 72 = .ok (.iaload, 1) := by decide +kernel
theorem dX12_coverOn_73 : decode cX12_coverOn 73 = .ok (.aload_n 0, 1) := by decide +kernel
theorem dX12_coverOn_74 : decode cX12_coverOn 74 = .ok (.getfield 124, 3) := by decide +kernel
theorem dX12_coverOn_77 : decode cX12_coverOn 77 = .ok (.bipush 18, 2) := by decide +kernel
theorem dX12_coverOn_79 : decode cX12_coverOn 79 = .ok (.iload_n 1, 1) := by decide +kernel
theorem dX12_coverOn_80 : decode cX12_coverOn 80 = .ok (.imul, 1) := by decide +kernel
theorem dX12_coverOn_81 : decode cX12_coverOn 81 = .ok (.iconst 2, 1) := by decide +kernel
theorem dX12_coverOn_82 : decode cX12_coverOn 82 = .ok (.iload 5, 2) := by decide +kernel
theorem dX12_coverOn_84 : decode cX12_coverOn 84 = .ok (.imul, 1) := by decide +kernel
theorem dX12_coverOn_85 : decode cX12_coverOn 85 = .ok (.iadd, 1) := by decide +kernel
theorem dX12_coverOn_86 : decode cX12_coverOn 86 = .ok (.iconst 1, 1) := by decide +kernel
theorem dX12_coverOn_87 : decode cX12_coverOn 87 = .ok (.iadd, 1) := by decide +kernel
theorem dX12_coverOn_88 : decode cX12_coverOn 88 = .ok (.iaload, 1) := by decide +kernel
theorem dX12_coverOn_89 : decode cX12_coverOn 89 = .ok (.ior, 1) := by decide +kernel
theorem dX12_coverOn_90 : decode cX12_coverOn 90 = .ok (.istore 6, 2) := by decide +kernel
theorem dX12_coverOn_92 : decode cX12_coverOn 92 = .ok (.iload 6, 2) := by decide +kernel
theorem dX12_coverOn_94 : decode cX12_coverOn 94 = .ok (.ifCond .eq 59, 3) := by decide +kernel
theorem dX12_coverOn_97 : decode cX12_coverOn 97 = .ok (.aload_n 0, 1) := by decide +kernel
theorem dX12_coverOn_98 : decode cX12_coverOn 98 = .ok (.iload_n 2, 1) := by decide +kernel
theorem dX12_coverOn_99 : decode cX12_coverOn 99 = .ok (.iload_n 3, 1) := by decide +kernel
theorem dX12_coverOn_100 : decode cX12_coverOn 100 = .ok (.iload 5, 2) := by decide +kernel
theorem dX12_coverOn_102 : decode cX12_coverOn 102 = .ok (.invokevirtual 414, 3) := by decide +kernel
theorem dX12_coverOn_105 : decode cX12_coverOn 105 = .ok (.ifCond .eq 48, 3) := by decide +kernel
theorem dX12_coverOn_108 : decode cX12_coverOn 108 = .ok (.aload_n 0, 1) := by decide +kernel
theorem dX12_coverOn_109 : decode cX12_coverOn 109 = .ok (.getfield 124, 3) := by decide +kernel
theorem dX12_coverOn_112 : decode cX12_coverOn 112 = .ok (.bipush 18, 2) := by decide +kernel
theorem dX12_coverOn_114 : decode cX12_coverOn 114 = .ok (.iload_n 1, 1) := by decide +kernel
theorem dX12_coverOn_115 : decode cX12_coverOn 115 = .ok (.imul, 1) := by decide +kernel
theorem dX12_coverOn_116 : decode cX12_coverOn 116 = .ok (.bipush 18, 2) := by decide +kernel
theorem dX12_coverOn_118 : decode cX12_coverOn 118 = .ok (.iadd, 1) := by decide +kernel
theorem dX12_coverOn_119 : decode cX12_coverOn 119 = .ok (.iconst 2, 1) := by decide +kernel
theorem dX12_coverOn_120 : decode cX12_coverOn 120 = .ok (.iload 5, 2) := by decide +kernel
theorem dX12_coverOn_122 : decode cX12_coverOn 122 = .ok (.aload_n 0, 1) := by decide +kernel
theorem dX12_coverOn_123 : decode cX12_coverOn 123 = .ok (.getfield 118, 3) := by decide +kernel
theorem dX12_coverOn_126 : decode cX12_coverOn 126 = .ok (.iload_n 2, 1) := by decide +kernel
theorem dX12_coverOn_127 : decode cX12_coverOn 127 = .ok (.iaload, 1) := by decide +kernel
theorem dX12_coverOn_128 : decode cX12_coverOn 128 = .ok (.iadd, 1) := by decide +kernel
theorem dX12_coverOn_129 : decode cX12_coverOn 129 = .ok (.imul, 1) := by decide +kernel
theorem dX12_coverOn_130 : decode cX12_coverOn 130 = .ok (.iadd, 1) := by decide +kernel
theorem dX12_coverOn_131 : decode cX12_coverOn 131 = .ok (.aload_n 0, 1) := by decide +kernel
theorem dX12_coverOn_132 : decode cX12_coverOn 132 = .ok (.getfield 118, 3) := by decide +kernel
theorem dX12_coverOn_135 : decode cX12_coverOn 135 = .ok (.iload_n 2, 1) := by decide +kernel
theorem dX12_coverOn_136 : decode cX12_coverOn 136 = .ok (.iaload, 1) := by decide +kernel
theorem dX12_coverOn_137 : decode cX12_coverOn 137 = .ok (.iconst 1, 1) := by decide +kernel
theorem dX12_coverOn_138 : decode cX12_coverOn 138 = .ok (.if_icmp .le 7, 3) := by decide +kernel
theorem dX12_coverOn_141 : decode cX12_coverOn 141 = .ok (.iconst 1, 1) := by decide +kernel
theorem dX12_coverOn_142 : decode cX12_coverOn 142 = .ok (.goto 4, 3) := by decide +kernel
theorem dX12_coverOn_145 : decode cX12_coverOn 145 = .ok (.iconst 0, 1) := by decide +kernel
theorem dX12_coverOn_146 : decode cX12_coverOn 146 = .ok (.iadd, 1) := by decide +kernel
theorem dX12_coverOn_147 : decode cX12_coverOn 147 = .ok (.dup2, 1) := by decide +kernel
theorem dX12_coverOn_148 : decode cX12_coverOn 148 = .ok (.iaload, 1) := by decide +kernel
theorem dX12_coverOn_149 : decode cX12_coverOn 149 = .ok (.iload 6, 2) := by decide +kernel
theorem dX12_coverOn_151 : decode cX12_coverOn 151 = .ok (.ior, 1) := by decide +kernel
theorem dX12_coverOn_152 : decode cX12_coverOn 152 = .ok (.iastore, 1) := by decide +kernel
theorem dX12_coverOn_153 : decode cX12_coverOn 153 = .ok (.aload_n 0, 1) := by decide +kernel
theorem dX12_coverOn_154 : decode cX12_coverOn 154 = .ok (.getfield 124, 3) := by decide +kernel
theorem dX12_coverOn_157 : decode cX12_coverOn 157 = .ok (.bipush 18, 2) := by decide +kernel
theorem dX12_coverOn_159 : decode cX12_coverOn 159 = .ok (.iload_n 1, 1) := by decide +kernel
theorem dX12_coverOn_160 : decode cX12_coverOn 160 = .ok (.imul, 1) := by decide +kernel
theorem dX12_coverOn_161 : decode cX12_coverOn 161 = .ok (.iconst 2, 1) := by decide +kernel
theorem dX12_coverOn_162 : decode cX12_coverOn 162 = .ok (.iload 5, 2) := by decide +kernel
theorem dX12_coverOn_164 : decode cX12_coverOn 164 = .ok (.imul, 1) := by decide +kernel
theorem dX12_coverOn_165 : decode cX12_coverOn 165 = .ok (.iadd, 1) := by decide +kernel
theorem dX12_coverOn_166 : decode cX12_coverOn 166 = .ok (.iconst 1, 1) := by decide +kernel
theorem dX12_coverOn_167 : decode cX12_coverOn 167 = .ok (.iadd, 1) := by decide +kernel
theorem dX12_coverOn_168 : decode cX12_coverOn 168 = .ok (.iaload, 1) := by decide +kernel
theorem dX12_coverOn_169 : decode cX12_coverOn 169 = .ok (.istore 7, 2) := by decide +kernel
theorem dX12_coverOn_171 : decode cX12_coverOn 171 = .ok (.iload 7, 2) := by decide +kernel
theorem dX12_coverOn_173 : decode cX12_coverOn 173 = .ok (.ifCond .eq 73, 3) := by decide +kernel
theorem dX12_coverOn_176 : decode cX12_coverOn 176 = .ok (.aload_n 0, 1) := by decide +kernel
theorem dX12_coverOn_177 : decode cX12_coverOn 177 = .ok (.getfield 118, 3) := by decide +kernel
theorem dX12_coverOn_180 : decode cX12_coverOn 180 = .ok (.iload_n 2, 1) := by decide +kernel
theorem dX12_coverOn_181 : decode cX12_coverOn 181 = .ok (.iaload, 1) := by decide +kernel
theorem dX12_coverOn_182 : decode cX12_coverOn 182 = .ok (.iconst 1, 1) := by decide +kernel
theorem dX12_coverOn_183 : decode cX12_coverOn 183 = .ok (.if_icmp .ne 63, 3) := by decide +kernel
theorem dX12_coverOn_186 : decode cX12_coverOn 186 = .ok (.aload_n 0, 1) := by decide +kernel
theorem dX12_coverOn_187 : decode cX12_coverOn 187 = .ok (.getfield 121, 3) := by decide +kernel
theorem dX12_coverOn_190 : decode cX12_coverOn 190 = .ok (.iconst 3, 1) := by decide +kernel
theorem dX12_coverOn_191 : decode cX12_coverOn 191 = .ok (.iload_n 2, 1) := by decide +kernel
theorem dX12_coverOn_192 : decode cX12_coverOn 192 = .ok (.imul, 1) := by decide +kernel
theorem dX12_coverOn_193 : decode cX12_coverOn 193 = .ok (.iaload, 1) := by decide +kernel
theorem dX12_coverOn_194 : decode cX12_coverOn 194 = .ok (.aload_n 0, 1) := by decide +kernel
theorem dX12_coverOn_195 : decode cX12_coverOn 195 = .ok (.getfield 109, 3) := by decide +kernel
theorem dX12_coverOn_198 : decode cX12_coverOn 198 = .ok (.bipush 8, 2) := by decide +kernel
theorem dX12_coverOn_200 : decode cX12_coverOn 200 = .ok (.iload_n 3, 1) := by decide +kernel
theorem dX12_coverOn_201 : decode cX12_coverOn 201 = .ok (.imul, 1) := by decide +kernel
theorem dX12_coverOn_202 : decode cX12_coverOn 202 = .ok (.iload 5, 2) := by decide +kernel
theorem dX12_coverOn_204 : decode cX12_coverOn 204 = .ok (.iadd, 1) := by decide +kernel
theorem dX12_coverOn_205 : decode cX12_coverOn 205 = .ok (.iconst 1, 1) := by decide +kernel
theorem dX12_coverOn_206 : decode cX12_coverOn 206 = .ok (.isub, 1) := by decide +kernel
theorem dX12_coverOn_207 : decode cX12_coverOn 207 = .ok (.iaload, 1) := by decide +kernel
theorem dX12_coverOn_208 : decode cX12_coverOn 208 = .ok (.if_icmp .ne 38, 3) := by decide +kernel
theorem dX12_coverOn_211 : decode cX12_coverOn 211 = .ok (.aload_n 0, 1) := by decide +kernel
theorem dX12_coverOn_212 : decode cX12_coverOn 212 = .ok (.getfield 124, 3) := by decide +kernel
theorem dX12_coverOn_215 : decode cX12_coverOn 215 = .ok (.bipush 18, 2) := by decide +kernel
theorem dX12_coverOn_217 : decode cX12_coverOn 217 = .ok (.iload_n 1, 1) := by decide +kernel
theorem dX12_coverOn_218 : decode cX12_coverOn 218 = .ok (.imul, 1) := by decide +kernel
theorem dX12_coverOn_219 : decode cX12_coverOn 219 = .ok (.bipush 18, 2) := by decide +kernel
theorem dX12_coverOn_221 : decode cX12_coverOn 221 = .ok (.iadd, 1) := by decide +kernel
theorem dX12_coverOn_222 : decode cX12_coverOn 222 = .ok (.iconst 2, 1) := by decide +kernel
theorem dX12_coverOn_223 : decode cX12_coverOn 223 = .ok (.iload 5, 2) := by decide +kernel
theorem dX12_coverOn_225 : decode cX12_coverOn 225 = .ok (.imul, 1) := by decide +kernel
theorem dX12_coverOn_226 : decode cX12_coverOn 226 = .ok (.iadd, 1) := by decide +kernel
theorem dX12_coverOn_227 : decode cX12_coverOn 227 = .ok (.dup2, 1) := by decide +kernel
theorem dX12_coverOn_228 : decode cX12_coverOn 228 = .ok (.iaload, 1) := by decide +kernel
theorem dX12_coverOn_229 : decode cX12_coverOn 229 = .ok (.iload 7, 2) := by decide +kernel
theorem dX12_coverOn_231 : decode cX12_coverOn 231 = .ok (.iconst 1, 1) := by decide +kernel
theorem dX12_coverOn_232 : decode cX12_coverOn 232 = .ok (.ishl, 1) := by decide +kernel
theorem dX12_coverOn_233 : decode cX12_coverOn 233 = .ok (.iconst 2, 1) := by decide +kernel
theorem dX12_coverOn_234 : decode cX12_coverOn 234 = .ok (.aload_n 0, 1) := by decide +kernel
theorem dX12_coverOn_235 : decode cX12_coverOn 235 = .ok (.getfield 17, 3) := by decide +kernel
theorem dX12_coverOn_238 : decode cX12_coverOn 238 = .ok (.iconst 3, 1) := by decide +kernel
theorem dX12_coverOn_239 : decode cX12_coverOn 239 = .ok (.iaload, 1) := by decide +kernel
theorem dX12_coverOn_240 : decode cX12_coverOn 240 = .ok (.ishl, 1) := by decide +kernel
theorem dX12_coverOn_241 : decode cX12_coverOn 241 = .ok (.iconst 1, 1) := by decide +kernel
theorem dX12_coverOn_242 : decode cX12_coverOn 242 = .ok (.isub, 1) := by decide +kernel
theorem dX12_coverOn_243 : decode cX12_coverOn 243 = .ok (.iand, 1) := by decide +kernel
theorem dX12_coverOn_244 : decode cX12_coverOn 244 = .ok (.ior, 1) := by decide +kernel
theorem dX12_coverOn_245 : decode cX12_coverOn 245 = .ok (.iastore, 1) := by decide +kernel
theorem dX12_coverOn_246 : decode cX12_coverOn 246 = .ok (.iinc 5 1, 3) := by decide +kernel
theorem dX12_coverOn_249 : decode cX12_coverOn 249 = .ok (.goto (-211), 3) := by decide +kernel
theorem dX12_coverOn_252 : decode cX12_coverOn 252 = .ok (.iconst 0, 1) := by decide +kernel
theorem dX12_coverOn_253 : decode cX12_coverOn 253 = .ok (.istore 5, 2) := by decide +kernel
theorem dX12_coverOn_255 : decode cX12_coverOn 255 = .ok (.iload 5, 2) := by decide +kernel
theorem dX12_coverOn_257 : decode cX12_coverOn 257 = .ok (.bipush 18, 2) := by decide +kernel
theorem dX12_coverOn_259 : decode cX12_coverOn 259 = .ok (.if_icmp .ge 29, 3) := by decide +kernel
theorem dX12_coverOn_262 : decode cX12_coverOn 262 = .ok (.iload 4, 2) := by decide +kernel
theorem dX12_coverOn_264 : decode cX12_coverOn 264 = .ok (.aload_n 0, 1) := by decide +kernel
theorem dX12_coverOn_265 : decode cX12_coverOn 265 = .ok (.getfield 124, 3) := by decide +kernel
theorem dX12_coverOn_268 : decode cX12_coverOn 268 = .ok (.bipush 18, 2) := by decide +kernel
theorem dX12_coverOn_270 : decode cX12_coverOn 270 = .ok (.iload_n 1, 1) := by decide +kernel
theorem dX12_coverOn_271 : decode cX12_coverOn 271 = .ok (.imul, 1) := by decide +kernel
theorem dX12_coverOn_272 : decode cX12_coverOn 272 = .ok (.bipush 18, 2) := by decide +kernel
theorem dX12_coverOn_274 : decode cX12_coverOn 274 = .ok (.iadd, 1) := by decide +kernel
theorem dX12_coverOn_275 : decode cX12_coverOn 275 = .ok (.iload 5, 2) := by decide +kernel
theorem dX12_coverOn_277 : decode cX12_coverOn 277 = .ok (.iadd, 1) := by decide +kernel
theorem dX12_coverOn_278 : decode cX12_coverOn 278 = .ok (.iaload, 1) := by decide +kernel
theorem dX12_coverOn_279 : decode cX12_coverOn 279 = .ok (.ior, 1) := by decide +kernel
theorem dX12_coverOn_280 : decode cX12_coverOn 280 = .ok (.istore 4, 2) := by decide +kernel
theorem dX12_coverOn_282 : decode cX12_coverOn 282 = .ok (.iinc 5 1, 3) := by decide +kernel
theorem dX12_coverOn_285 : decode cX12_coverOn 285 = .ok (.goto (-30), 3) := by decide +kernel
theorem dX12_coverOn_288 : decode cX12_coverOn 288 = .ok (.iload 4, 2) := by decide +kernel
theorem dX12_coverOn_290 : decode cX12_coverOn 290 = .ok (.ifCond .eq 7, 3) := by decide +kernel
theorem dX12_coverOn_293 : decode cX12_coverOn 293 = .ok (.iconst 1, 1) := by decide +kernel
theorem dX12_coverOn_294 : decode cX12_coverOn 294 = .ok (.goto 4, 3) := by decide +kernel
theorem dX12_coverOn_297 : decode cX12_coverOn 297 = .ok (.iconst 0, 1) := by decide +kernel
theorem dX12_coverOn_298 : decode cX12_coverOn 298 = .ok (.ireturn, 1) := by decide +kernel
abbrev rm_X12_coverOn : Room := { frames := 1, cells := 0, slots := 0, locals := 24 }
def f_X12_coverOn_153 (N : Nat) (k38 : Int32 → Int32 → Int32 → Int32 → Int32 → St → Option (Int32 × St)) (x1 : Int32) (x2 : Int32) (x3 : Int32) (x4 : Int32) (x5 : Int32) (σ : St) : Option (Int32 × St) := grd (ib (((18 * x1) + (2 * x5)) + 1) 234) ((if (σ.1 37 (((18 * x1) + (2 * x5)) + 1).toNatClampNeg) = 0 then k38 x1 x2 x3 x4 (x5 + 1) σ else grd (ib x2 40) ((if (σ.1 35 x2.toNatClampNeg) = 1 then grd (ib (3 * x2) 120) (grd (ib (((8 * x3) + x5) - 1) 320) ((if (σ.1 36 (3 * x2).toNatClampNeg) = (σ.1 32 (((8 * x3) + x5) - 1).toNatClampNeg) then grd (ib (((18 * x1) + 18) + (2 * x5)) 234) (grd (ib 3 8) (grd (ib (((18 * x1) + 18) + (2 * x5)) 234) (k38 x1 x2 x3 x4 (x5 + 1) (si σ 37 (((18 * x1) + 18) + (2 * x5)).toNatClampNeg ((σ.1 37 (((18 * x1) + 18) + (2 * x5)).toNatClampNeg) ||| (((σ.1 37 (((18 * x1) + (2 * x5)) + 1).toNatClampNeg) <<< (1 &&& 31)) &&& ((2 <<< ((σ.1 2 3) &&& 31)) - 1))))))) else k38 x1 x2 x3 x4 (x5 + 1) σ))) else k38 x1 x2 x3 x4 (x5 + 1) σ))))
def f_X12_coverOn_146 (N : Nat) (k38 : Int32 → Int32 → Int32 → Int32 → Int32 → St → Option (Int32 × St)) (x1 : Int32) (x2 : Int32) (x3 : Int32) (x4 : Int32) (x5 : Int32) (x6 : Int32) (t1 : Int32) (t2 : Int32) (σ : St) : Option (Int32 × St) := grd (ib (t1 + t2) 234) (grd (ib (t1 + t2) 234) (f_X12_coverOn_153 N k38 x1 x2 x3 x4 x5 (si σ 37 (t1 + t2).toNatClampNeg ((σ.1 37 (t1 + t2).toNatClampNeg) ||| x6))))
def f_X12_coverOn_255 (N : Nat) : Nat → Int32 → Int32 → Int32 → St → Option (Int32 × St)
  | 0, _, _, _, _ => none
  | n + 1, x1, x4, x5, σ => (if 18 ≤ x5 then (if x4 = 0 then some (0, σ) else some (1, σ)) else grd (ib (((18 * x1) + 18) + x5) 234) (f_X12_coverOn_255 N n x1 (x4 ||| (σ.1 37 (((18 * x1) + 18) + x5).toNatClampNeg)) (x5 + 1) σ))
def f_X12_coverOn_38 (N : Nat) : Nat → Int32 → Int32 → Int32 → Int32 → Int32 → St → Option (Int32 × St)
  | 0, _, _, _, _, _, _ => none
  | n + 1, x1, x2, x3, x4, x5, σ => grd (ib x3 40) ((if (σ.1 31 x3.toNatClampNeg) < x5 then f_X12_coverOn_255 N N x1 x4 0 σ else grd (ib x2 40) ((if (σ.1 34 x2.toNatClampNeg) = 1 then grd (ib ((18 * x1) + (2 * x5)) 234) (grd (ib (((18 * x1) + (2 * x5)) + 1) 234) ((if ((σ.1 37 ((18 * x1) + (2 * x5)).toNatClampNeg) ||| (σ.1 37 (((18 * x1) + (2 * x5)) + 1).toNatClampNeg)) = 0 then f_X12_coverOn_153 N (f_X12_coverOn_38 N n) x1 x2 x3 x4 x5 σ else bo (f_X12_isAt N x2 x3 x5 σ) (fun r10_ => (if r10_ = 0 then f_X12_coverOn_153 N (f_X12_coverOn_38 N n) x1 x2 x3 x4 x5 σ else grd (ib x2 40) (grd (ib x2 40) ((if (σ.1 35 x2.toNatClampNeg) ≤ 1 then f_X12_coverOn_146 N (f_X12_coverOn_38 N n) x1 x2 x3 x4 x5 ((σ.1 37 ((18 * x1) + (2 * x5)).toNatClampNeg) ||| (σ.1 37 (((18 * x1) + (2 * x5)) + 1).toNatClampNeg)) (((18 * x1) + 18) + (2 * (x5 + (σ.1 35 x2.toNatClampNeg)))) 0 σ else f_X12_coverOn_146 N (f_X12_coverOn_38 N n) x1 x2 x3 x4 x5 ((σ.1 37 ((18 * x1) + (2 * x5)).toNatClampNeg) ||| (σ.1 37 (((18 * x1) + (2 * x5)) + 1).toNatClampNeg)) (((18 * x1) + 18) + (2 * (x5 + (σ.1 35 x2.toNatClampNeg)))) 1 σ)))))))) else f_X12_coverOn_255 N N x1 x4 0 σ))))
def f_X12_coverOn_6 (N : Nat) : Nat → Int32 → Int32 → Int32 → Int32 → Int32 → St → Option (Int32 × St)
  | 0, _, _, _, _, _, _ => none
  | n + 1, x1, x2, x3, x4, x5, σ => (if 18 ≤ x5 then f_X12_coverOn_38 N N x1 x2 x3 x4 0 σ else grd (ib (((18 * x1) + 18) + x5) 234) (f_X12_coverOn_6 N n x1 x2 x3 x4 (x5 + 1) (si σ 37 (((18 * x1) + 18) + x5).toNatClampNeg 0)))
def f_X12_coverOn (N : Nat) (x1 : Int32) (x2 : Int32) (x3 : Int32) (σ : St) : Option (Int32 × St) := f_X12_coverOn_6 N N x1 x2 x3 0 0 σ
section
variable {p : Program} {l : Launch} {e : Env} {s : State} {m : MethodId} {args : Array Value} {below : List Frame} {meth : Method} {c : Code} {g : XG}
set_option maxRecDepth 4000 in
theorem w_X12_coverOn_153 (N : Nat) (k38 : Int32 → Int32 → Int32 → Int32 → Int32 → St → Option (Int32 × St)) {r : Int32} {σ' : St} (C : xC KM g RX12 cX12_coverOn 8 (some .boolean) p s m args meth c) (hk38 : ∀ (x1 : Int32) (x2 : Int32) (x3 : Int32) (x4 : Int32) (x5 : Int32) (σ : St) (H : Heap) (locs : List Loc) (ls : Array Slot), xW KM g s σ H locs → lv_has ls 8 [(0, .ref (g.q 0)), (1, .int x1), (2, .int x2), (3, .int x3), (4, .int x4), (5, .int x5)] → k38 x1 x2 x3 x4 x5 σ = some (r, σ') → W p l e rm_X12_coverOn s m args below meth c H locs 0 0 (MQ below (xPost KM g (some (.int r)) σ') args s 0 0 (xA KM g.q)) (F0 m 38 ls [])) : ∀ (x1 : Int32) (x2 : Int32) (x3 : Int32) (x4 : Int32) (x5 : Int32) (σ : St) (H : Heap) (locs : List Loc) (ls : Array Slot), xW KM g s σ H locs → lv_has ls 8 [(0, .ref (g.q 0)), (1, .int x1), (2, .int x2), (3, .int x3), (4, .int x4), (5, .int x5)] → f_X12_coverOn_153 N k38 x1 x2 x3 x4 x5 σ = some (r, σ') → W p l e rm_X12_coverOn s m args below meth c H locs 0 0 (MQ below (xPost KM g (some (.int r)) σ') args s 0 0 (xA KM g.q)) (F0 m 153 ls []) := by
  have hx := C.1
  have hb := C.2.1
  intro x1 x2 x3 x4 x5 σ H locs ls hW hl h
  unfold f_X12_coverOn_153 at h
  refine lv_aload_n hx hb dX12_coverOn_153 rfl (lv_at hl 0 rfl) ?_
  refine xg_r C hW fg_12_124 KM_0 rfl dX12_coverOn_154 ?_
  refine lv_bipush (v := 18) hx hb dX12_coverOn_157 rfl ?_
  refine lv_iload_n hx hb dX12_coverOn_159 rfl (lv_at hl 1 rfl) ?_
  refine lv_imul hx hb dX12_coverOn_160 ?_
  refine lv_iconst (v := 2) hx hb dX12_coverOn_161 rfl ?_
  refine lv_iload hx hb dX12_coverOn_162 (lv_at hl 5 rfl) ?_
  refine lv_imul hx hb dX12_coverOn_164 ?_
  refine lv_iadd hx hb dX12_coverOn_165 ?_
  refine lv_iconst (v := 1) hx hb dX12_coverOn_166 rfl ?_
  refine lv_iadd hx hb dX12_coverOn_167 ?_
  obtain ⟨g17, h⟩ := xgd h
  refine xa_i C hW KM_37 g17 (x := σ.1 37 (((18 * x1) + (2 * x5)) + 1).toNatClampNeg) rfl dX12_coverOn_168 ?_
  refine lv_istore (lv' := [(7, .int (σ.1 37 (((18 * x1) + (2 * x5)) + 1).toNatClampNeg)), (0, .ref (g.q 0)), (1, .int x1), (2, .int x2), (3, .int x3), (4, .int x4), (5, .int x5)]) hx hb dX12_coverOn_169 hl (Nat.le_of_ble_eq_true rfl) rfl (fun ls hl => ?_)
  refine lv_iload hx hb dX12_coverOn_171 (lv_at hl 0 rfl) ?_
  refine lv_if_eq (tgt := 246) hx hb dX12_coverOn_173 (by decide) (fun c18 => ?_) (fun c18 => ?_)
  · have h := xit c18 h
    refine lv_iinc (v := x5 + 1) (lv' := [(5, .int (x5 + 1)), (7, .int (σ.1 37 (((18 * x1) + (2 * x5)) + 1).toNatClampNeg)), (0, .ref (g.q 0)), (1, .int x1), (2, .int x2), (3, .int x3), (4, .int x4)]) hx hb dX12_coverOn_246 hl (k := 6) rfl rfl (Nat.le_of_ble_eq_true rfl) rfl (fun ls hl => ?_)
    refine lv_goto (tgt := 38) hx hb dX12_coverOn_249 (by decide) ?_
    exact hk38 x1 x2 x3 x4 (x5 + 1) _ _ _ _ hW (lv_sub hl [2, 3, 4, 5, 6, 0] rfl) h
  · have h := xif c18 h
    refine lv_aload_n hx hb dX12_coverOn_176 rfl (lv_at hl 1 rfl) ?_
    refine xg_r C hW fg_12_118 KM_0 rfl dX12_coverOn_177 ?_
    refine lv_iload_n hx hb dX12_coverOn_180 rfl (lv_at hl 3 rfl) ?_
    obtain ⟨g19, h⟩ := xgd h
    refine xa_i C hW KM_35 g19 (x := σ.1 35 x2.toNatClampNeg) rfl dX12_coverOn_181 ?_
    refine lv_iconst (v := 1) hx hb dX12_coverOn_182 rfl ?_
    refine lv_icmp_ne (tgt := 246) hx hb dX12_coverOn_183 (by decide) (fun c20 => ?_) (fun c20 => ?_)
    · have h := xif c20 h
      refine lv_iinc (v := x5 + 1) (lv' := [(5, .int (x5 + 1)), (7, .int (σ.1 37 (((18 * x1) + (2 * x5)) + 1).toNatClampNeg)), (0, .ref (g.q 0)), (1, .int x1), (2, .int x2), (3, .int x3), (4, .int x4)]) hx hb dX12_coverOn_246 hl (k := 6) rfl rfl (Nat.le_of_ble_eq_true rfl) rfl (fun ls hl => ?_)
      refine lv_goto (tgt := 38) hx hb dX12_coverOn_249 (by decide) ?_
      exact hk38 x1 x2 x3 x4 (x5 + 1) _ _ _ _ hW (lv_sub hl [2, 3, 4, 5, 6, 0] rfl) h
    · have h := xit c20 h
      refine lv_aload_n hx hb dX12_coverOn_186 rfl (lv_at hl 1 rfl) ?_
      refine xg_r C hW fg_12_121 KM_0 rfl dX12_coverOn_187 ?_
      refine lv_iconst (v := 3) hx hb dX12_coverOn_190 rfl ?_
      refine lv_iload_n hx hb dX12_coverOn_191 rfl (lv_at hl 3 rfl) ?_
      refine lv_imul hx hb dX12_coverOn_192 ?_
      obtain ⟨g21, h⟩ := xgd h
      refine xa_i C hW KM_36 g21 (x := σ.1 36 (3 * x2).toNatClampNeg) rfl dX12_coverOn_193 ?_
      refine lv_aload_n hx hb dX12_coverOn_194 rfl (lv_at hl 1 rfl) ?_
      refine xg_r C hW fg_12_109 KM_0 rfl dX12_coverOn_195 ?_
      refine lv_bipush (v := 8) hx hb dX12_coverOn_198 rfl ?_
      refine lv_iload_n hx hb dX12_coverOn_200 rfl (lv_at hl 4 rfl) ?_
      refine lv_imul hx hb dX12_coverOn_201 ?_
      refine lv_iload hx hb dX12_coverOn_202 (lv_at hl 6 rfl) ?_
      refine lv_iadd hx hb dX12_coverOn_204 ?_
      refine lv_iconst (v := 1) hx hb dX12_coverOn_205 rfl ?_
      refine lv_isub hx hb dX12_coverOn_206 ?_
      obtain ⟨g22, h⟩ := xgd h
      refine xa_i C hW KM_32 g22 (x := σ.1 32 (((8 * x3) + x5) - 1).toNatClampNeg) rfl dX12_coverOn_207 ?_
      refine lv_icmp_ne (tgt := 246) hx hb dX12_coverOn_208 (by decide) (fun c23 => ?_) (fun c23 => ?_)
      · have h := xif c23 h
        refine lv_iinc (v := x5 + 1) (lv' := [(5, .int (x5 + 1)), (7, .int (σ.1 37 (((18 * x1) + (2 * x5)) + 1).toNatClampNeg)), (0, .ref (g.q 0)), (1, .int x1), (2, .int x2), (3, .int x3), (4, .int x4)]) hx hb dX12_coverOn_246 hl (k := 6) rfl rfl (Nat.le_of_ble_eq_true rfl) rfl (fun ls hl => ?_)
        refine lv_goto (tgt := 38) hx hb dX12_coverOn_249 (by decide) ?_
        exact hk38 x1 x2 x3 x4 (x5 + 1) _ _ _ _ hW (lv_sub hl [2, 3, 4, 5, 6, 0] rfl) h
      · have h := xit c23 h
        refine lv_aload_n hx hb dX12_coverOn_211 rfl (lv_at hl 1 rfl) ?_
        refine xg_r C hW fg_12_124 KM_0 rfl dX12_coverOn_212 ?_
        refine lv_bipush (v := 18) hx hb dX12_coverOn_215 rfl ?_
        refine lv_iload_n hx hb dX12_coverOn_217 rfl (lv_at hl 2 rfl) ?_
        refine lv_imul hx hb dX12_coverOn_218 ?_
        refine lv_bipush (v := 18) hx hb dX12_coverOn_219 rfl ?_
        refine lv_iadd hx hb dX12_coverOn_221 ?_
        refine lv_iconst (v := 2) hx hb dX12_coverOn_222 rfl ?_
        refine lv_iload hx hb dX12_coverOn_223 (lv_at hl 6 rfl) ?_
        refine lv_imul hx hb dX12_coverOn_225 ?_
        refine lv_iadd hx hb dX12_coverOn_226 ?_
        refine lv_dup2_11 hx hb dX12_coverOn_227 rfl rfl ?_
        obtain ⟨g24, h⟩ := xgd h
        refine xa_i C hW KM_37 g24 (x := σ.1 37 (((18 * x1) + 18) + (2 * x5)).toNatClampNeg) rfl dX12_coverOn_228 ?_
        refine lv_iload hx hb dX12_coverOn_229 (lv_at hl 0 rfl) ?_
        refine lv_iconst (v := 1) hx hb dX12_coverOn_231 rfl ?_
        refine lv_ishl hx hb dX12_coverOn_232 ?_
        refine lv_iconst (v := 2) hx hb dX12_coverOn_233 rfl ?_
        refine lv_aload_n hx hb dX12_coverOn_234 rfl (lv_at hl 1 rfl) ?_
        refine xg_r C hW fg_12_17 KM_0 rfl dX12_coverOn_235 ?_
        refine lv_iconst (v := 3) hx hb dX12_coverOn_238 rfl ?_
        obtain ⟨g25, h⟩ := xgd h
        refine xa_i C hW KM_2 g25 (x := σ.1 2 3) rfl dX12_coverOn_239 ?_
        refine lv_ishl hx hb dX12_coverOn_240 ?_
        refine lv_iconst (v := 1) hx hb dX12_coverOn_241 rfl ?_
        refine lv_isub hx hb dX12_coverOn_242 ?_
        refine lv_iand hx hb dX12_coverOn_243 ?_
        refine lv_ior hx hb dX12_coverOn_244 ?_
        obtain ⟨g26, h⟩ := xgd h
        refine xs_i C hW KM_37 g26 dX12_coverOn_245 (fun H locs hW => ?_)
        refine lv_iinc (v := x5 + 1) (lv' := [(5, .int (x5 + 1)), (7, .int (σ.1 37 (((18 * x1) + (2 * x5)) + 1).toNatClampNeg)), (0, .ref (g.q 0)), (1, .int x1), (2, .int x2), (3, .int x3), (4, .int x4)]) hx hb dX12_coverOn_246 hl (k := 6) rfl rfl (Nat.le_of_ble_eq_true rfl) rfl (fun ls hl => ?_)
        refine lv_goto (tgt := 38) hx hb dX12_coverOn_249 (by decide) ?_
        exact hk38 x1 x2 x3 x4 (x5 + 1) _ _ _ _ hW (lv_sub hl [2, 3, 4, 5, 6, 0] rfl) h
set_option maxRecDepth 4000 in
theorem w_X12_coverOn_146 (N : Nat) (k38 : Int32 → Int32 → Int32 → Int32 → Int32 → St → Option (Int32 × St)) {r : Int32} {σ' : St} (C : xC KM g RX12 cX12_coverOn 8 (some .boolean) p s m args meth c) (hk38 : ∀ (x1 : Int32) (x2 : Int32) (x3 : Int32) (x4 : Int32) (x5 : Int32) (σ : St) (H : Heap) (locs : List Loc) (ls : Array Slot), xW KM g s σ H locs → lv_has ls 8 [(0, .ref (g.q 0)), (1, .int x1), (2, .int x2), (3, .int x3), (4, .int x4), (5, .int x5)] → k38 x1 x2 x3 x4 x5 σ = some (r, σ') → W p l e rm_X12_coverOn s m args below meth c H locs 0 0 (MQ below (xPost KM g (some (.int r)) σ') args s 0 0 (xA KM g.q)) (F0 m 38 ls [])) : ∀ (x1 : Int32) (x2 : Int32) (x3 : Int32) (x4 : Int32) (x5 : Int32) (x6 : Int32) (t1 : Int32) (t2 : Int32) (σ : St) (H : Heap) (locs : List Loc) (ls : Array Slot), xW KM g s σ H locs → lv_has ls 8 [(0, .ref (g.q 0)), (1, .int x1), (2, .int x2), (3, .int x3), (4, .int x4), (5, .int x5), (6, .int x6)] → f_X12_coverOn_146 N k38 x1 x2 x3 x4 x5 x6 t1 t2 σ = some (r, σ') → W p l e rm_X12_coverOn s m args below meth c H locs 0 0 (MQ below (xPost KM g (some (.int r)) σ') args s 0 0 (xA KM g.q)) (F0 m 146 ls [.int t2, .int t1, .ref (g.q 37)]) := by
  have hx := C.1
  have hb := C.2.1
  intro x1 x2 x3 x4 x5 x6 t1 t2 σ H locs ls hW hl h
  unfold f_X12_coverOn_146 at h
  refine lv_iadd hx hb dX12_coverOn_146 ?_
  refine lv_dup2_11 hx hb dX12_coverOn_147 rfl rfl ?_
  obtain ⟨g15, h⟩ := xgd h
  refine xa_i C hW KM_37 g15 (x := σ.1 37 (t1 + t2).toNatClampNeg) rfl dX12_coverOn_148 ?_
  refine lv_iload hx hb dX12_coverOn_149 (lv_at hl 6 rfl) ?_
  refine lv_ior hx hb dX12_coverOn_151 ?_
  obtain ⟨g16, h⟩ := xgd h
  refine xs_i C hW KM_37 g16 dX12_coverOn_152 (fun H locs hW => ?_)
  exact w_X12_coverOn_153 N k38 C hk38 x1 x2 x3 x4 x5 _ _ _ _ hW (lv_sub hl [0, 1, 2, 3, 4, 5] rfl) h
set_option maxRecDepth 4000 in
theorem w_X12_coverOn_255 (N : Nat) {r : Int32} {σ' : St} (C : xC KM g RX12 cX12_coverOn 8 (some .boolean) p s m args meth c) : ∀ (n : Nat), ∀ (x1 : Int32) (x4 : Int32) (x5 : Int32) (σ : St) (H : Heap) (locs : List Loc) (ls : Array Slot), xW KM g s σ H locs → lv_has ls 8 [(0, .ref (g.q 0)), (1, .int x1), (4, .int x4), (5, .int x5)] → f_X12_coverOn_255 N n x1 x4 x5 σ = some (r, σ') → W p l e rm_X12_coverOn s m args below meth c H locs 0 0 (MQ below (xPost KM g (some (.int r)) σ') args s 0 0 (xA KM g.q)) (F0 m 255 ls []) := by
  have hx := C.1
  have hb := C.2.1
  intro n
  induction n with
  | zero => intro x1 x4 x5 σ H locs ls hW hl h; rw [f_X12_coverOn_255] at h; cases h
  | succ n ih =>
    intro x1 x4 x5 σ H locs ls hW hl h
    rw [f_X12_coverOn_255] at h
    refine lv_iload hx hb dX12_coverOn_255 (lv_at hl 3 rfl) ?_
    refine lv_bipush (v := 18) hx hb dX12_coverOn_257 rfl ?_
    refine lv_icmp_ge (tgt := 288) hx hb dX12_coverOn_259 (by decide) (fun c27 => ?_) (fun c27 => ?_)
    · have h := xit c27 h
      refine lv_iload hx hb dX12_coverOn_288 (lv_at hl 2 rfl) ?_
      refine lv_if_eq (tgt := 297) hx hb dX12_coverOn_290 (by decide) (fun c28 => ?_) (fun c28 => ?_)
      · have h := xit c28 h
        refine lv_iconst (v := 0) hx hb dX12_coverOn_297 rfl ?_
        cases h
        exact xr_z C hW (by decide) dX12_coverOn_298
      · have h := xif c28 h
        refine lv_iconst (v := 1) hx hb dX12_coverOn_293 rfl ?_
        refine lv_goto (tgt := 298) hx hb dX12_coverOn_294 (by decide) ?_
        cases h
        exact xr_z C hW (by decide) dX12_coverOn_298
    · have h := xif c27 h
      refine lv_iload hx hb dX12_coverOn_262 (lv_at hl 2 rfl) ?_
      refine lv_aload_n hx hb dX12_coverOn_264 rfl (lv_at hl 0 rfl) ?_
      refine xg_r C hW fg_12_124 KM_0 rfl dX12_coverOn_265 ?_
      refine lv_bipush (v := 18) hx hb dX12_coverOn_268 rfl ?_
      refine lv_iload_n hx hb dX12_coverOn_270 rfl (lv_at hl 1 rfl) ?_
      refine lv_imul hx hb dX12_coverOn_271 ?_
      refine lv_bipush (v := 18) hx hb dX12_coverOn_272 rfl ?_
      refine lv_iadd hx hb dX12_coverOn_274 ?_
      refine lv_iload hx hb dX12_coverOn_275 (lv_at hl 3 rfl) ?_
      refine lv_iadd hx hb dX12_coverOn_277 ?_
      obtain ⟨g29, h⟩ := xgd h
      refine xa_i C hW KM_37 g29 (x := σ.1 37 (((18 * x1) + 18) + x5).toNatClampNeg) rfl dX12_coverOn_278 ?_
      refine lv_ior hx hb dX12_coverOn_279 ?_
      refine lv_istore (lv' := [(4, .int (x4 ||| (σ.1 37 (((18 * x1) + 18) + x5).toNatClampNeg))), (0, .ref (g.q 0)), (1, .int x1), (5, .int x5)]) hx hb dX12_coverOn_280 hl (Nat.le_of_ble_eq_true rfl) rfl (fun ls hl => ?_)
      refine lv_iinc (v := x5 + 1) (lv' := [(5, .int (x5 + 1)), (4, .int (x4 ||| (σ.1 37 (((18 * x1) + 18) + x5).toNatClampNeg))), (0, .ref (g.q 0)), (1, .int x1)]) hx hb dX12_coverOn_282 hl (k := 3) rfl rfl (Nat.le_of_ble_eq_true rfl) rfl (fun ls hl => ?_)
      refine lv_goto (tgt := 255) hx hb dX12_coverOn_285 (by decide) ?_
      exact ih x1 (x4 ||| (σ.1 37 (((18 * x1) + 18) + x5).toNatClampNeg)) (x5 + 1) _ _ _ _ hW (lv_sub hl [2, 3, 1, 0] rfl) h
set_option maxRecDepth 4000 in
theorem w_X12_coverOn_38 (N : Nat) {r : Int32} {σ' : St} (C : xC KM g RX12 cX12_coverOn 8 (some .boolean) p s m args meth c) : ∀ (n : Nat), ∀ (x1 : Int32) (x2 : Int32) (x3 : Int32) (x4 : Int32) (x5 : Int32) (σ : St) (H : Heap) (locs : List Loc) (ls : Array Slot), xW KM g s σ H locs → lv_has ls 8 [(0, .ref (g.q 0)), (1, .int x1), (2, .int x2), (3, .int x3), (4, .int x4), (5, .int x5)] → f_X12_coverOn_38 N n x1 x2 x3 x4 x5 σ = some (r, σ') → W p l e rm_X12_coverOn s m args below meth c H locs 0 0 (MQ below (xPost KM g (some (.int r)) σ') args s 0 0 (xA KM g.q)) (F0 m 38 ls []) := by
  have hx := C.1
  have hb := C.2.1
  intro n
  induction n with
  | zero => intro x1 x2 x3 x4 x5 σ H locs ls hW hl h; rw [f_X12_coverOn_38] at h; cases h
  | succ n ih =>
    intro x1 x2 x3 x4 x5 σ H locs ls hW hl h
    rw [f_X12_coverOn_38] at h
    refine lv_iload hx hb dX12_coverOn_38 (lv_at hl 5 rfl) ?_
    refine lv_aload_n hx hb dX12_coverOn_40 rfl (lv_at hl 0 rfl) ?_
    refine xg_r C hW fg_12_106 KM_0 rfl dX12_coverOn_41 ?_
    refine lv_iload_n hx hb dX12_coverOn_44 rfl (lv_at hl 3 rfl) ?_
    obtain ⟨g3, h⟩ := xgd h
    refine xa_i C hW KM_31 g3 (x := σ.1 31 x3.toNatClampNeg) rfl dX12_coverOn_45 ?_
    refine lv_icmp_gt (tgt := 252) hx hb dX12_coverOn_46 (by decide) (fun c4 => ?_) (fun c4 => ?_)
    · have h := xit c4 h
      refine lv_iconst (v := 0) hx hb dX12_coverOn_252 rfl ?_
      refine lv_istore (lv' := [(5, .int 0), (0, .ref (g.q 0)), (1, .int x1), (2, .int x2), (3, .int x3), (4, .int x4)]) hx hb dX12_coverOn_253 hl (Nat.le_of_ble_eq_true rfl) rfl (fun ls hl => ?_)
      exact w_X12_coverOn_255 N C N x1 x4 0 _ _ _ _ hW (lv_sub hl [1, 2, 5, 0] rfl) h
    · have h := xif c4 h
      refine lv_aload_n hx hb dX12_coverOn_49 rfl (lv_at hl 0 rfl) ?_
      refine xg_r C hW fg_12_115 KM_0 rfl dX12_coverOn_50 ?_
      refine lv_iload_n hx hb dX12_coverOn_53 rfl (lv_at hl 2 rfl) ?_
      obtain ⟨g5, h⟩ := xgd h
      refine xa_i C hW KM_34 g5 (x := σ.1 34 x2.toNatClampNeg) rfl dX12_coverOn_54 ?_
      refine lv_iconst (v := 1) hx hb dX12_coverOn_55 rfl ?_
      refine lv_icmp_ne (tgt := 252) hx hb dX12_coverOn_56 (by decide) (fun c6 => ?_) (fun c6 => ?_)
      · have h := xif c6 h
        refine lv_iconst (v := 0) hx hb dX12_coverOn_252 rfl ?_
        refine lv_istore (lv' := [(5, .int 0), (0, .ref (g.q 0)), (1, .int x1), (2, .int x2), (3, .int x3), (4, .int x4)]) hx hb dX12_coverOn_253 hl (Nat.le_of_ble_eq_true rfl) rfl (fun ls hl => ?_)
        exact w_X12_coverOn_255 N C N x1 x4 0 _ _ _ _ hW (lv_sub hl [1, 2, 5, 0] rfl) h
      · have h := xit c6 h
        refine lv_aload_n hx hb dX12_coverOn_59 rfl (lv_at hl 0 rfl) ?_
        refine xg_r C hW fg_12_124 KM_0 rfl dX12_coverOn_60 ?_
        refine lv_bipush (v := 18) hx hb dX12_coverOn_63 rfl ?_
        refine lv_iload_n hx hb dX12_coverOn_65 rfl (lv_at hl 1 rfl) ?_
        refine lv_imul hx hb dX12_coverOn_66 ?_
        refine lv_iconst (v := 2) hx hb dX12_coverOn_67 rfl ?_
        refine lv_iload hx hb dX12_coverOn_68 (lv_at hl 5 rfl) ?_
        refine lv_imul hx hb dX12_coverOn_70 ?_
        refine lv_iadd hx hb dX12_coverOn_71 ?_
        obtain ⟨g7, h⟩ := xgd h
        refine xa_i C hW KM_37 g7 (x := σ.1 37 ((18 * x1) + (2 * x5)).toNatClampNeg) rfl dX12_coverOn_72 ?_
        refine lv_aload_n hx hb dX12_coverOn_73 rfl (lv_at hl 0 rfl) ?_
        refine xg_r C hW fg_12_124 KM_0 rfl dX12_coverOn_74 ?_
        refine lv_bipush (v := 18) hx hb dX12_coverOn_77 rfl ?_
        refine lv_iload_n hx hb dX12_coverOn_79 rfl (lv_at hl 1 rfl) ?_
        refine lv_imul hx hb dX12_coverOn_80 ?_
        refine lv_iconst (v := 2) hx hb dX12_coverOn_81 rfl ?_
        refine lv_iload hx hb dX12_coverOn_82 (lv_at hl 5 rfl) ?_
        refine lv_imul hx hb dX12_coverOn_84 ?_
        refine lv_iadd hx hb dX12_coverOn_85 ?_
        refine lv_iconst (v := 1) hx hb dX12_coverOn_86 rfl ?_
        refine lv_iadd hx hb dX12_coverOn_87 ?_
        obtain ⟨g8, h⟩ := xgd h
        refine xa_i C hW KM_37 g8 (x := σ.1 37 (((18 * x1) + (2 * x5)) + 1).toNatClampNeg) rfl dX12_coverOn_88 ?_
        refine lv_ior hx hb dX12_coverOn_89 ?_
        refine lv_istore (lv' := [(6, .int ((σ.1 37 ((18 * x1) + (2 * x5)).toNatClampNeg) ||| (σ.1 37 (((18 * x1) + (2 * x5)) + 1).toNatClampNeg))), (0, .ref (g.q 0)), (1, .int x1), (2, .int x2), (3, .int x3), (4, .int x4), (5, .int x5)]) hx hb dX12_coverOn_90 hl (Nat.le_of_ble_eq_true rfl) rfl (fun ls hl => ?_)
        refine lv_iload hx hb dX12_coverOn_92 (lv_at hl 0 rfl) ?_
        refine lv_if_eq (tgt := 153) hx hb dX12_coverOn_94 (by decide) (fun c9 => ?_) (fun c9 => ?_)
        · have h := xit c9 h
          exact w_X12_coverOn_153 N (f_X12_coverOn_38 N n) C ih x1 x2 x3 x4 x5 _ _ _ _ hW (lv_sub hl [1, 2, 3, 4, 5, 6] rfl) h
        · have h := xif c9 h
          refine lv_aload_n hx hb dX12_coverOn_97 rfl (lv_at hl 1 rfl) ?_
          refine lv_iload_n hx hb dX12_coverOn_98 rfl (lv_at hl 3 rfl) ?_
          refine lv_iload_n hx hb dX12_coverOn_99 rfl (lv_at hl 4 rfl) ?_
          refine lv_iload hx hb dX12_coverOn_100 (lv_at hl 6 rfl) ?_
          obtain ⟨r10_, e10, h⟩ := xbo h
          refine xc_V (As := [.int x2, .int x3, .int x5]) (rest := []) C hW (m_X12_isAt N x2 x3 x5 _ e10) mf_X12_isAt mv_X12_isAt ml_X12_414 ⟨rfl, rfl⟩ ⟨Nat.le_of_ble_eq_true rfl, Nat.le_of_ble_eq_true rfl⟩ KM_0 rfl hl.1 rfl rfl (Nat.le_of_ble_eq_true rfl) dX12_coverOn_102 (fun H locs hW => W.eq (g2 := F0 m 105 ls [.int r10_]) rfl ?_)
          refine lv_if_eq (tgt := 153) hx hb dX12_coverOn_105 (by decide) (fun c11 => ?_) (fun c11 => ?_)
          · have h := xit c11 h
            exact w_X12_coverOn_153 N (f_X12_coverOn_38 N n) C ih x1 x2 x3 x4 x5 _ _ _ _ hW (lv_sub hl [1, 2, 3, 4, 5, 6] rfl) h
          · have h := xif c11 h
            refine lv_aload_n hx hb dX12_coverOn_108 rfl (lv_at hl 1 rfl) ?_
            refine xg_r C hW fg_12_124 KM_0 rfl dX12_coverOn_109 ?_
            refine lv_bipush (v := 18) hx hb dX12_coverOn_112 rfl ?_
            refine lv_iload_n hx hb dX12_coverOn_114 rfl (lv_at hl 2 rfl) ?_
            refine lv_imul hx hb dX12_coverOn_115 ?_
            refine lv_bipush (v := 18) hx hb dX12_coverOn_116 rfl ?_
            refine lv_iadd hx hb dX12_coverOn_118 ?_
            refine lv_iconst (v := 2) hx hb dX12_coverOn_119 rfl ?_
            refine lv_iload hx hb dX12_coverOn_120 (lv_at hl 6 rfl) ?_
            refine lv_aload_n hx hb dX12_coverOn_122 rfl (lv_at hl 1 rfl) ?_
            refine xg_r C hW fg_12_118 KM_0 rfl dX12_coverOn_123 ?_
            refine lv_iload_n hx hb dX12_coverOn_126 rfl (lv_at hl 3 rfl) ?_
            obtain ⟨g12, h⟩ := xgd h
            refine xa_i C hW KM_35 g12 (x := σ.1 35 x2.toNatClampNeg) rfl dX12_coverOn_127 ?_
            refine lv_iadd hx hb dX12_coverOn_128 ?_
            refine lv_imul hx hb dX12_coverOn_129 ?_
            refine lv_iadd hx hb dX12_coverOn_130 ?_
            refine lv_aload_n hx hb dX12_coverOn_131 rfl (lv_at hl 1 rfl) ?_
            refine xg_r C hW fg_12_118 KM_0 rfl dX12_coverOn_132 ?_
            refine lv_iload_n hx hb dX12_coverOn_135 rfl (lv_at hl 3 rfl) ?_
            obtain ⟨g13, h⟩ := xgd h
            refine xa_i C hW KM_35 g13 (x := σ.1 35 x2.toNatClampNeg) rfl dX12_coverOn_136 ?_
            refine lv_iconst (v := 1) hx hb dX12_coverOn_137 rfl ?_
            refine lv_icmp_le (tgt := 145) hx hb dX12_coverOn_138 (by decide) (fun c14 => ?_) (fun c14 => ?_)
            · have h := xit c14 h
              refine lv_iconst (v := 0) hx hb dX12_coverOn_145 rfl ?_
              exact w_X12_coverOn_146 N (f_X12_coverOn_38 N n) C ih x1 x2 x3 x4 x5 ((σ.1 37 ((18 * x1) + (2 * x5)).toNatClampNeg) ||| (σ.1 37 (((18 * x1) + (2 * x5)) + 1).toNatClampNeg)) (((18 * x1) + 18) + (2 * (x5 + (σ.1 35 x2.toNatClampNeg)))) 0 _ _ _ _ hW (lv_sub hl [1, 2, 3, 4, 5, 6, 0] rfl) h
            · have h := xif c14 h
              refine lv_iconst (v := 1) hx hb dX12_coverOn_141 rfl ?_
              refine lv_goto (tgt := 146) hx hb dX12_coverOn_142 (by decide) ?_
              exact w_X12_coverOn_146 N (f_X12_coverOn_38 N n) C ih x1 x2 x3 x4 x5 ((σ.1 37 ((18 * x1) + (2 * x5)).toNatClampNeg) ||| (σ.1 37 (((18 * x1) + (2 * x5)) + 1).toNatClampNeg)) (((18 * x1) + 18) + (2 * (x5 + (σ.1 35 x2.toNatClampNeg)))) 1 _ _ _ _ hW (lv_sub hl [1, 2, 3, 4, 5, 6, 0] rfl) h
set_option maxRecDepth 4000 in
theorem w_X12_coverOn_6 (N : Nat) {r : Int32} {σ' : St} (C : xC KM g RX12 cX12_coverOn 8 (some .boolean) p s m args meth c) : ∀ (n : Nat), ∀ (x1 : Int32) (x2 : Int32) (x3 : Int32) (x4 : Int32) (x5 : Int32) (σ : St) (H : Heap) (locs : List Loc) (ls : Array Slot), xW KM g s σ H locs → lv_has ls 8 [(0, .ref (g.q 0)), (1, .int x1), (2, .int x2), (3, .int x3), (4, .int x4), (5, .int x5)] → f_X12_coverOn_6 N n x1 x2 x3 x4 x5 σ = some (r, σ') → W p l e rm_X12_coverOn s m args below meth c H locs 0 0 (MQ below (xPost KM g (some (.int r)) σ') args s 0 0 (xA KM g.q)) (F0 m 6 ls []) := by
  have hx := C.1
  have hb := C.2.1
  intro n
  induction n with
  | zero => intro x1 x2 x3 x4 x5 σ H locs ls hW hl h; rw [f_X12_coverOn_6] at h; cases h
  | succ n ih =>
    intro x1 x2 x3 x4 x5 σ H locs ls hW hl h
    rw [f_X12_coverOn_6] at h
    refine lv_iload hx hb dX12_coverOn_6 (lv_at hl 5 rfl) ?_
    refine lv_bipush (v := 18) hx hb dX12_coverOn_8 rfl ?_
    refine lv_icmp_ge (tgt := 35) hx hb dX12_coverOn_10 (by decide) (fun c1 => ?_) (fun c1 => ?_)
    · have h := xit c1 h
      refine lv_iconst (v := 0) hx hb dX12_coverOn_35 rfl ?_
      refine lv_istore (lv' := [(5, .int 0), (0, .ref (g.q 0)), (1, .int x1), (2, .int x2), (3, .int x3), (4, .int x4)]) hx hb dX12_coverOn_36 hl (Nat.le_of_ble_eq_true rfl) rfl (fun ls hl => ?_)
      exact w_X12_coverOn_38 N C N x1 x2 x3 x4 0 _ _ _ _ hW (lv_sub hl [1, 2, 3, 4, 5, 0] rfl) h
    · have h := xif c1 h
      refine lv_aload_n hx hb dX12_coverOn_13 rfl (lv_at hl 0 rfl) ?_
      refine xg_r C hW fg_12_124 KM_0 rfl dX12_coverOn_14 ?_
      refine lv_bipush (v := 18) hx hb dX12_coverOn_17 rfl ?_
      refine lv_iload_n hx hb dX12_coverOn_19 rfl (lv_at hl 1 rfl) ?_
      refine lv_imul hx hb dX12_coverOn_20 ?_
      refine lv_bipush (v := 18) hx hb dX12_coverOn_21 rfl ?_
      refine lv_iadd hx hb dX12_coverOn_23 ?_
      refine lv_iload hx hb dX12_coverOn_24 (lv_at hl 5 rfl) ?_
      refine lv_iadd hx hb dX12_coverOn_26 ?_
      refine lv_iconst (v := 0) hx hb dX12_coverOn_27 rfl ?_
      obtain ⟨g2, h⟩ := xgd h
      refine xs_i C hW KM_37 g2 dX12_coverOn_28 (fun H locs hW => ?_)
      refine lv_iinc (v := x5 + 1) (lv' := [(5, .int (x5 + 1)), (0, .ref (g.q 0)), (1, .int x1), (2, .int x2), (3, .int x3), (4, .int x4)]) hx hb dX12_coverOn_29 hl (k := 5) rfl rfl (Nat.le_of_ble_eq_true rfl) rfl (fun ls hl => ?_)
      refine lv_goto (tgt := 6) hx hb dX12_coverOn_32 (by decide) ?_
      exact ih x1 x2 x3 x4 (x5 + 1) _ _ _ _ hW (lv_sub hl [1, 2, 3, 4, 5, 0] rfl) h
set_option maxRecDepth 4000 in
theorem m_X12_coverOn (N : Nat) (x1 : Int32) (x2 : Int32) (x3 : Int32) (σ : St) {r : Int32} {σ' : St} (h : f_X12_coverOn N x1 x2 x3 σ = some (r, σ')) : xM l KM g yX12_coverOn cX12_coverOn 8 (some .boolean) rm_X12_coverOn [.ref (g.q 0), .int x1, .int x2, .int x3] σ (some (.int r)) σ' := by
  refine xmet pn_X12 rfl (Nat.le_of_ble_eq_true rfl) (lv := [(0, .ref (g.q 0)), (1, .int x1), (2, .int x2), (3, .int x3)]) rfl (fun p e s m args below meth c ls C hW hl => ?_)
  have hx := C.1
  have hb := C.2.1
  unfold f_X12_coverOn at h
  refine lv_iconst (v := 0) hx hb dX12_coverOn_0 rfl ?_
  refine lv_istore (lv' := [(4, .int 0), (0, .ref (g.q 0)), (1, .int x1), (2, .int x2), (3, .int x3)]) hx hb dX12_coverOn_1 hl (Nat.le_of_ble_eq_true rfl) rfl (fun ls hl => ?_)
  refine lv_iconst (v := 0) hx hb dX12_coverOn_3 rfl ?_
  refine lv_istore (lv' := [(5, .int 0), (4, .int 0), (0, .ref (g.q 0)), (1, .int x1), (2, .int x2), (3, .int x3)]) hx hb dX12_coverOn_4 hl (Nat.le_of_ble_eq_true rfl) rfl (fun ls hl => ?_)
  exact w_X12_coverOn_6 N C N x1 x2 x3 0 0 _ _ _ _ hW (lv_sub hl [2, 3, 4, 5, 1, 0] rfl) h
end
