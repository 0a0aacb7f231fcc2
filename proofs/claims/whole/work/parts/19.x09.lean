theorem dX7_coverEnds_0 : decode cX7_coverEnds 0 = .ok (.iconst 0, 1) := by decide +kernel
theorem dX7_coverEnds_1 : decode cX7_coverEnds 1 = .ok (.istore 4, 2) := by decide +kernel
theorem dX7_coverEnds_3 : decode cX7_coverEnds 3 = .ok (.iconst 1, 1) := by decide +kernel
theorem dX7_coverEnds_4 : decode cX7_coverEnds 4 = .ok (.istore 5, 2) := by decide +kernel
theorem dX7_coverEnds_6 : decode cX7_coverEnds 6 = .ok (.iconst 0, 1) := by decide +kernel
theorem dX7_coverEnds_7 : decode cX7_coverEnds 7 = .ok (.istore 6, 2) := by decide +kernel
theorem dX7_coverEnds_9 : decode cX7_coverEnds 9 = .ok (.iload_n 3, 1) := by decide +kernel
theorem dX7_coverEnds_10 : decode cX7_coverEnds 10 = .ok (.istore 7, 2) := by decide +kernel
theorem dX7_coverEnds_12 : decode cX7_coverEnds 12 = .ok (.iload 7, 2) := by decide +kernel
theorem dX7_coverEnds_14 : decode cX7_coverEnds 14 = .ok (.iload_n 2, 1) := by decide +kernel
theorem dX7_coverEnds_15 : decode cX7_coverEnds 15 = .ok (.if_icmp .ge 67, 3) := by decide +kernel
theorem dX7_coverEnds_18 : decode cX7_coverEnds 18 = .ok (.iload 5, 2) := by decide +kernel
theorem dX7_coverEnds_20 : decode cX7_coverEnds 20 = .ok (.ifCond .eq 62, 3) := by decide +kernel
theorem dX7_coverEnds_23 : decode cX7_coverEnds 23 = .ok (.aload_n 0, 1) := by decide +kernel
theorem dX7_coverEnds_24 : decode cX7_coverEnds 24 = .ok (.iload 5, 2) := by decide +kernel
theorem dX7_coverEnds_26 : decode cX7_coverEnds 26 = .ok (.iload 6, 2) := by decide +kernel
theorem dX7_coverEnds_28 : decode cX7_coverEnds 28 = .ok (.aload_n 1, 1) := by decide +kernel
theorem dX7_coverEnds_29 : decode cX7_coverEnds 29 = .ok (.iload 7, 2) := by decide +kernel
theorem dX7_coverEnds_31 : decode cX7_coverEnds 31 = .ok (.iaload, 1) := by decide +kernel
theorem dX7_coverEnds_32 : decode cX7_coverEnds 32 = .ok (.invokevirtual 101, 3) := by decide +kernel
theorem dX7_coverEnds_35 : decode cX7_coverEnds 35 = .ok (.istore 5, 2) := by decide +kernel
theorem dX7_coverEnds_37 : decode cX7_coverEnds 37 = .ok (.iload 6, 2) := by decide +kernel
theorem dX7_coverEnds_39 : decode cX7_coverEnds 39 = .ok (.aload_n 0, 1) := by decide +kernel
theorem dX7_coverEnds_40 : decode cX7_coverEnds 40 = .ok (.getfield 17, 3) := by decide +kernel
theorem dX7_coverEnds_43 : decode cX7_coverEnds 43 = .ok (.getfield 65, 3) := by decide +kernel
theorem dX7_coverEnds_46 : decode cX7_coverEnds 46 = .ok (.aload_n 1, 1) := by decide +kernel
theorem dX7_coverEnds_47 : decode cX7_coverEnds 47 = .ok (.iload 7, 2) := by decide +kernel
theorem dX7_coverEnds_49 : decode cX7_coverEnds 49 = .ok (.iaload, 1) := by decide +kernel
theorem dX7_coverEnds_50 : decode cX7_coverEnds 50 = .ok (.iaload, 1) := by decide +kernel
theorem dX7_coverEnds_51 : decode cX7_coverEnds 51 = .ok (.iadd, 1) := by decide +kernel
theorem dX7_coverEnds_52 : decode cX7_coverEnds 52 = .ok (.istore 6, 2) := by decide +kernel
theorem dX7_coverEnds_54 : decode cX7_coverEnds 54 = .ok (.aload_n 0, 1) := by decide +kernel
theorem dX7_coverEnds_55 : decode cX7_coverEnds 55 = .ok (.iload 5, 2) := by decide +kernel
theorem dX7_coverEnds_57 : decode cX7_coverEnds 57 = .ok (.iload 6, 2) := by decide +kernel
theorem dX7_coverEnds_59 : decode cX7_coverEnds 59 = .ok (.invokevirtual 105, 3) := by decide +kernel
theorem dX7_coverEnds_62 : decode cX7_coverEnds 62 = .ok (.ifCond .eq 14, 3) := by decide +kernel
theorem dX7_coverEnds_65 : decode cX7_coverEnds 65 = .ok (.iload 4, 2) := by decide +kernel
theorem dX7_coverEnds_67 : decode cX7_coverEnds 67 = .ok (.iconst 1, 1) := by decide +kernel
theorem dX7_coverEnds_68 : decode cX7_coverEnds 68 = .ok (.iload 7, 2) := by decide +kernel
theorem dX7_coverEnds_70 : decode cX7_coverEnds 70 = .ok (.iconst 1, 1) := by decide +kernel
theorem dX7_coverEnds_71 : decode cX7_coverEnds 71 = .ok (.iadd, 1) := by decide +kernel
theorem dX7_coverEnds_72 : decode cX7_coverEnds 72 = .ok (.ishl, 1) := by decide +kernel
theorem dX7_coverEnds_73 : decode cX7_coverEnds 73 = .ok (.ior, 1) := by decide +kernel
theorem dX7_coverEnds_74 : decode cX7_coverEnds 74 = .ok (.istore 4, 2) := by decide +kernel
theorem dX7_coverEnds_76 : decode cX7_coverEnds 76 = .ok (.iinc 7 1, 3) := by decide +kernel
theorem dX7_coverEnds_79 : decode cX7_coverEnds 79 = .ok (.goto (-67), 3) := by decide +kernel
theorem dX7_coverEnds_82 : decode cX7_coverEnds 82 = .ok (.iload 4, 2) := by decide +kernel
theorem dX7_coverEnds_84 : decode cX7_coverEnds 84 = .ok (.ireturn, 1) := by decide +kernel
abbrev rm_X7_coverEnds : Room := { frames := 3, cells := 0, slots := 0, locals := 68 }
def f_X7_coverEnds_12 (r1 rn1 : Nat) (N : Nat) : Nat → Int32 → Int32 → Int32 → Int32 → Int32 → St → Option Int32
  | 0, _, _, _, _, _, _ => none
  | n + 1, x2, x4, x5, x6, x7, σ => (if x2 ≤ x7 then some x4 else (if x5 = 0 then some x4 else grd (ib x7 rn1) (bo (f_X7_step N x5 x6 (σ.1 r1 x7.toNatClampNeg) σ) (fun r4_ => grd (sgb (σ.1 8601 0)) (grd (ib x7 rn1) (grd (ib (σ.1 r1 x7.toNatClampNeg) 40) ((if (f_X7_isCover r4_ (x6 + (σ.1 (8 * ((σ.1 8601 0).toNatClampNeg) + 5 - 6) (σ.1 r1 x7.toNatClampNeg).toNatClampNeg)) σ) = 0 then f_X7_coverEnds_12 r1 rn1 N n x2 x4 r4_ (x6 + (σ.1 (8 * ((σ.1 8601 0).toNatClampNeg) + 5 - 6) (σ.1 r1 x7.toNatClampNeg).toNatClampNeg)) (x7 + 1) σ else f_X7_coverEnds_12 r1 rn1 N n x2 (x4 ||| (1 <<< ((x7 + 1) &&& 31))) r4_ (x6 + (σ.1 (8 * ((σ.1 8601 0).toNatClampNeg) + 5 - 6) (σ.1 r1 x7.toNatClampNeg).toNatClampNeg)) (x7 + 1) σ))))))))
def f_X7_coverEnds (r1 rn1 : Nat) (N : Nat) (x2 : Int32) (x3 : Int32) (σ : St) : Option Int32 := f_X7_coverEnds_12 r1 rn1 N N x2 0 1 0 x3 σ
section
variable {p : Program} {l : Launch} {e : Env} {s : State} {m : MethodId} {args : Array Value} {below : List Frame} {meth : Method} {c : Code} {g : XG}
set_option maxRecDepth 4000 in
theorem w_X7_coverEnds_12 (r1 rn1 : Nat) (hr1 : KX[r1]? = some (.inr (0, rn1))) (N : Nat) (σ : St) {r : Int32} (C : xC KX g RX7 cX7_coverEnds 8 (some .int) p s m args meth c) : ∀ (n : Nat), ∀ (x2 : Int32) (x4 : Int32) (x5 : Int32) (x6 : Int32) (x7 : Int32) (H : Heap) (locs : List Loc) (ls : Array Slot), xW KX g s σ H locs → lv_has ls 8 [(0, .ref (g.q 38)), (1, .ref (g.q r1)), (2, .int x2), (4, .int x4), (5, .int x5), (6, .int x6), (7, .int x7)] → f_X7_coverEnds_12 r1 rn1 N n x2 x4 x5 x6 x7 σ = some r → W p l e rm_X7_coverEnds s m args below meth c H locs 0 0 (MQ below (xPost KX g (some (.int r)) σ) args s 0 0 (xA KX g.q)) (F0 m 12 ls []) := by
  have hx := C.1
  have hb := C.2.1
  intro n
  induction n with
  | zero => intro x2 x4 x5 x6 x7 H locs ls hW hl h; rw [f_X7_coverEnds_12] at h; cases h
  | succ n ih =>
    intro x2 x4 x5 x6 x7 H locs ls hW hl h
    rw [f_X7_coverEnds_12] at h
    refine lv_iload hx hb dX7_coverEnds_12 (lv_at hl 6 rfl) ?_
    refine lv_iload_n hx hb dX7_coverEnds_14 rfl (lv_at hl 2 rfl) ?_
    refine lv_icmp_ge (tgt := 82) hx hb dX7_coverEnds_15 (by decide) (fun c1 => ?_) (fun c1 => ?_)
    · have h := xit c1 h
      refine lv_iload hx hb dX7_coverEnds_82 (lv_at hl 3 rfl) ?_
      cases h
      exact xr_i C hW dX7_coverEnds_84
    · have h := xif c1 h
      refine lv_iload hx hb dX7_coverEnds_18 (lv_at hl 4 rfl) ?_
      refine lv_if_eq (tgt := 82) hx hb dX7_coverEnds_20 (by decide) (fun c2 => ?_) (fun c2 => ?_)
      · have h := xit c2 h
        refine lv_iload hx hb dX7_coverEnds_82 (lv_at hl 3 rfl) ?_
        cases h
        exact xr_i C hW dX7_coverEnds_84
      · have h := xif c2 h
        refine lv_aload_n hx hb dX7_coverEnds_23 rfl (lv_at hl 0 rfl) ?_
        refine lv_iload hx hb dX7_coverEnds_24 (lv_at hl 4 rfl) ?_
        refine lv_iload hx hb dX7_coverEnds_26 (lv_at hl 5 rfl) ?_
        refine lv_aload_n hx hb dX7_coverEnds_28 rfl (lv_at hl 1 rfl) ?_
        refine lv_iload hx hb dX7_coverEnds_29 (lv_at hl 6 rfl) ?_
        obtain ⟨g3, h⟩ := xgd h
        refine xa_i C hW hr1 g3 (x := σ.1 r1 x7.toNatClampNeg) rfl dX7_coverEnds_31 ?_
        obtain ⟨r4_, e4, h⟩ := xbo h
        refine xc_V (As := [.int x5, .int x6, .int (σ.1 r1 x7.toNatClampNeg)]) (rest := []) C hW (m_X7_step N x5 x6 (σ.1 r1 x7.toNatClampNeg) _ e4) mf_X7_step mv_X7_step ml_X7_101 ⟨rfl, rfl⟩ ⟨Nat.le_of_ble_eq_true rfl, Nat.le_of_ble_eq_true rfl⟩ KX_38 rfl hl.1 rfl rfl (Nat.le_of_ble_eq_true rfl) dX7_coverEnds_32 (fun H locs hW => W.eq (g2 := F0 m 35 ls [.int r4_]) rfl ?_)
        refine lv_istore (lv' := [(5, .int r4_), (0, .ref (g.q 38)), (1, .ref (g.q r1)), (2, .int x2), (4, .int x4), (6, .int x6), (7, .int x7)]) hx hb dX7_coverEnds_35 hl (Nat.le_of_ble_eq_true rfl) rfl (fun ls hl => ?_)
        refine lv_iload hx hb dX7_coverEnds_37 (lv_at hl 5 rfl) ?_
        refine lv_aload_n hx hb dX7_coverEnds_39 rfl (lv_at hl 1 rfl) ?_
        obtain ⟨g5, h⟩ := xgd h
        refine xg_v C hW fg_7_17 KX_38 rfl (v := 8601) rfl (x := σ.1 8601 0) rfl dX7_coverEnds_40 ?_
        refine xg_r C hW fg_7_65 (KX_sl (sgb_o g5)) rfl dX7_coverEnds_43 ?_
        refine lv_aload_n hx hb dX7_coverEnds_46 rfl (lv_at hl 2 rfl) ?_
        refine lv_iload hx hb dX7_coverEnds_47 (lv_at hl 6 rfl) ?_
        obtain ⟨g6, h⟩ := xgd h
        refine xa_i C hW hr1 g6 (x := σ.1 r1 x7.toNatClampNeg) rfl dX7_coverEnds_49 ?_
        obtain ⟨g7, h⟩ := xgd h
        refine xa_i C hW (KX_sl_5 (sgb_o g5)) g7 (x := σ.1 (8 * ((σ.1 8601 0).toNatClampNeg) + 5 - 6) (σ.1 r1 x7.toNatClampNeg).toNatClampNeg) rfl dX7_coverEnds_50 ?_
        refine lv_iadd hx hb dX7_coverEnds_51 ?_
        refine lv_istore (lv' := [(6, .int (x6 + (σ.1 (8 * ((σ.1 8601 0).toNatClampNeg) + 5 - 6) (σ.1 r1 x7.toNatClampNeg).toNatClampNeg))), (5, .int r4_), (0, .ref (g.q 38)), (1, .ref (g.q r1)), (2, .int x2), (4, .int x4), (7, .int x7)]) hx hb dX7_coverEnds_52 hl (Nat.le_of_ble_eq_true rfl) rfl (fun ls hl => ?_)
        refine lv_aload_n hx hb dX7_coverEnds_54 rfl (lv_at hl 2 rfl) ?_
        refine lv_iload hx hb dX7_coverEnds_55 (lv_at hl 1 rfl) ?_
        refine lv_iload hx hb dX7_coverEnds_57 (lv_at hl 0 rfl) ?_
        refine xc_V (As := [.int r4_, .int (x6 + (σ.1 (8 * ((σ.1 8601 0).toNatClampNeg) + 5 - 6) (σ.1 r1 x7.toNatClampNeg).toNatClampNeg))]) (rest := []) C hW (m_X7_isCover r4_ (x6 + (σ.1 (8 * ((σ.1 8601 0).toNatClampNeg) + 5 - 6) (σ.1 r1 x7.toNatClampNeg).toNatClampNeg)) _ rfl) mf_X7_isCover mv_X7_isCover ml_X7_105 ⟨rfl, rfl⟩ ⟨Nat.le_of_ble_eq_true rfl, Nat.le_of_ble_eq_true rfl⟩ KX_38 rfl hl.1 rfl rfl (Nat.le_of_ble_eq_true rfl) dX7_coverEnds_59 (fun H locs hW => W.eq (g2 := F0 m 62 ls [.int (f_X7_isCover r4_ (x6 + (σ.1 (8 * ((σ.1 8601 0).toNatClampNeg) + 5 - 6) (σ.1 r1 x7.toNatClampNeg).toNatClampNeg)) σ)]) rfl ?_)
        refine lv_if_eq (tgt := 76) hx hb dX7_coverEnds_62 (by decide) (fun c8 => ?_) (fun c8 => ?_)
        · have h := xit c8 h
          refine lv_iinc (v := x7 + 1) (lv' := [(7, .int (x7 + 1)), (6, .int (x6 + (σ.1 (8 * ((σ.1 8601 0).toNatClampNeg) + 5 - 6) (σ.1 r1 x7.toNatClampNeg).toNatClampNeg))), (5, .int r4_), (0, .ref (g.q 38)), (1, .ref (g.q r1)), (2, .int x2), (4, .int x4)]) hx hb dX7_coverEnds_76 hl (k := 6) rfl rfl (Nat.le_of_ble_eq_true rfl) rfl (fun ls hl => ?_)
          refine lv_goto (tgt := 12) hx hb dX7_coverEnds_79 (by decide) ?_
          exact ih x2 x4 r4_ (x6 + (σ.1 (8 * ((σ.1 8601 0).toNatClampNeg) + 5 - 6) (σ.1 r1 x7.toNatClampNeg).toNatClampNeg)) (x7 + 1) _ _ _ hW (lv_sub hl [3, 4, 5, 6, 2, 1, 0] rfl) h
        · have h := xif c8 h
          refine lv_iload hx hb dX7_coverEnds_65 (lv_at hl 5 rfl) ?_
          refine lv_iconst (v := 1) hx hb dX7_coverEnds_67 rfl ?_
          refine lv_iload hx hb dX7_coverEnds_68 (lv_at hl 6 rfl) ?_
          refine lv_iconst (v := 1) hx hb dX7_coverEnds_70 rfl ?_
          refine lv_iadd hx hb dX7_coverEnds_71 ?_
          refine lv_ishl hx hb dX7_coverEnds_72 ?_
          refine lv_ior hx hb dX7_coverEnds_73 ?_
          refine lv_istore (lv' := [(4, .int (x4 ||| (1 <<< ((x7 + 1) &&& 31)))), (6, .int (x6 + (σ.1 (8 * ((σ.1 8601 0).toNatClampNeg) + 5 - 6) (σ.1 r1 x7.toNatClampNeg).toNatClampNeg))), (5, .int r4_), (0, .ref (g.q 38)), (1, .ref (g.q r1)), (2, .int x2), (7, .int x7)]) hx hb dX7_coverEnds_74 hl (Nat.le_of_ble_eq_true rfl) rfl (fun ls hl => ?_)
          refine lv_iinc (v := x7 + 1) (lv' := [(7, .int (x7 + 1)), (4, .int (x4 ||| (1 <<< ((x7 + 1) &&& 31)))), (6, .int (x6 + (σ.1 (8 * ((σ.1 8601 0).toNatClampNeg) + 5 - 6) (σ.1 r1 x7.toNatClampNeg).toNatClampNeg))), (5, .int r4_), (0, .ref (g.q 38)), (1, .ref (g.q r1)), (2, .int x2)]) hx hb dX7_coverEnds_76 hl (k := 6) rfl rfl (Nat.le_of_ble_eq_true rfl) rfl (fun ls hl => ?_)
          refine lv_goto (tgt := 12) hx hb dX7_coverEnds_79 (by decide) ?_
          exact ih x2 (x4 ||| (1 <<< ((x7 + 1) &&& 31))) r4_ (x6 + (σ.1 (8 * ((σ.1 8601 0).toNatClampNeg) + 5 - 6) (σ.1 r1 x7.toNatClampNeg).toNatClampNeg)) (x7 + 1) _ _ _ hW (lv_sub hl [4, 5, 6, 1, 3, 2, 0] rfl) h
set_option maxRecDepth 4000 in
theorem m_X7_coverEnds (r1 rn1 : Nat) (hr1 : KX[r1]? = some (.inr (0, rn1))) (N : Nat) (x2 : Int32) (x3 : Int32) (σ : St) {r : Int32} (h : f_X7_coverEnds r1 rn1 N x2 x3 σ = some r) : xM l KX g yX7_coverEnds cX7_coverEnds 8 (some .int) rm_X7_coverEnds [.ref (g.q 38), .ref (g.q r1), .int x2, .int x3] σ (some (.int r)) σ := by
  refine xmet pn_X7 rfl (Nat.le_of_ble_eq_true rfl) (lv := [(0, .ref (g.q 38)), (1, .ref (g.q r1)), (2, .int x2), (3, .int x3)]) rfl (fun p e s m args below meth c ls C hW hl => ?_)
  have hx := C.1
  have hb := C.2.1
  unfold f_X7_coverEnds at h
  refine lv_iconst (v := 0) hx hb dX7_coverEnds_0 rfl ?_
  refine lv_istore (lv' := [(4, .int 0), (0, .ref (g.q 38)), (1, .ref (g.q r1)), (2, .int x2), (3, .int x3)]) hx hb dX7_coverEnds_1 hl (Nat.le_of_ble_eq_true rfl) rfl (fun ls hl => ?_)
  refine lv_iconst (v := 1) hx hb dX7_coverEnds_3 rfl ?_
  refine lv_istore (lv' := [(5, .int 1), (4, .int 0), (0, .ref (g.q 38)), (1, .ref (g.q r1)), (2, .int x2), (3, .int x3)]) hx hb dX7_coverEnds_4 hl (Nat.le_of_ble_eq_true rfl) rfl (fun ls hl => ?_)
  refine lv_iconst (v := 0) hx hb dX7_coverEnds_6 rfl ?_
  refine lv_istore (lv' := [(6, .int 0), (5, .int 1), (4, .int 0), (0, .ref (g.q 38)), (1, .ref (g.q r1)), (2, .int x2), (3, .int x3)]) hx hb dX7_coverEnds_7 hl (Nat.le_of_ble_eq_true rfl) rfl (fun ls hl => ?_)
  refine lv_iload_n hx hb dX7_coverEnds_9 rfl (lv_at hl 6 rfl) ?_
  refine lv_istore (lv' := [(7, .int x3), (6, .int 0), (5, .int 1), (4, .int 0), (0, .ref (g.q 38)), (1, .ref (g.q r1)), (2, .int x2), (3, .int x3)]) hx hb dX7_coverEnds_10 hl (Nat.le_of_ble_eq_true rfl) rfl (fun ls hl => ?_)
  exact w_X7_coverEnds_12 r1 rn1 hr1 N σ C N x2 0 1 0 x3 _ _ _ hW (lv_sub hl [4, 5, 6, 3, 2, 1, 0] rfl) h
end
theorem dX7_endsOfKind_0 : decode cX7_endsOfKind 0 = .ok (.iconst 0, 1) := by decide +kernel
theorem dX7_endsOfKind_1 : decode cX7_endsOfKind 1 = .ok (.istore 4, 2) := by decide +kernel
theorem dX7_endsOfKind_3 : decode cX7_endsOfKind 3 = .ok (.iconst 1, 1) := by decide +kernel
theorem dX7_endsOfKind_4 : decode cX7_endsOfKind 4 = .ok (.istore 5, 2) := by decide +kernel
theorem dX7_endsOfKind_6 : decode cX7_endsOfKind 6 = .ok (.iload 5, 2) := by decide +kernel
theorem dX7_endsOfKind_8 : decode cX7_endsOfKind 8 = .ok (.iload_n 2, 1) := by decide +kernel
theorem dX7_endsOfKind_9 : decode cX7_endsOfKind 9 = .ok (.if_icmp .ge 41, 3) := by decide +kernel
theorem dX7_endsOfKind_12 : decode cX7_endsOfKind 12 = .ok (.iload_n 3, 1) := by decide +kernel
theorem dX7_endsOfKind_13 : decode cX7_endsOfKind 13 = .ok (.iload 5, 2) := by decide +kernel
theorem dX7_endsOfKind_15 : decode cX7_endsOfKind 15 = .ok (.iushr, 1) := by decide +kernel
theorem dX7_endsOfKind_16 : decode cX7_endsOfKind 16 = .ok (.iconst 1, 1) := by decide +kernel
theorem dX7_endsOfKind_17 : decode cX7_endsOfKind 17 = .ok (.iand, 1) := by decide +kernel
theorem dX7_endsOfKind_18 : decode cX7_endsOfKind 18 = .ok (.iconst 1, 1) := by decide +kernel
theorem dX7_endsOfKind_19 : decode cX7_endsOfKind 19 = .ok (.if_icmp .ne 25, 3) := by decide +kernel
theorem dX7_endsOfKind_22 : decode cX7_endsOfKind 22 = .ok (.aload_n 0, 1) := by decide +kernel
theorem dX7_endsOfKind_23 : decode cX7_endsOfKind 23 = .ok (.aload_n 1, 1) := by decide +kernel
theorem dX7_endsOfKind_24 : decode cX7_endsOfKind 24 = .ok (.iload 5, 2) := by decide +kernel
theorem dX7_endsOfKind_26 : decode cX7_endsOfKind 26 = .ok (.iaload, 1) := by decide +kernel
theorem dX7_endsOfKind_27 : decode cX7_endsOfKind 27 = .ok (.invokevirtual 108, 3) := by decide +kernel
theorem dX7_endsOfKind_30 : decode cX7_endsOfKind 30 = .ok (.ifCond .eq 14, 3) := by decide +kernel
theorem dX7_endsOfKind_33 : decode cX7_endsOfKind 33 = .ok (.iload 4, 2) := by decide +kernel
theorem dX7_endsOfKind_35 : decode cX7_endsOfKind 35 = .ok (.iconst 1, 1) := by decide +kernel
theorem dX7_endsOfKind_36 : decode cX7_endsOfKind 36 = .ok (.iload 5, 2) := by decide +kernel
theorem dX7_endsOfKind_38 : decode cX7_endsOfKind 38 = .ok (.iconst 1, 1) := by decide +kernel
theorem dX7_endsOfKind_39 : decode cX7_endsOfKind 39 = .ok (.iadd, 1) := by decide +kernel
theorem dX7_endsOfKind_40 : decode cX7_endsOfKind 40 = .ok (.ishl, 1) := by decide +kernel
theorem dX7_endsOfKind_41 : decode cX7_endsOfKind 41 = .ok (.ior, 1) := by decide +kernel
theorem dX7_endsOfKind_42 : decode cX7_endsOfKind 42 = .ok (.istore 4, 2) := by decide +kernel
theorem dX7_endsOfKind_44 : decode cX7_endsOfKind 44 = .ok (.iinc 5 1, 3) := by decide +kernel
theorem dX7_endsOfKind_47 : decode cX7_endsOfKind 47 = .ok (.goto (-41), 3) := by decide +kernel
theorem dX7_endsOfKind_50 : decode cX7_endsOfKind 50 = .ok (.iload 4, 2) := by decide +kernel
theorem dX7_endsOfKind_52 : decode cX7_endsOfKind 52 = .ok (.ireturn, 1) := by decide +kernel
abbrev rm_X7_endsOfKind : Room := { frames := 1, cells := 0, slots := 0, locals := 21 }
def f_X7_endsOfKind_6 (r1 rn1 : Nat) (N : Nat) : Nat → Int32 → Int32 → Int32 → Int32 → St → Option Int32
  | 0, _, _, _, _, _ => none
  | n + 1, x2, x3, x4, x5, σ => (if x2 ≤ x5 then some x4 else (if ((ushr x3 x5) &&& 1) = 1 then grd (ib x5 rn1) (bo (f_X7_isOfKind (σ.1 r1 x5.toNatClampNeg) σ) (fun r4_ => (if r4_ = 0 then f_X7_endsOfKind_6 r1 rn1 N n x2 x3 x4 (x5 + 1) σ else f_X7_endsOfKind_6 r1 rn1 N n x2 x3 (x4 ||| (1 <<< ((x5 + 1) &&& 31))) (x5 + 1) σ))) else f_X7_endsOfKind_6 r1 rn1 N n x2 x3 x4 (x5 + 1) σ))
def f_X7_endsOfKind (r1 rn1 : Nat) (N : Nat) (x2 : Int32) (x3 : Int32) (σ : St) : Option Int32 := f_X7_endsOfKind_6 r1 rn1 N N x2 x3 0 1 σ
section
variable {p : Program} {l : Launch} {e : Env} {s : State} {m : MethodId} {args : Array Value} {below : List Frame} {meth : Method} {c : Code} {g : XG}
set_option maxRecDepth 4000 in
theorem w_X7_endsOfKind_6 (r1 rn1 : Nat) (hr1 : KX[r1]? = some (.inr (0, rn1))) (N : Nat) (σ : St) {r : Int32} (C : xC KX g RX7 cX7_endsOfKind 6 (some .int) p s m args meth c) : ∀ (n : Nat), ∀ (x2 : Int32) (x3 : Int32) (x4 : Int32) (x5 : Int32) (H : Heap) (locs : List Loc) (ls : Array Slot), xW KX g s σ H locs → lv_has ls 6 [(0, .ref (g.q 38)), (1, .ref (g.q r1)), (2, .int x2), (3, .int x3), (4, .int x4), (5, .int x5)] → f_X7_endsOfKind_6 r1 rn1 N n x2 x3 x4 x5 σ = some r → W p l e rm_X7_endsOfKind s m args below meth c H locs 0 0 (MQ below (xPost KX g (some (.int r)) σ) args s 0 0 (xA KX g.q)) (F0 m 6 ls []) := by
  have hx := C.1
  have hb := C.2.1
  intro n
  induction n with
  | zero => intro x2 x3 x4 x5 H locs ls hW hl h; rw [f_X7_endsOfKind_6] at h; cases h
  | succ n ih =>
    intro x2 x3 x4 x5 H locs ls hW hl h
    rw [f_X7_endsOfKind_6] at h
    refine lv_iload hx hb dX7_endsOfKind_6 (lv_at hl 5 rfl) ?_
    refine lv_iload_n hx hb dX7_endsOfKind_8 rfl (lv_at hl 2 rfl) ?_
    refine lv_icmp_ge (tgt := 50) hx hb dX7_endsOfKind_9 (by decide) (fun c1 => ?_) (fun c1 => ?_)
    · have h := xit c1 h
      refine lv_iload hx hb dX7_endsOfKind_50 (lv_at hl 4 rfl) ?_
      cases h
      exact xr_i C hW dX7_endsOfKind_52
    · have h := xif c1 h
      refine lv_iload_n hx hb dX7_endsOfKind_12 rfl (lv_at hl 3 rfl) ?_
      refine lv_iload hx hb dX7_endsOfKind_13 (lv_at hl 5 rfl) ?_
      refine lv_iushr (v := ushr x3 x5) hx hb dX7_endsOfKind_15 rfl ?_
      refine lv_iconst (v := 1) hx hb dX7_endsOfKind_16 rfl ?_
      refine lv_iand hx hb dX7_endsOfKind_17 ?_
      refine lv_iconst (v := 1) hx hb dX7_endsOfKind_18 rfl ?_
      refine lv_icmp_ne (tgt := 44) hx hb dX7_endsOfKind_19 (by decide) (fun c2 => ?_) (fun c2 => ?_)
      · have h := xif c2 h
        refine lv_iinc (v := x5 + 1) (lv' := [(5, .int (x5 + 1)), (0, .ref (g.q 38)), (1, .ref (g.q r1)), (2, .int x2), (3, .int x3), (4, .int x4)]) hx hb dX7_endsOfKind_44 hl (k := 5) rfl rfl (Nat.le_of_ble_eq_true rfl) rfl (fun ls hl => ?_)
        refine lv_goto (tgt := 6) hx hb dX7_endsOfKind_47 (by decide) ?_
        exact ih x2 x3 x4 (x5 + 1) _ _ _ hW (lv_sub hl [1, 2, 3, 4, 5, 0] rfl) h
      · have h := xit c2 h
        refine lv_aload_n hx hb dX7_endsOfKind_22 rfl (lv_at hl 0 rfl) ?_
        refine lv_aload_n hx hb dX7_endsOfKind_23 rfl (lv_at hl 1 rfl) ?_
        refine lv_iload hx hb dX7_endsOfKind_24 (lv_at hl 5 rfl) ?_
        obtain ⟨g3, h⟩ := xgd h
        refine xa_i C hW hr1 g3 (x := σ.1 r1 x5.toNatClampNeg) rfl dX7_endsOfKind_26 ?_
        obtain ⟨r4_, e4, h⟩ := xbo h
        refine xc_V (As := [.int (σ.1 r1 x5.toNatClampNeg)]) (rest := []) C hW (m_X7_isOfKind (σ.1 r1 x5.toNatClampNeg) _ e4) mf_X7_isOfKind mv_X7_isOfKind ml_X7_108 ⟨rfl, rfl⟩ ⟨Nat.le_of_ble_eq_true rfl, Nat.le_of_ble_eq_true rfl⟩ KX_38 rfl hl.1 rfl rfl (Nat.le_of_ble_eq_true rfl) dX7_endsOfKind_27 (fun H locs hW => W.eq (g2 := F0 m 30 ls [.int r4_]) rfl ?_)
        refine lv_if_eq (tgt := 44) hx hb dX7_endsOfKind_30 (by decide) (fun c5 => ?_) (fun c5 => ?_)
        · have h := xit c5 h
          refine lv_iinc (v := x5 + 1) (lv' := [(5, .int (x5 + 1)), (0, .ref (g.q 38)), (1, .ref (g.q r1)), (2, .int x2), (3, .int x3), (4, .int x4)]) hx hb dX7_endsOfKind_44 hl (k := 5) rfl rfl (Nat.le_of_ble_eq_true rfl) rfl (fun ls hl => ?_)
          refine lv_goto (tgt := 6) hx hb dX7_endsOfKind_47 (by decide) ?_
          exact ih x2 x3 x4 (x5 + 1) _ _ _ hW (lv_sub hl [1, 2, 3, 4, 5, 0] rfl) h
        · have h := xif c5 h
          refine lv_iload hx hb dX7_endsOfKind_33 (lv_at hl 4 rfl) ?_
          refine lv_iconst (v := 1) hx hb dX7_endsOfKind_35 rfl ?_
          refine lv_iload hx hb dX7_endsOfKind_36 (lv_at hl 5 rfl) ?_
          refine lv_iconst (v := 1) hx hb dX7_endsOfKind_38 rfl ?_
          refine lv_iadd hx hb dX7_endsOfKind_39 ?_
          refine lv_ishl hx hb dX7_endsOfKind_40 ?_
          refine lv_ior hx hb dX7_endsOfKind_41 ?_
          refine lv_istore (lv' := [(4, .int (x4 ||| (1 <<< ((x5 + 1) &&& 31)))), (0, .ref (g.q 38)), (1, .ref (g.q r1)), (2, .int x2), (3, .int x3), (5, .int x5)]) hx hb dX7_endsOfKind_42 hl (Nat.le_of_ble_eq_true rfl) rfl (fun ls hl => ?_)
          refine lv_iinc (v := x5 + 1) (lv' := [(5, .int (x5 + 1)), (4, .int (x4 ||| (1 <<< ((x5 + 1) &&& 31)))), (0, .ref (g.q 38)), (1, .ref (g.q r1)), (2, .int x2), (3, .int x3)]) hx hb dX7_endsOfKind_44 hl (k := 5) rfl rfl (Nat.le_of_ble_eq_true rfl) rfl (fun ls hl => ?_)
          refine lv_goto (tgt := 6) hx hb dX7_endsOfKind_47 (by decide) ?_
          exact ih x2 x3 (x4 ||| (1 <<< ((x5 + 1) &&& 31))) (x5 + 1) _ _ _ hW (lv_sub hl [2, 3, 4, 5, 1, 0] rfl) h
set_option maxRecDepth 4000 in
theorem m_X7_endsOfKind (r1 rn1 : Nat) (hr1 : KX[r1]? = some (.inr (0, rn1))) (N : Nat) (x2 : Int32) (x3 : Int32) (σ : St) {r : Int32} (h : f_X7_endsOfKind r1 rn1 N x2 x3 σ = some r) : xM l KX g yX7_endsOfKind cX7_endsOfKind 6 (some .int) rm_X7_endsOfKind [.ref (g.q 38), .ref (g.q r1), .int x2, .int x3] σ (some (.int r)) σ := by
  refine xmet pn_X7 rfl (Nat.le_of_ble_eq_true rfl) (lv := [(0, .ref (g.q 38)), (1, .ref (g.q r1)), (2, .int x2), (3, .int x3)]) rfl (fun p e s m args below meth c ls C hW hl => ?_)
  have hx := C.1
  have hb := C.2.1
  unfold f_X7_endsOfKind at h
  refine lv_iconst (v := 0) hx hb dX7_endsOfKind_0 rfl ?_
  refine lv_istore (lv' := [(4, .int 0), (0, .ref (g.q 38)), (1, .ref (g.q r1)), (2, .int x2), (3, .int x3)]) hx hb dX7_endsOfKind_1 hl (Nat.le_of_ble_eq_true rfl) rfl (fun ls hl => ?_)
  refine lv_iconst (v := 1) hx hb dX7_endsOfKind_3 rfl ?_
  refine lv_istore (lv' := [(5, .int 1), (4, .int 0), (0, .ref (g.q 38)), (1, .ref (g.q r1)), (2, .int x2), (3, .int x3)]) hx hb dX7_endsOfKind_4 hl (Nat.le_of_ble_eq_true rfl) rfl (fun ls hl => ?_)
  exact w_X7_endsOfKind_6 r1 rn1 hr1 N σ C N x2 x3 0 1 _ _ _ hW (lv_sub hl [2, 3, 4, 5, 1, 0] rfl) h
end
theorem dX7_endsFrom_0 : decode cX7_endsFrom 0 = .ok (.aload_n 0, 1) := by decide +kernel
theorem dX7_endsFrom_1 : decode cX7_endsFrom 1 = .ok (.aload_n 1, 1) := by decide +kernel
theorem dX7_endsFrom_2 : decode cX7_endsFrom 2 = .ok (.iload_n 2, 1) := by decide +kernel
theorem dX7_endsFrom_3 : decode cX7_endsFrom 3 = .ok (.iload_n 3, 1) := by decide +kernel
theorem dX7_endsFrom_4 : decode cX7_endsFrom 4 = .ok (.invokevirtual 80, 3) := by decide +kernel
theorem dX7_endsFrom_7 : decode cX7_endsFrom 7 = .ok (.istore 4, 2) := by decide +kernel
theorem dX7_endsFrom_9 : decode cX7_endsFrom 9 = .ok (.iload_n 3, 1) := by decide +kernel
theorem dX7_endsFrom_10 : decode cX7_endsFrom 10 = .ok (.iload_n 2, 1) := by decide +kernel
theorem dX7_endsFrom_11 : decode cX7_endsFrom 11 = .ok (.if_icmp .ge 52, 3) := by decide +kernel
theorem dX7_endsFrom_14 : decode cX7_endsFrom 14 = .ok (.aload_n 0, 1) := by decide +kernel
theorem dX7_endsFrom_15 : decode cX7_endsFrom 15 = .ok (.aload_n 1, 1) := by decide +kernel
theorem dX7_endsFrom_16 : decode cX7_endsFrom 16 = .ok (.iload_n 3, 1) := by decide +kernel
theorem dX7_endsFrom_17 : decode cX7_endsFrom 17 = .ok (.iaload, 1) := by decide +kernel
theorem dX7_endsFrom_18 : decode cX7_endsFrom 18 = .ok (.invokevirtual 84, 3) := by decide +kernel
theorem dX7_endsFrom_21 : decode cX7_endsFrom 21 = .ok (.ifCond .eq 42, 3) := by decide +kernel
theorem dX7_endsFrom_24 : decode cX7_endsFrom 24 = .ok (.iload 4, 2) := by decide +kernel
theorem dX7_endsFrom_26 : decode cX7_endsFrom 26 = .ok (.iconst 1, 1) := by decide +kernel
theorem dX7_endsFrom_27 : decode cX7_endsFrom 27 = .ok (.iload_n 3, 1) := by decide +kernel
theorem dX7_endsFrom_28 : decode cX7_endsFrom 28 = .ok (.iconst 1, 1) := by decide +kernel
theorem dX7_endsFrom_29 : decode cX7_endsFrom 29 = .ok (.iadd, 1) := by decide +kernel
theorem dX7_endsFrom_30 : decode cX7_endsFrom 30 = .ok (.ishl, 1) := by decide +kernel
theorem dX7_endsFrom_31 : decode cX7_endsFrom 31 = .ok (.ior, 1) := by decide +kernel
theorem dX7_endsFrom_32 : decode cX7_endsFrom 32 = .ok (.istore 4, 2) := by decide +kernel
theorem dX7_endsFrom_34 : decode cX7_endsFrom 34 = .ok (.iload_n 3, 1) := by decide +kernel
theorem dX7_endsFrom_35 : decode cX7_endsFrom 35 = .ok (.iconst 1, 1) := by decide +kernel
theorem dX7_endsFrom_36 : decode cX7_endsFrom 36 = .ok (.iadd, 1) := by decide +kernel
theorem dX7_endsFrom_37 : decode cX7_endsFrom 37 = .ok (.iload_n 2, 1) := by decide +kernel
theorem dX7_endsFrom_38 : decode cX7_endsFrom 38 = .ok (.if_icmp .ge 25, 3) := by decide +kernel
theorem dX7_endsFrom_41 : decode cX7_endsFrom 41 = .ok (.aload_n 0, 1) := by decide +kernel
theorem dX7_endsFrom_42 : decode cX7_endsFrom 42 = .ok (.aload_n 1, 1) := by decide +kernel
theorem dX7_endsFrom_43 : decode cX7_endsFrom 43 = .ok (.iload_n 3, 1) := by decide +kernel
theorem dX7_endsFrom_44 : decode cX7_endsFrom 44 = .ok (.iconst 1, 1) := by decide +kernel
theorem dX7_endsFrom_45 : decode cX7_endsFrom 45 = .ok (.iadd, 1) := by decide +kernel
theorem dX7_endsFrom_46 : decode cX7_endsFrom 46 = .ok (.iaload, 1) := by decide +kernel
theorem dX7_endsFrom_47 : decode cX7_endsFrom 47 = .ok (.invokevirtual 88, 3) := by decide +kernel
theorem dX7_endsFrom_50 : decode cX7_endsFrom 50 = .ok (.ifCond .eq 13, 3) := by decide +kernel
theorem dX7_endsFrom_53 : decode cX7_endsFrom 53 = .ok (.iload 4, 2) := by decide +kernel
theorem dX7_endsFrom_55 : decode cX7_endsFrom 55 = .ok (.iconst 1, 1) := by decide +kernel
theorem dX7_endsFrom_56 : decode cX7_endsFrom 56 = .ok (.iload_n 3, 1) := by decide +kernel
theorem dX7_endsFrom_57 : decode cX7_endsFrom 57 = .ok (.iconst 2, 1) := by decide +kernel
theorem dX7_endsFrom_58 : decode cX7_endsFrom 58 = .ok (.iadd, 1) := by decide +kernel
theorem dX7_endsFrom_59 : decode cX7_endsFrom 59 = .ok (.ishl, 1) := by decide +kernel
theorem dX7_endsFrom_60 : decode cX7_endsFrom 60 = .ok (.ior, 1) := by decide +kernel
theorem dX7_endsFrom_61 : decode cX7_endsFrom 61 = .ok (.istore 4, 2) := by decide +kernel
theorem dX7_endsFrom_63 : decode cX7_endsFrom 63 = .ok (.aload_n 0, 1) := by decide +kernel
theorem dX7_endsFrom_64 : decode cX7_endsFrom 64 = .ok (.invokevirtual 91, 3) := by decide +kernel
theorem dX7_endsFrom_67 : decode cX7_endsFrom 67 = .ok (.ifCond .eq 14, 3) := by decide +kernel
theorem dX7_endsFrom_70 : decode cX7_endsFrom 70 = .ok (.aload_n 0, 1) := by decide +kernel
theorem dX7_endsFrom_71 : decode cX7_endsFrom 71 = .ok (.aload_n 1, 1) := by decide +kernel
theorem dX7_endsFrom_72 : decode cX7_endsFrom 72 = .ok (.iload_n 2, 1) := by decide +kernel
theorem dX7_endsFrom_73 : decode cX7_endsFrom 73 = .ok (.iload 4, 2) := by decide +kernel
theorem dX7_endsFrom_75 : decode cX7_endsFrom 75 = .ok (.invokevirtual 95, 3) := by decide +kernel
theorem dX7_endsFrom_78 : decode cX7_endsFrom 78 = .ok (.goto 5, 3) := by decide +kernel
theorem dX7_endsFrom_81 : decode cX7_endsFrom 81 = .ok (.iload 4, 2) := by decide +kernel
theorem dX7_endsFrom_83 : decode cX7_endsFrom 83 = .ok (.ireturn, 1) := by decide +kernel
abbrev rm_X7_endsFrom : Room := { frames := 4, cells := 0, slots := 0, locals := 95 }
def f_X7_endsFrom_63 (r1 rn1 : Nat) (N : Nat) (x2 : Int32) (x4 : Int32) (σ : St) : Option Int32 := (if (f_X7_hasKind σ) = 0 then some x4 else bo (f_X7_endsOfKind r1 rn1 N x2 x4 σ) (fun r11_ => some r11_))
def f_X7_endsFrom (r1 rn1 : Nat) (N : Nat) (x2 : Int32) (x3 : Int32) (σ : St) : Option Int32 := bo (f_X7_coverEnds r1 rn1 N x2 x3 σ) (fun r1_ => (if x2 ≤ x3 then f_X7_endsFrom_63 r1 rn1 N x2 r1_ σ else grd (ib x3 rn1) (bo (f_X7_isIdea (σ.1 r1 x3.toNatClampNeg) σ) (fun r4_ => (if r4_ = 0 then f_X7_endsFrom_63 r1 rn1 N x2 r1_ σ else (if x2 ≤ (x3 + 1) then f_X7_endsFrom_63 r1 rn1 N x2 (r1_ ||| (1 <<< ((x3 + 1) &&& 31))) σ else grd (ib (x3 + 1) rn1) (bo (f_X7_isTail (σ.1 r1 (x3 + 1).toNatClampNeg) σ) (fun r8_ => (if r8_ = 0 then f_X7_endsFrom_63 r1 rn1 N x2 (r1_ ||| (1 <<< ((x3 + 1) &&& 31))) σ else f_X7_endsFrom_63 r1 rn1 N x2 ((r1_ ||| (1 <<< ((x3 + 1) &&& 31))) ||| (1 <<< ((x3 + 2) &&& 31))) σ)))))))))
section
variable {p : Program} {l : Launch} {e : Env} {s : State} {m : MethodId} {args : Array Value} {below : List Frame} {meth : Method} {c : Code} {g : XG}
set_option maxRecDepth 4000 in
theorem w_X7_endsFrom_63 (r1 rn1 : Nat) (hr1 : KX[r1]? = some (.inr (0, rn1))) (N : Nat) (σ : St) {r : Int32} (C : xC KX g RX7 cX7_endsFrom 5 (some .int) p s m args meth c) : ∀ (x2 : Int32) (x4 : Int32) (H : Heap) (locs : List Loc) (ls : Array Slot), xW KX g s σ H locs → lv_has ls 5 [(0, .ref (g.q 38)), (1, .ref (g.q r1)), (2, .int x2), (4, .int x4)] → f_X7_endsFrom_63 r1 rn1 N x2 x4 σ = some r → W p l e rm_X7_endsFrom s m args below meth c H locs 0 0 (MQ below (xPost KX g (some (.int r)) σ) args s 0 0 (xA KX g.q)) (F0 m 63 ls []) := by
  have hx := C.1
  have hb := C.2.1
  intro x2 x4 H locs ls hW hl h
  unfold f_X7_endsFrom_63 at h
  refine lv_aload_n hx hb dX7_endsFrom_63 rfl (lv_at hl 0 rfl) ?_
  refine xc_V (As := []) (rest := []) C hW (m_X7_hasKind _ rfl) mf_X7_hasKind mv_X7_hasKind ml_X7_91 ⟨rfl, rfl⟩ ⟨Nat.le_of_ble_eq_true rfl, Nat.le_of_ble_eq_true rfl⟩ KX_38 rfl hl.1 rfl rfl (Nat.le_of_ble_eq_true rfl) dX7_endsFrom_64 (fun H locs hW => W.eq (g2 := F0 m 67 ls [.int (f_X7_hasKind σ)]) rfl ?_)
  refine lv_if_eq (tgt := 81) hx hb dX7_endsFrom_67 (by decide) (fun c10 => ?_) (fun c10 => ?_)
  · have h := xit c10 h
    refine lv_iload hx hb dX7_endsFrom_81 (lv_at hl 3 rfl) ?_
    cases h
    exact xr_i C hW dX7_endsFrom_83
  · have h := xif c10 h
    refine lv_aload_n hx hb dX7_endsFrom_70 rfl (lv_at hl 0 rfl) ?_
    refine lv_aload_n hx hb dX7_endsFrom_71 rfl (lv_at hl 1 rfl) ?_
    refine lv_iload_n hx hb dX7_endsFrom_72 rfl (lv_at hl 2 rfl) ?_
    refine lv_iload hx hb dX7_endsFrom_73 (lv_at hl 3 rfl) ?_
    obtain ⟨r11_, e11, h⟩ := xbo h
    refine xc_V (As := [.ref (g.q r1), .int x2, .int x4]) (rest := []) C hW (m_X7_endsOfKind r1 rn1 hr1 N x2 x4 _ e11) mf_X7_endsOfKind mv_X7_endsOfKind ml_X7_95 ⟨rfl, rfl⟩ ⟨Nat.le_of_ble_eq_true rfl, Nat.le_of_ble_eq_true rfl⟩ KX_38 rfl hl.1 rfl rfl (Nat.le_of_ble_eq_true rfl) dX7_endsFrom_75 (fun H locs hW => W.eq (g2 := F0 m 78 ls [.int r11_]) rfl ?_)
    refine lv_goto (tgt := 83) hx hb dX7_endsFrom_78 (by decide) ?_
    cases h
    exact xr_i C hW dX7_endsFrom_83
set_option maxRecDepth 4000 in
theorem m_X7_endsFrom (r1 rn1 : Nat) (hr1 : KX[r1]? = some (.inr (0, rn1))) (N : Nat) (x2 : Int32) (x3 : Int32) (σ : St) {r : Int32} (h : f_X7_endsFrom r1 rn1 N x2 x3 σ = some r) : xM l KX g yX7_endsFrom cX7_endsFrom 5 (some .int) rm_X7_endsFrom [.ref (g.q 38), .ref (g.q r1), .int x2, .int x3] σ (some (.int r)) σ := by
  refine xmet pn_X7 rfl (Nat.le_of_ble_eq_true rfl) (lv := [(0, .ref (g.q 38)), (1, .ref (g.q r1)), (2, .int x2), (3, .int x3)]) rfl (fun p e s m args below meth c ls C hW hl => ?_)
  have hx := C.1
  have hb := C.2.1
  unfold f_X7_endsFrom at h
  refine lv_aload_n hx hb dX7_endsFrom_0 rfl (lv_at hl 0 rfl) ?_
  refine lv_aload_n hx hb dX7_endsFrom_1 rfl (lv_at hl 1 rfl) ?_
  refine lv_iload_n hx hb dX7_endsFrom_2 rfl (lv_at hl 2 rfl) ?_
  refine lv_iload_n hx hb dX7_endsFrom_3 rfl (lv_at hl 3 rfl) ?_
  obtain ⟨r1_, e1, h⟩ := xbo h
  refine xc_V (As := [.ref (g.q r1), .int x2, .int x3]) (rest := []) C hW (m_X7_coverEnds r1 rn1 hr1 N x2 x3 _ e1) mf_X7_coverEnds mv_X7_coverEnds ml_X7_80 ⟨rfl, rfl⟩ ⟨Nat.le_of_ble_eq_true rfl, Nat.le_of_ble_eq_true rfl⟩ KX_38 rfl hl.1 rfl rfl (Nat.le_of_ble_eq_true rfl) dX7_endsFrom_4 (fun H locs hW => W.eq (g2 := F0 m 7 ls [.int r1_]) rfl ?_)
  refine lv_istore (lv' := [(4, .int r1_), (0, .ref (g.q 38)), (1, .ref (g.q r1)), (2, .int x2), (3, .int x3)]) hx hb dX7_endsFrom_7 hl (Nat.le_of_ble_eq_true rfl) rfl (fun ls hl => ?_)
  refine lv_iload_n hx hb dX7_endsFrom_9 rfl (lv_at hl 4 rfl) ?_
  refine lv_iload_n hx hb dX7_endsFrom_10 rfl (lv_at hl 3 rfl) ?_
  refine lv_icmp_ge (tgt := 63) hx hb dX7_endsFrom_11 (by decide) (fun c2 => ?_) (fun c2 => ?_)
  · have h := xit c2 h
    exact w_X7_endsFrom_63 r1 rn1 hr1 N σ C x2 r1_ _ _ _ hW (lv_sub hl [1, 2, 3, 0] rfl) h
  · have h := xif c2 h
    refine lv_aload_n hx hb dX7_endsFrom_14 rfl (lv_at hl 1 rfl) ?_
    refine lv_aload_n hx hb dX7_endsFrom_15 rfl (lv_at hl 2 rfl) ?_
    refine lv_iload_n hx hb dX7_endsFrom_16 rfl (lv_at hl 4 rfl) ?_
    obtain ⟨g3, h⟩ := xgd h
    refine xa_i C hW hr1 g3 (x := σ.1 r1 x3.toNatClampNeg) rfl dX7_endsFrom_17 ?_
    obtain ⟨r4_, e4, h⟩ := xbo h
    refine xc_V (As := [.int (σ.1 r1 x3.toNatClampNeg)]) (rest := []) C hW (m_X7_isIdea (σ.1 r1 x3.toNatClampNeg) _ e4) mf_X7_isIdea mv_X7_isIdea ml_X7_84 ⟨rfl, rfl⟩ ⟨Nat.le_of_ble_eq_true rfl, Nat.le_of_ble_eq_true rfl⟩ KX_38 rfl hl.1 rfl rfl (Nat.le_of_ble_eq_true rfl) dX7_endsFrom_18 (fun H locs hW => W.eq (g2 := F0 m 21 ls [.int r4_]) rfl ?_)
    refine lv_if_eq (tgt := 63) hx hb dX7_endsFrom_21 (by decide) (fun c5 => ?_) (fun c5 => ?_)
    · have h := xit c5 h
      exact w_X7_endsFrom_63 r1 rn1 hr1 N σ C x2 r1_ _ _ _ hW (lv_sub hl [1, 2, 3, 0] rfl) h
    · have h := xif c5 h
      refine lv_iload hx hb dX7_endsFrom_24 (lv_at hl 0 rfl) ?_
      refine lv_iconst (v := 1) hx hb dX7_endsFrom_26 rfl ?_
      refine lv_iload_n hx hb dX7_endsFrom_27 rfl (lv_at hl 4 rfl) ?_
      refine lv_iconst (v := 1) hx hb dX7_endsFrom_28 rfl ?_
      refine lv_iadd hx hb dX7_endsFrom_29 ?_
      refine lv_ishl hx hb dX7_endsFrom_30 ?_
      refine lv_ior hx hb dX7_endsFrom_31 ?_
      refine lv_istore (lv' := [(4, .int (r1_ ||| (1 <<< ((x3 + 1) &&& 31)))), (0, .ref (g.q 38)), (1, .ref (g.q r1)), (2, .int x2), (3, .int x3)]) hx hb dX7_endsFrom_32 hl (Nat.le_of_ble_eq_true rfl) rfl (fun ls hl => ?_)
      refine lv_iload_n hx hb dX7_endsFrom_34 rfl (lv_at hl 4 rfl) ?_
      refine lv_iconst (v := 1) hx hb dX7_endsFrom_35 rfl ?_
      refine lv_iadd hx hb dX7_endsFrom_36 ?_
      refine lv_iload_n hx hb dX7_endsFrom_37 rfl (lv_at hl 3 rfl) ?_
      refine lv_icmp_ge (tgt := 63) hx hb dX7_endsFrom_38 (by decide) (fun c6 => ?_) (fun c6 => ?_)
      · have h := xit c6 h
        exact w_X7_endsFrom_63 r1 rn1 hr1 N σ C x2 (r1_ ||| (1 <<< ((x3 + 1) &&& 31))) _ _ _ hW (lv_sub hl [1, 2, 3, 0] rfl) h
      · have h := xif c6 h
        refine lv_aload_n hx hb dX7_endsFrom_41 rfl (lv_at hl 1 rfl) ?_
        refine lv_aload_n hx hb dX7_endsFrom_42 rfl (lv_at hl 2 rfl) ?_
        refine lv_iload_n hx hb dX7_endsFrom_43 rfl (lv_at hl 4 rfl) ?_
        refine lv_iconst (v := 1) hx hb dX7_endsFrom_44 rfl ?_
        refine lv_iadd hx hb dX7_endsFrom_45 ?_
        obtain ⟨g7, h⟩ := xgd h
        refine xa_i C hW hr1 g7 (x := σ.1 r1 (x3 + 1).toNatClampNeg) rfl dX7_endsFrom_46 ?_
        obtain ⟨r8_, e8, h⟩ := xbo h
        refine xc_V (As := [.int (σ.1 r1 (x3 + 1).toNatClampNeg)]) (rest := []) C hW (m_X7_isTail (σ.1 r1 (x3 + 1).toNatClampNeg) _ e8) mf_X7_isTail mv_X7_isTail ml_X7_88 ⟨rfl, rfl⟩ ⟨Nat.le_of_ble_eq_true rfl, Nat.le_of_ble_eq_true rfl⟩ KX_38 rfl hl.1 rfl rfl (Nat.le_of_ble_eq_true rfl) dX7_endsFrom_47 (fun H locs hW => W.eq (g2 := F0 m 50 ls [.int r8_]) rfl ?_)
        refine lv_if_eq (tgt := 63) hx hb dX7_endsFrom_50 (by decide) (fun c9 => ?_) (fun c9 => ?_)
        · have h := xit c9 h
          exact w_X7_endsFrom_63 r1 rn1 hr1 N σ C x2 (r1_ ||| (1 <<< ((x3 + 1) &&& 31))) _ _ _ hW (lv_sub hl [1, 2, 3, 0] rfl) h
        · have h := xif c9 h
          refine lv_iload hx hb dX7_endsFrom_53 (lv_at hl 0 rfl) ?_
          refine lv_iconst (v := 1) hx hb dX7_endsFrom_55 rfl ?_
          refine lv_iload_n hx hb dX7_endsFrom_56 rfl (lv_at hl 4 rfl) ?_
          refine lv_iconst (v := 2) hx hb dX7_endsFrom_57 rfl ?_
          refine lv_iadd hx hb dX7_endsFrom_58 ?_
          refine lv_ishl hx hb dX7_endsFrom_59 ?_
          refine lv_ior hx hb dX7_endsFrom_60 ?_
          refine lv_istore (lv' := [(4, .int ((r1_ ||| (1 <<< ((x3 + 1) &&& 31))) ||| (1 <<< ((x3 + 2) &&& 31)))), (0, .ref (g.q 38)), (1, .ref (g.q r1)), (2, .int x2), (3, .int x3)]) hx hb dX7_endsFrom_61 hl (Nat.le_of_ble_eq_true rfl) rfl (fun ls hl => ?_)
          exact w_X7_endsFrom_63 r1 rn1 hr1 N σ C x2 ((r1_ ||| (1 <<< ((x3 + 1) &&& 31))) ||| (1 <<< ((x3 + 2) &&& 31))) _ _ _ hW (lv_sub hl [1, 2, 3, 0] rfl) h
end
theorem dX5_isSpellingOf_0 : decode cX5_isSpellingOf 0 = .ok (.aload_n 0, 1) := by decide +kernel
theorem dX5_isSpellingOf_1 : decode cX5_isSpellingOf 1 = .ok (.getfield 50, 3) := by decide +kernel
theorem dX5_isSpellingOf_4 : decode cX5_isSpellingOf 4 = .ok (.aload_n 0, 1) := by decide +kernel
theorem dX5_isSpellingOf_5 : decode cX5_isSpellingOf 5 = .ok (.getfield 42, 3) := by decide +kernel
theorem dX5_isSpellingOf_8 : decode cX5_isSpellingOf 8 = .ok (.iload_n 1, 1) := by decide +kernel
theorem dX5_isSpellingOf_9 : decode cX5_isSpellingOf 9 = .ok (.invokevirtual 89, 3) := by decide +kernel
theorem dX5_isSpellingOf_12 : decode cX5_isSpellingOf 12 = .ok (.aload_n 0, 1) := by decide +kernel
theorem dX5_isSpellingOf_13 : decode cX5_isSpellingOf 13 = .ok (.getfield 50, 3) := by decide +kernel
theorem dX5_isSpellingOf_16 : decode cX5_isSpellingOf 16 = .ok (.aload_n 0, 1) := by decide +kernel
theorem dX5_isSpellingOf_17 : decode cX5_isSpellingOf 17 = .ok (.getfield 11, 3) := by decide +kernel
theorem dX5_isSpellingOf_20 : decode cX5_isSpellingOf 20 = .ok (.aload_n 0, 1) := by decide +kernel
theorem dX5_isSpellingOf_21 : decode cX5_isSpellingOf 21 = .ok (.getfield 54, 3) := by decide +kernel
theorem dX5_isSpellingOf_24 : decode cX5_isSpellingOf 24 = .ok (.iconst 0, 1) := by decide +kernel
theorem dX5_isSpellingOf_25 : decode cX5_isSpellingOf 25 = .ok (.invokevirtual 95, 3) := by decide +kernel
theorem dX5_isSpellingOf_28 : decode cX5_isSpellingOf 28 = .ok (.aload_n 0, 1) := by decide +kernel
theorem dX5_isSpellingOf_29 : decode cX5_isSpellingOf 29 = .ok (.getfield 54, 3) := by decide +kernel
theorem dX5_isSpellingOf_32 : decode cX5_isSpellingOf 32 = .ok (.iushr, 1) := by decide +kernel
theorem dX5_isSpellingOf_33 : decode cX5_isSpellingOf 33 = .ok (.iconst 1, 1) := by decide +kernel
theorem dX5_isSpellingOf_34 : decode cX5_isSpellingOf 34 = .ok (.iand, 1) := by decide +kernel
theorem dX5_isSpellingOf_35 : decode cX5_isSpellingOf 35 = .ok (.iconst 1, 1) := by decide +kernel
theorem dX5_isSpellingOf_36 : decode cX5_isSpellingOf 36 = .ok (.if_icmp .ne 7, 3) := by decide +kernel
theorem dX5_isSpellingOf_39 : decode cX5_isSpellingOf 39 = .ok (.iconst 1, 1) := by decide +kernel
theorem dX5_isSpellingOf_40 : decode cX5_isSpellingOf 40 = .ok (.goto 4, 3) := by decide +kernel
theorem dX5_isSpellingOf_43 : decode cX5_isSpellingOf 43 = .ok (.iconst 0, 1) := by decide +kernel
theorem dX5_isSpellingOf_44 : decode cX5_isSpellingOf 44 = .ok (.ireturn, 1) := by decide +kernel
abbrev rm_X5_isSpellingOf : Room := { frames := 5, cells := 0, slots := 0, locals := 119 }
def f_X5_isSpellingOf (N : Nat) (x1 : Int32) (σ : St) : Option (Int32 × St) := bo (f_X7_look 1 x1 σ) (fun σ1 => bo (f_X7_endsFrom 58 24 N (σ1.1 12404 0) 0 σ1) (fun r2_ => (if ((ushr r2_ (σ1.1 12404 0)) &&& 1) = 1 then some (1, σ1) else some (0, σ1))))
section
variable {p : Program} {l : Launch} {e : Env} {s : State} {m : MethodId} {args : Array Value} {below : List Frame} {meth : Method} {c : Code} {g : XG}
set_option maxRecDepth 4000 in
theorem m_X5_isSpellingOf (N : Nat) (x1 : Int32) (σ : St) {r : Int32} {σ' : St} (h : f_X5_isSpellingOf N x1 σ = some (r, σ')) : xM l KX g yX5_isSpellingOf cX5_isSpellingOf 2 (some .boolean) rm_X5_isSpellingOf [.ref (g.q 57), .int x1] σ (some (.int r)) σ' := by
  refine xmet pn_X5 rfl (Nat.le_of_ble_eq_true rfl) (lv := [(0, .ref (g.q 57)), (1, .int x1)]) rfl (fun p e s m args below meth c ls C hW hl => ?_)
  have hx := C.1
  have hb := C.2.1
  unfold f_X5_isSpellingOf at h
  refine lv_aload_n hx hb dX5_isSpellingOf_0 rfl (lv_at hl 0 rfl) ?_
  refine xg_r C hW fg_5_50 KX_57 rfl dX5_isSpellingOf_1 ?_
  refine lv_aload_n hx hb dX5_isSpellingOf_4 rfl (lv_at hl 0 rfl) ?_
  refine xg_r C hW fg_5_42 KX_57 rfl dX5_isSpellingOf_5 ?_
  refine lv_iload_n hx hb dX5_isSpellingOf_8 rfl (lv_at hl 1 rfl) ?_
  obtain ⟨σ1, e1, h⟩ := xbo h
  refine xc_V (As := [.ref (g.q 1), .int x1]) (rest := []) C hW (m_X7_look 1 (Or.inl rfl) x1 _ e1) mf_X7_look mv_X7_look ml_X5_89 ⟨rfl, rfl⟩ ⟨Nat.le_of_ble_eq_true rfl, Nat.le_of_ble_eq_true rfl⟩ KX_38 rfl hl.1 rfl rfl (Nat.le_of_ble_eq_true rfl) dX5_isSpellingOf_9 (fun H locs hW => W.eq (g2 := F0 m 12 ls []) rfl ?_)
  refine lv_aload_n hx hb dX5_isSpellingOf_12 rfl (lv_at hl 0 rfl) ?_
  refine xg_r C hW fg_5_50 KX_57 rfl dX5_isSpellingOf_13 ?_
  refine lv_aload_n hx hb dX5_isSpellingOf_16 rfl (lv_at hl 0 rfl) ?_
  refine xg_r C hW fg_5_11 KX_57 rfl dX5_isSpellingOf_17 ?_
  refine lv_aload_n hx hb dX5_isSpellingOf_20 rfl (lv_at hl 0 rfl) ?_
  refine xg_i C hW fg_5_54 KX_57 rfl (v := 12404) rfl (x := σ1.1 12404 0) rfl dX5_isSpellingOf_21 ?_
  refine lv_iconst (v := 0) hx hb dX5_isSpellingOf_24 rfl ?_
  obtain ⟨r2_, e2, h⟩ := xbo h
  refine xc_V (As := [.ref (g.q 58), .int (σ1.1 12404 0), .int 0]) (rest := []) C hW (m_X7_endsFrom 58 24 KX_58 N (σ1.1 12404 0) 0 _ e2) mf_X7_endsFrom mv_X7_endsFrom ml_X5_95 ⟨rfl, rfl⟩ ⟨Nat.le_of_ble_eq_true rfl, Nat.le_of_ble_eq_true rfl⟩ KX_38 rfl hl.1 rfl rfl (Nat.le_of_ble_eq_true rfl) dX5_isSpellingOf_25 (fun H locs hW => W.eq (g2 := F0 m 28 ls [.int r2_]) rfl ?_)
  refine lv_aload_n hx hb dX5_isSpellingOf_28 rfl (lv_at hl 0 rfl) ?_
  refine xg_i C hW fg_5_54 KX_57 rfl (v := 12404) rfl (x := σ1.1 12404 0) rfl dX5_isSpellingOf_29 ?_
  refine lv_iushr (v := ushr r2_ (σ1.1 12404 0)) hx hb dX5_isSpellingOf_32 rfl ?_
  refine lv_iconst (v := 1) hx hb dX5_isSpellingOf_33 rfl ?_
  refine lv_iand hx hb dX5_isSpellingOf_34 ?_
  refine lv_iconst (v := 1) hx hb dX5_isSpellingOf_35 rfl ?_
  refine lv_icmp_ne (tgt := 43) hx hb dX5_isSpellingOf_36 (by decide) (fun c3 => ?_) (fun c3 => ?_)
  · have h := xif c3 h
    refine lv_iconst (v := 0) hx hb dX5_isSpellingOf_43 rfl ?_
    cases h
    exact xr_z C hW (by decide) dX5_isSpellingOf_44
  · have h := xit c3 h
    refine lv_iconst (v := 1) hx hb dX5_isSpellingOf_39 rfl ?_
    refine lv_goto (tgt := 44) hx hb dX5_isSpellingOf_40 (by decide) ?_
    cases h
    exact xr_z C hW (by decide) dX5_isSpellingOf_44
end
theorem dX5_waysBehind_0 : decode cX5_waysBehind 0 = .ok (.lconst 0, 1) := by decide +kernel
theorem dX5_waysBehind_1 : decode cX5_waysBehind 1 = .ok (.lstore_n 3, 1) := by decide +kernel
theorem dX5_waysBehind_2 : decode cX5_waysBehind 2 = .ok (.iload_n 2, 1) := by decide +kernel
theorem dX5_waysBehind_3 : decode cX5_waysBehind 3 = .ok (.iconst 1, 1) := by decide +kernel
theorem dX5_waysBehind_4 : decode cX5_waysBehind 4 = .ok (.iadd, 1) := by decide +kernel
theorem dX5_waysBehind_5 : decode cX5_waysBehind 5 = .ok (.istore 5, 2) := by decide +kernel
theorem dX5_waysBehind_7 : decode cX5_waysBehind 7 = .ok (.iload 5, 2) := by decide +kernel
theorem dX5_waysBehind_9 : decode cX5_waysBehind 9 = .ok (.aload_n 0, 1) := by decide +kernel
theorem dX5_waysBehind_10 : decode cX5_waysBehind 10 = .ok (.getfield 54, 3) := by decide +kernel
theorem dX5_waysBehind_13 : decode cX5_waysBehind 13 = .ok (.if_icmp .gt 29, 3) := by decide +kernel
theorem dX5_waysBehind_16 : decode cX5_waysBehind 16 = .ok (.iload_n 1, 1) := by decide +kernel
theorem dX5_waysBehind_17 : decode cX5_waysBehind 17 = .ok (.iload 5, 2) := by decide +kernel
theorem dX5_waysBehind_19 : decode cX5_waysBehind 19 = .ok (.iushr, 1) := by decide +kernel
theorem dX5_waysBehind_20 : decode cX5_waysBehind 20 = .ok (.iconst 1, 1) := by decide +kernel
theorem dX5_waysBehind_21 : decode cX5_waysBehind 21 = .ok (.iand, 1) := by decide +kernel
theorem dX5_waysBehind_22 : decode cX5_waysBehind 22 = .ok (.iconst 1, 1) := by decide +kernel
theorem dX5_waysBehind_23 : decode cX5_waysBehind 23 = .ok (.if_icmp .ne 13, 3) := by decide +kernel
theorem dX5_waysBehind_26 : decode cX5_waysBehind 26 = .ok (.lload_n 3, 1) := by decide +kernel
theorem dX5_waysBehind_27 : decode cX5_waysBehind 27 = .ok (.aload_n 0, 1) := by decide +kernel
theorem dX5_waysBehind_28 : decode cX5_waysBehind 28 = .ok (.getfield 18, 3) := by decide +kernel
theorem dX5_waysBehind_31 : decode cX5_waysBehind 31 = .ok (.iload 5, 2) := by decide +kernel
theorem dX5_waysBehind_33 : decode cX5_waysBehind 33 = .ok (.laload, 1) := by decide +kernel
theorem dX5_waysBehind_34 : decode cX5_waysBehind 34 = .ok (.ladd, 1) := by decide +kernel
theorem dX5_waysBehind_35 : decode cX5_waysBehind 35 = .ok (.lstore_n 3, 1) := by decide +kernel
theorem dX5_waysBehind_36 : decode cX5_waysBehind 36 = .ok (.iinc 5 1, 3) := by decide +kernel
theorem dX5_waysBehind_39 : decode cX5_waysBehind 39 = .ok (.goto (-32), 3) := by decide +kernel
theorem dX5_waysBehind_42 : decode cX5_waysBehind 42 = .ok (.lload_n 3, 1) := by decide +kernel
theorem dX5_waysBehind_43 : decode cX5_waysBehind 43 = .ok (.lreturn, 1) := by decide +kernel
abbrev rm_X5_waysBehind : Room := { frames := 0, cells := 0, slots := 0, locals := 0 }
def f_X5_waysBehind_7 (N : Nat) : Nat → Int32 → Int64 → Int32 → St → Option Int64
  | 0, _, _, _, _ => none
  | n + 1, x1, x3, x5, σ => (if (σ.1 12404 0) < x5 then some x3 else (if ((ushr x1 x5) &&& 1) = 1 then grd (ib x5 25) (f_X5_waysBehind_7 N n x1 (x3 + (σ.2 60 x5.toNatClampNeg)) (x5 + 1) σ) else f_X5_waysBehind_7 N n x1 x3 (x5 + 1) σ))
def f_X5_waysBehind (N : Nat) (x1 : Int32) (x2 : Int32) (σ : St) : Option Int64 := f_X5_waysBehind_7 N N x1 0 (x2 + 1) σ
section
variable {p : Program} {l : Launch} {e : Env} {s : State} {m : MethodId} {args : Array Value} {below : List Frame} {meth : Method} {c : Code} {g : XG}
set_option maxRecDepth 4000 in
theorem w_X5_waysBehind_7 (N : Nat) (σ : St) {r : Int64} (C : xC KX g RX5 cX5_waysBehind 6 (some .long) p s m args meth c) : ∀ (n : Nat), ∀ (x1 : Int32) (x3 : Int64) (x5 : Int32) (H : Heap) (locs : List Loc) (ls : Array Slot), xW KX g s σ H locs → lv_has ls 6 [(0, .ref (g.q 57)), (1, .int x1), (3, .long x3), (5, .int x5)] → f_X5_waysBehind_7 N n x1 x3 x5 σ = some r → W p l e rm_X5_waysBehind s m args below meth c H locs 0 0 (MQ below (xPost KX g (some (.long r)) σ) args s 0 0 (xA KX g.q)) (F0 m 7 ls []) := by
  have hx := C.1
  have hb := C.2.1
  intro n
  induction n with
  | zero => intro x1 x3 x5 H locs ls hW hl h; rw [f_X5_waysBehind_7] at h; cases h
  | succ n ih =>
    intro x1 x3 x5 H locs ls hW hl h
    rw [f_X5_waysBehind_7] at h
    refine lv_iload hx hb dX5_waysBehind_7 (lv_at hl 3 rfl) ?_
    refine lv_aload_n hx hb dX5_waysBehind_9 rfl (lv_at hl 0 rfl) ?_
    refine xg_i C hW fg_5_54 KX_57 rfl (v := 12404) rfl (x := σ.1 12404 0) rfl dX5_waysBehind_10 ?_
    refine lv_icmp_gt (tgt := 42) hx hb dX5_waysBehind_13 (by decide) (fun c1 => ?_) (fun c1 => ?_)
    · have h := xit c1 h
      refine lv_lload_n hx hb dX5_waysBehind_42 rfl (lv_at hl 2 rfl) ?_
      cases h
      exact xr_l C hW dX5_waysBehind_43
    · have h := xif c1 h
      refine lv_iload_n hx hb dX5_waysBehind_16 rfl (lv_at hl 1 rfl) ?_
      refine lv_iload hx hb dX5_waysBehind_17 (lv_at hl 3 rfl) ?_
      refine lv_iushr (v := ushr x1 x5) hx hb dX5_waysBehind_19 rfl ?_
      refine lv_iconst (v := 1) hx hb dX5_waysBehind_20 rfl ?_
      refine lv_iand hx hb dX5_waysBehind_21 ?_
      refine lv_iconst (v := 1) hx hb dX5_waysBehind_22 rfl ?_
      refine lv_icmp_ne (tgt := 36) hx hb dX5_waysBehind_23 (by decide) (fun c2 => ?_) (fun c2 => ?_)
      · have h := xif c2 h
        refine lv_iinc (v := x5 + 1) (lv' := [(5, .int (x5 + 1)), (0, .ref (g.q 57)), (1, .int x1), (3, .long x3)]) hx hb dX5_waysBehind_36 hl (k := 3) rfl rfl (Nat.le_of_ble_eq_true rfl) rfl (fun ls hl => ?_)
        refine lv_goto (tgt := 7) hx hb dX5_waysBehind_39 (by decide) ?_
        exact ih x1 x3 (x5 + 1) _ _ _ hW (lv_sub hl [1, 2, 3, 0] rfl) h
      · have h := xit c2 h
        refine lv_lload_n hx hb dX5_waysBehind_26 rfl (lv_at hl 2 rfl) ?_
        refine lv_aload_n hx hb dX5_waysBehind_27 rfl (lv_at hl 0 rfl) ?_
        refine xg_r C hW fg_5_18 KX_57 rfl dX5_waysBehind_28 ?_
        refine lv_iload hx hb dX5_waysBehind_31 (lv_at hl 3 rfl) ?_
        obtain ⟨g3, h⟩ := xgd h
        refine xa_l C hW KX_60 g3 (x := σ.2 60 x5.toNatClampNeg) rfl dX5_waysBehind_33 ?_
        refine lv_ladd hx hb dX5_waysBehind_34 ?_
        refine lv_lstore_n (lv' := [(3, .long (x3 + (σ.2 60 x5.toNatClampNeg))), (0, .ref (g.q 57)), (1, .int x1), (5, .int x5)]) hx hb dX5_waysBehind_35 rfl hl (Nat.le_of_ble_eq_true rfl) rfl (fun ls hl => ?_)
        refine lv_iinc (v := x5 + 1) (lv' := [(5, .int (x5 + 1)), (3, .long (x3 + (σ.2 60 x5.toNatClampNeg))), (0, .ref (g.q 57)), (1, .int x1)]) hx hb dX5_waysBehind_36 hl (k := 3) rfl rfl (Nat.le_of_ble_eq_true rfl) rfl (fun ls hl => ?_)
        refine lv_goto (tgt := 7) hx hb dX5_waysBehind_39 (by decide) ?_
        exact ih x1 (x3 + (σ.2 60 x5.toNatClampNeg)) (x5 + 1) _ _ _ hW (lv_sub hl [2, 3, 1, 0] rfl) h
set_option maxRecDepth 4000 in
theorem m_X5_waysBehind (N : Nat) (x1 : Int32) (x2 : Int32) (σ : St) {r : Int64} (h : f_X5_waysBehind N x1 x2 σ = some r) : xM l KX g yX5_waysBehind cX5_waysBehind 6 (some .long) rm_X5_waysBehind [.ref (g.q 57), .int x1, .int x2] σ (some (.long r)) σ := by
  refine xmet pn_X5 rfl (Nat.le_of_ble_eq_true rfl) (lv := [(0, .ref (g.q 57)), (1, .int x1), (2, .int x2)]) rfl (fun p e s m args below meth c ls C hW hl => ?_)
  have hx := C.1
  have hb := C.2.1
  unfold f_X5_waysBehind at h
  refine lv_lconst (v := 0) hx hb dX5_waysBehind_0 rfl ?_
  refine lv_lstore_n (lv' := [(3, .long 0), (0, .ref (g.q 57)), (1, .int x1), (2, .int x2)]) hx hb dX5_waysBehind_1 rfl hl (Nat.le_of_ble_eq_true rfl) rfl (fun ls hl => ?_)
  refine lv_iload_n hx hb dX5_waysBehind_2 rfl (lv_at hl 3 rfl) ?_
  refine lv_iconst (v := 1) hx hb dX5_waysBehind_3 rfl ?_
  refine lv_iadd hx hb dX5_waysBehind_4 ?_
  refine lv_istore (lv' := [(5, .int (x2 + 1)), (3, .long 0), (0, .ref (g.q 57)), (1, .int x1), (2, .int x2)]) hx hb dX5_waysBehind_5 hl (Nat.le_of_ble_eq_true rfl) rfl (fun ls hl => ?_)
  exact w_X5_waysBehind_7 N σ C N x1 0 (x2 + 1) _ _ _ hW (lv_sub hl [2, 3, 1, 0] rfl) h
end
theorem dX5_countWays_0 : decode cX5_countWays 0 = .ok (.aload_n 0, 1) := by decide +kernel
theorem dX5_countWays_1 : decode cX5_countWays 1 = .ok (.getfield 18, 3) := by decide +kernel
theorem dX5_countWays_4 : decode cX5_countWays 4 = .ok (.aload_n 0, 1) := by decide +kernel
theorem dX5_countWays_5 : decode cX5_countWays 5 = .ok (.getfield 54, 3) := by decide +kernel
theorem dX5_countWays_8 : decode cX5_countWays 8 = .ok (.lconst 1, 1) := by decide +kernel
theorem dX5_countWays_9 : decode cX5_countWays 9 = .ok (.lastore, 1) := by decide +kernel
theorem dX5_countWays_10 : decode cX5_countWays 10 = .ok (.aload_n 0, 1) := by decide +kernel
theorem dX5_countWays_11 : decode cX5_countWays 11 = .ok (.getfield 54, 3) := by decide +kernel
theorem dX5_countWays_14 : decode cX5_countWays 14 = .ok (.iconst 1, 1) := by decide +kernel
theorem dX5_countWays_15 : decode cX5_countWays 15 = .ok (.isub, 1) := by decide +kernel
theorem dX5_countWays_16 : decode cX5_countWays 16 = .ok (.istore_n 2, 1) := by decide +kernel
theorem dX5_countWays_17 : decode cX5_countWays 17 = .ok (.iload_n 2, 1) := by decide +kernel
theorem dX5_countWays_18 : decode cX5_countWays 18 = .ok (.ifCond .lt 79, 3) := by decide +kernel
theorem dX5_countWays_21 : decode cX5_countWays 21 = .ok (.lconst 0, 1) := by decide +kernel
theorem dX5_countWays_22 : decode cX5_countWays 22 = .ok (.lstore_n 3, 1) := by decide +kernel
theorem dX5_countWays_23 : decode cX5_countWays 23 = .ok (.iconst 0, 1) := by decide +kernel
theorem dX5_countWays_24 : decode cX5_countWays 24 = .ok (.istore 5, 2) := by decide +kernel
theorem dX5_countWays_26 : decode cX5_countWays 26 = .ok (.iload 5, 2) := by decide +kernel
theorem dX5_countWays_28 : decode cX5_countWays 28 = .ok (.aload_n 0, 1) := by decide +kernel
theorem dX5_countWays_29 : decode cX5_countWays 29 = .ok (.getfield 46, 3) := by decide +kernel
theorem dX5_countWays_32 : decode cX5_countWays 32 = .ok (.getfield 99, 3) := by decide +kernel
theorem dX5_countWays_35 : decode cX5_countWays 35 = .ok (.if_icmp .ge 43, 3) := by decide +kernel
theorem dX5_countWays_38 : decode cX5_countWays 38 = .ok (.aload_n 0, 1) := by decide +kernel
theorem dX5_countWays_39 : decode cX5_countWays 39 = .ok (.getfield 50, 3) := by decide +kernel
theorem dX5_countWays_42 : decode cX5_countWays 42 = .ok (.aload_n 1, 1) := by decide +kernel
theorem dX5_countWays_43 : decode cX5_countWays 43 = .ok (.iload 5, 2) := by decide +kernel
theorem dX5_countWays_45 : decode cX5_countWays 45 = .ok (.invokevirtual 89, 3) := by decide +kernel
theorem dX5_countWays_48 : decode cX5_countWays 48 = .ok (.lload_n 3, 1) := by decide +kernel
theorem dX5_countWays_49 : decode cX5_countWays 49 = .ok (.aload_n 0, 1) := by decide +kernel
theorem dX5_countWays_50 : decode cX5_countWays 50 = .ok (.aload_n 0, 1) := by decide +kernel
theorem dX5_countWays_51 : decode cX5_countWays 51 = .ok (.getfield 50, 3) := by decide +kernel
theorem dX5_countWays_54 : decode cX5_countWays 54 = .ok (.aload_n 0, 1) := by decide +kernel
theorem dX5_countWays_55 : decode cX5_countWays 55 = .ok (.getfield 11, 3) := by decide +kernel
theorem dX5_countWays_58 : decode cX5_countWays 58 = .ok (.aload_n 0, 1) := by decide +kernel
theorem dX5_countWays_59 : decode cX5_countWays 59 = .ok (.getfield 54, 3) := by decide +kernel
theorem dX5_countWays_62 : decode cX5_countWays 62 = .ok (.iload_n 2, 1) := by decide +kernel
theorem dX5_countWays_63 : decode cX5_countWays 63 = .ok (.invokevirtual 95, 3) := by decide +kernel
theorem dX5_countWays_66 : decode cX5_countWays 66 = .ok (.iload_n 2, 1) := by decide +kernel
theorem dX5_countWays_67 : decode cX5_countWays 67 = .ok (.invokevirtual 100, 3) := by decide +kernel
theorem dX5_countWays_70 : decode cX5_countWays 70 = .ok (.ladd, 1) := by decide +kernel
theorem dX5_countWays_71 : decode cX5_countWays 71 = .ok (.lstore_n 3, 1) := by decide +kernel
theorem dX5_countWays_72 : decode cX5_countWays 72 = .ok (.iinc 5 1, 3) := by decide +kernel
theorem dX5_countWays_75 : decode cX5_countWays 75 = .ok (.goto (-49), 3) := by decide +kernel
theorem dX5_countWays_78 : decode cX5_countWays 78 = .ok (.aload_n 0, 1) := by decide +kernel
theorem dX5_countWays_79 : decode cX5_countWays 79 = .ok (.getfield 18, 3) := by decide +kernel
theorem dX5_countWays_82 : decode cX5_countWays 82 = .ok (.iload_n 2, 1) := by decide +kernel
theorem dX5_countWays_83 : decode cX5_countWays 83 = .ok (.lload_n 3, 1) := by decide +kernel
theorem dX5_countWays_84 : decode cX5_countWays 84 = .ok (.ldc2_w 104, 3) := by decide +kernel
theorem dX5_countWays_87 : decode cX5_countWays 87 = .ok (.invokestatic 106, 3) := by decide +kernel
theorem dX5_countWays_90 : decode cX5_countWays 90 = .ok (.lastore, 1) := by decide +kernel
theorem dX5_countWays_91 : decode cX5_countWays 91 = .ok (.iinc 2 (-1), 3) := by decide +kernel
theorem dX5_countWays_94 : decode cX5_countWays 94 = .ok (.goto (-77), 3) := by decide +kernel
theorem dX5_countWays_97 : decode cX5_countWays 97 = .ok (.aload_n 0, 1) := by decide +kernel
theorem dX5_countWays_98 : decode cX5_countWays 98 = .ok (.getfield 18, 3) := by decide +kernel
theorem dX5_countWays_101 : decode cX5_countWays 101 = .ok (.iconst 0, 1) := by decide +kernel
theorem dX5_countWays_102 : decode cX5_countWays 102 = .ok (.laload, 1) := by decide +kernel
theorem dX5_countWays_103 : decode cX5_countWays 103 = .ok (.ldc2_w 112, 3) := by decide +kernel
theorem dX5_countWays_106 : decode cX5_countWays 106 = .ok (.lcmp, 1) := by decide +kernel
theorem dX5_countWays_107 : decode cX5_countWays 107 = .ok (.ifCond .le 8, 3) := by decide +kernel
theorem dX5_countWays_110 : decode cX5_countWays 110 = .ok (.bipush (-3), 2) := by decide +kernel
theorem dX5_countWays_112 : decode cX5_countWays 112 = .ok (.goto 10, 3) := by decide +kernel
theorem dX5_countWays_115 : decode cX5_countWays 115 = .ok (.aload_n 0, 1) := by decide +kernel
theorem dX5_countWays_116 : decode cX5_countWays 116 = .ok (.getfield 18, 3) := by decide +kernel
theorem dX5_countWays_119 : decode cX5_countWays 119 = .ok (.iconst 0, 1) := by decide +kernel
theorem dX5_countWays_120 : decode cX5_countWays 120 = .ok (.laload, 1) := by decide +kernel
theorem dX5_countWays_121 : decode cX5_countWays 121 = .ok (.l2i, 1) := by decide +kernel
theorem dX5_countWays_122 : decode cX5_countWays 122 = .ok (.ireturn, 1) := by decide +kernel
abbrev rm_X5_countWays : Room := { frames := 5, cells := 0, slots := 0, locals := 119 }
def f_X5_countWays_26 (o1 : Nat) (N : Nat) (k17 : Int32 → St → Option (Int32 × St)) : Nat → Int32 → Int64 → Int32 → St → Option (Int32 × St)
  | 0, _, _, _, _ => none
  | n + 1, x2, x3, x5, σ => (if (σ.1 7600 0) ≤ x5 then grd (ib x2 25) (k17 (x2 + (-1)) (sl σ 60 x2.toNatClampNeg (lmin x3 1000000001))) else bo (f_X7_look o1 x5 σ) (fun σ8 => bo (f_X7_endsFrom 58 24 N (σ8.1 12404 0) x2 σ8) (fun r9_ => bo (f_X5_waysBehind N r9_ x2 σ8) (fun r10_ => f_X5_countWays_26 o1 N k17 n x2 (x3 + r10_) (x5 + 1) σ8))))
def f_X5_countWays_17 (o1 : Nat) (N : Nat) : Nat → Int32 → St → Option (Int32 × St)
  | 0, _, _ => none
  | n + 1, x2, σ => (if x2 < 0 then grd (ib 0 25) ((if (lg_cmp (σ.2 60 0) 1000000000) ≤ 0 then grd (ib 0 25) (some ((σ.2 60 0).toInt32, σ)) else some ((-3), σ))) else f_X5_countWays_26 o1 N (f_X5_countWays_17 o1 N n) N x2 0 0 σ)
def f_X5_countWays (o1 : Nat) (N : Nat) (σ : St) : Option (Int32 × St) := grd (ib (σ.1 12404 0) 25) (f_X5_countWays_17 o1 N N ((σ.1 12404 0) - 1) (sl σ 60 (σ.1 12404 0).toNatClampNeg 1))
section
variable {p : Program} {l : Launch} {e : Env} {s : State} {m : MethodId} {args : Array Value} {below : List Frame} {meth : Method} {c : Code} {g : XG}
set_option maxRecDepth 4000 in
theorem w_X5_countWays_26 (o1 : Nat) (ho1 : o1 = 1 ∨ o1 = 2) (N : Nat) (k17 : Int32 → St → Option (Int32 × St)) {r : Int32} {σ' : St} (C : xC KX g RX5 cX5_countWays 6 (some .int) p s m args meth c) (hk17 : ∀ (x2 : Int32) (σ : St) (H : Heap) (locs : List Loc) (ls : Array Slot), xW KX g s σ H locs → lv_has ls 6 [(0, .ref (g.q 57)), (1, .ref (g.q o1)), (2, .int x2)] → k17 x2 σ = some (r, σ') → W p l e rm_X5_countWays s m args below meth c H locs 0 0 (MQ below (xPost KX g (some (.int r)) σ') args s 0 0 (xA KX g.q)) (F0 m 17 ls [])) : ∀ (n : Nat), ∀ (x2 : Int32) (x3 : Int64) (x5 : Int32) (σ : St) (H : Heap) (locs : List Loc) (ls : Array Slot), xW KX g s σ H locs → lv_has ls 6 [(0, .ref (g.q 57)), (1, .ref (g.q o1)), (2, .int x2), (3, .long x3), (5, .int x5)] → f_X5_countWays_26 o1 N k17 n x2 x3 x5 σ = some (r, σ') → W p l e rm_X5_countWays s m args below meth c H locs 0 0 (MQ below (xPost KX g (some (.int r)) σ') args s 0 0 (xA KX g.q)) (F0 m 26 ls []) := by
  have hx := C.1
  have hb := C.2.1
  intro n
  induction n with
  | zero => intro x2 x3 x5 σ H locs ls hW hl h; rw [f_X5_countWays_26] at h; cases h
  | succ n ih =>
    intro x2 x3 x5 σ H locs ls hW hl h
    rw [f_X5_countWays_26] at h
    refine lv_iload hx hb dX5_countWays_26 (lv_at hl 4 rfl) ?_
    refine lv_aload_n hx hb dX5_countWays_28 rfl (lv_at hl 0 rfl) ?_
    refine xg_r C hW fg_5_46 KX_57 rfl dX5_countWays_29 ?_
    refine xg_i C hW fg_5_99 KX_33 rfl (v := 7600) rfl (x := σ.1 7600 0) rfl dX5_countWays_32 ?_
    refine lv_icmp_ge (tgt := 78) hx hb dX5_countWays_35 (by decide) (fun c6 => ?_) (fun c6 => ?_)
    · have h := xit c6 h
      refine lv_aload_n hx hb dX5_countWays_78 rfl (lv_at hl 0 rfl) ?_
      refine xg_r C hW fg_5_18 KX_57 rfl dX5_countWays_79 ?_
      refine lv_iload_n hx hb dX5_countWays_82 rfl (lv_at hl 2 rfl) ?_
      refine lv_lload_n hx hb dX5_countWays_83 rfl (lv_at hl 3 rfl) ?_
      refine lv_ldc2 (v := 1000000001) hx hb C.ow (C.hts _ kl_X5_104) dX5_countWays_84 ?_
      refine xmm_minl C hW ml_X5_106 (Nat.le_of_ble_eq_true rfl) (Nat.le_of_ble_eq_true rfl) hl.1 (Nat.le_of_ble_eq_true rfl) dX5_countWays_87 ?_
      obtain ⟨g7, h⟩ := xgd h
      refine xs_l C hW KX_60 g7 dX5_countWays_90 (fun H locs hW => ?_)
      refine lv_iinc (v := x2 + (-1)) (lv' := [(2, .int (x2 + (-1))), (0, .ref (g.q 57)), (1, .ref (g.q o1)), (3, .long x3), (5, .int x5)]) hx hb dX5_countWays_91 hl (k := 2) rfl rfl (Nat.le_of_ble_eq_true rfl) rfl (fun ls hl => ?_)
      refine lv_goto (tgt := 17) hx hb dX5_countWays_94 (by decide) ?_
      exact hk17 (x2 + (-1)) _ _ _ _ hW (lv_sub hl [1, 2, 0] rfl) h
    · have h := xif c6 h
      refine lv_aload_n hx hb dX5_countWays_38 rfl (lv_at hl 0 rfl) ?_
      refine xg_r C hW fg_5_50 KX_57 rfl dX5_countWays_39 ?_
      refine lv_aload_n hx hb dX5_countWays_42 rfl (lv_at hl 1 rfl) ?_
      refine lv_iload hx hb dX5_countWays_43 (lv_at hl 4 rfl) ?_
      obtain ⟨σ8, e8, h⟩ := xbo h
      refine xc_V (As := [.ref (g.q o1), .int x5]) (rest := []) C hW (m_X7_look o1 ho1 x5 _ e8) mf_X7_look mv_X7_look ml_X5_89 ⟨rfl, rfl⟩ ⟨Nat.le_of_ble_eq_true rfl, Nat.le_of_ble_eq_true rfl⟩ KX_38 rfl hl.1 rfl rfl (Nat.le_of_ble_eq_true rfl) dX5_countWays_45 (fun H locs hW => W.eq (g2 := F0 m 48 ls []) rfl ?_)
      refine lv_lload_n hx hb dX5_countWays_48 rfl (lv_at hl 3 rfl) ?_
      refine lv_aload_n hx hb dX5_countWays_49 rfl (lv_at hl 0 rfl) ?_
      refine lv_aload_n hx hb dX5_countWays_50 rfl (lv_at hl 0 rfl) ?_
      refine xg_r C hW fg_5_50 KX_57 rfl dX5_countWays_51 ?_
      refine lv_aload_n hx hb dX5_countWays_54 rfl (lv_at hl 0 rfl) ?_
      refine xg_r C hW fg_5_11 KX_57 rfl dX5_countWays_55 ?_
      refine lv_aload_n hx hb dX5_countWays_58 rfl (lv_at hl 0 rfl) ?_
      refine xg_i C hW fg_5_54 KX_57 rfl (v := 12404) rfl (x := σ8.1 12404 0) rfl dX5_countWays_59 ?_
      refine lv_iload_n hx hb dX5_countWays_62 rfl (lv_at hl 2 rfl) ?_
      obtain ⟨r9_, e9, h⟩ := xbo h
      refine xc_V (As := [.ref (g.q 58), .int (σ8.1 12404 0), .int x2]) (rest := [.ref (g.q 57), .long x3]) C hW (m_X7_endsFrom 58 24 KX_58 N (σ8.1 12404 0) x2 _ e9) mf_X7_endsFrom mv_X7_endsFrom ml_X5_95 ⟨rfl, rfl⟩ ⟨Nat.le_of_ble_eq_true rfl, Nat.le_of_ble_eq_true rfl⟩ KX_38 rfl hl.1 rfl rfl (Nat.le_of_ble_eq_true rfl) dX5_countWays_63 (fun H locs hW => W.eq (g2 := F0 m 66 ls [.int r9_, .ref (g.q 57), .long x3]) rfl ?_)
      refine lv_iload_n hx hb dX5_countWays_66 rfl (lv_at hl 2 rfl) ?_
      obtain ⟨r10_, e10, h⟩ := xbo h
      refine xc_V (As := [.int r9_, .int x2]) (rest := [.long x3]) C hW (m_X5_waysBehind N r9_ x2 _ e10) mf_X5_waysBehind mv_X5_waysBehind ml_X5_100 ⟨rfl, rfl⟩ ⟨Nat.le_of_ble_eq_true rfl, Nat.le_of_ble_eq_true rfl⟩ KX_57 rfl hl.1 rfl rfl (Nat.le_of_ble_eq_true rfl) dX5_countWays_67 (fun H locs hW => W.eq (g2 := F0 m 70 ls [.long r10_, .long x3]) rfl ?_)
      refine lv_ladd hx hb dX5_countWays_70 ?_
      refine lv_lstore_n (lv' := [(3, .long (x3 + r10_)), (0, .ref (g.q 57)), (1, .ref (g.q o1)), (2, .int x2), (5, .int x5)]) hx hb dX5_countWays_71 rfl hl (Nat.le_of_ble_eq_true rfl) rfl (fun ls hl => ?_)
      refine lv_iinc (v := x5 + 1) (lv' := [(5, .int (x5 + 1)), (3, .long (x3 + r10_)), (0, .ref (g.q 57)), (1, .ref (g.q o1)), (2, .int x2)]) hx hb dX5_countWays_72 hl (k := 4) rfl rfl (Nat.le_of_ble_eq_true rfl) rfl (fun ls hl => ?_)
      refine lv_goto (tgt := 26) hx hb dX5_countWays_75 (by decide) ?_
      exact ih x2 (x3 + r10_) (x5 + 1) _ _ _ _ hW (lv_sub hl [2, 3, 4, 1, 0] rfl) h
set_option maxRecDepth 4000 in
theorem w_X5_countWays_17 (o1 : Nat) (ho1 : o1 = 1 ∨ o1 = 2) (N : Nat) {r : Int32} {σ' : St} (C : xC KX g RX5 cX5_countWays 6 (some .int) p s m args meth c) : ∀ (n : Nat), ∀ (x2 : Int32) (σ : St) (H : Heap) (locs : List Loc) (ls : Array Slot), xW KX g s σ H locs → lv_has ls 6 [(0, .ref (g.q 57)), (1, .ref (g.q o1)), (2, .int x2)] → f_X5_countWays_17 o1 N n x2 σ = some (r, σ') → W p l e rm_X5_countWays s m args below meth c H locs 0 0 (MQ below (xPost KX g (some (.int r)) σ') args s 0 0 (xA KX g.q)) (F0 m 17 ls []) := by
  have hx := C.1
  have hb := C.2.1
  intro n
  induction n with
  | zero => intro x2 σ H locs ls hW hl h; rw [f_X5_countWays_17] at h; cases h
  | succ n ih =>
    intro x2 σ H locs ls hW hl h
    rw [f_X5_countWays_17] at h
    refine lv_iload_n hx hb dX5_countWays_17 rfl (lv_at hl 2 rfl) ?_
    refine lv_if_lt (tgt := 97) hx hb dX5_countWays_18 (by decide) (fun c2 => ?_) (fun c2 => ?_)
    · have h := xit c2 h
      refine lv_aload_n hx hb dX5_countWays_97 rfl (lv_at hl 0 rfl) ?_
      refine xg_r C hW fg_5_18 KX_57 rfl dX5_countWays_98 ?_
      refine lv_iconst (v := 0) hx hb dX5_countWays_101 rfl ?_
      obtain ⟨g3, h⟩ := xgd h
      refine xa_l C hW KX_60 g3 (x := σ.2 60 0) rfl dX5_countWays_102 ?_
      refine lv_ldc2 (v := 1000000000) hx hb C.ow (C.hts _ kl_X5_112) dX5_countWays_103 ?_
      refine W.lcmp hx hb dX5_countWays_106 ?_
      refine lv_if_le (tgt := 115) hx hb dX5_countWays_107 (by decide) (fun c4 => ?_) (fun c4 => ?_)
      · have h := xit c4 h
        refine lv_aload_n hx hb dX5_countWays_115 rfl (lv_at hl 0 rfl) ?_
        refine xg_r C hW fg_5_18 KX_57 rfl dX5_countWays_116 ?_
        refine lv_iconst (v := 0) hx hb dX5_countWays_119 rfl ?_
        obtain ⟨g5, h⟩ := xgd h
        refine xa_l C hW KX_60 g5 (x := σ.2 60 0) rfl dX5_countWays_120 ?_
        refine lv_l2i (v := (σ.2 60 0).toInt32) hx hb dX5_countWays_121 rfl ?_
        cases h
        exact xr_i C hW dX5_countWays_122
      · have h := xif c4 h
        refine lv_bipush (v := (-3)) hx hb dX5_countWays_110 rfl ?_
        refine lv_goto (tgt := 122) hx hb dX5_countWays_112 (by decide) ?_
        cases h
        exact xr_i C hW dX5_countWays_122
    · have h := xif c2 h
      refine lv_lconst (v := 0) hx hb dX5_countWays_21 rfl ?_
      refine lv_lstore_n (lv' := [(3, .long 0), (0, .ref (g.q 57)), (1, .ref (g.q o1)), (2, .int x2)]) hx hb dX5_countWays_22 rfl hl (Nat.le_of_ble_eq_true rfl) rfl (fun ls hl => ?_)
      refine lv_iconst (v := 0) hx hb dX5_countWays_23 rfl ?_
      refine lv_istore (lv' := [(5, .int 0), (3, .long 0), (0, .ref (g.q 57)), (1, .ref (g.q o1)), (2, .int x2)]) hx hb dX5_countWays_24 hl (Nat.le_of_ble_eq_true rfl) rfl (fun ls hl => ?_)
      exact w_X5_countWays_26 o1 ho1 N (f_X5_countWays_17 o1 N n) C ih N x2 0 0 _ _ _ _ hW (lv_sub hl [2, 3, 4, 1, 0] rfl) h
set_option maxRecDepth 4000 in
theorem m_X5_countWays (o1 : Nat) (ho1 : o1 = 1 ∨ o1 = 2) (N : Nat) (σ : St) {r : Int32} {σ' : St} (h : f_X5_countWays o1 N σ = some (r, σ')) : xM l KX g yX5_countWays cX5_countWays 6 (some .int) rm_X5_countWays [.ref (g.q 57), .ref (g.q o1)] σ (some (.int r)) σ' := by
  refine xmet pn_X5 rfl (Nat.le_of_ble_eq_true rfl) (lv := [(0, .ref (g.q 57)), (1, .ref (g.q o1))]) rfl (fun p e s m args below meth c ls C hW hl => ?_)
  have hx := C.1
  have hb := C.2.1
  unfold f_X5_countWays at h
  refine lv_aload_n hx hb dX5_countWays_0 rfl (lv_at hl 0 rfl) ?_
  refine xg_r C hW fg_5_18 KX_57 rfl dX5_countWays_1 ?_
  refine lv_aload_n hx hb dX5_countWays_4 rfl (lv_at hl 0 rfl) ?_
  refine xg_i C hW fg_5_54 KX_57 rfl (v := 12404) rfl (x := σ.1 12404 0) rfl dX5_countWays_5 ?_
  refine lv_lconst (v := 1) hx hb dX5_countWays_8 rfl ?_
  obtain ⟨g1, h⟩ := xgd h
  refine xs_l C hW KX_60 g1 dX5_countWays_9 (fun H locs hW => ?_)
  refine lv_aload_n hx hb dX5_countWays_10 rfl (lv_at hl 0 rfl) ?_
  refine xg_i C hW fg_5_54 KX_57 rfl (v := 12404) rfl (x := σ.1 12404 0) rfl dX5_countWays_11 ?_
  refine lv_iconst (v := 1) hx hb dX5_countWays_14 rfl ?_
  refine lv_isub hx hb dX5_countWays_15 ?_
  refine lv_istore_n (lv' := [(2, .int ((σ.1 12404 0) - 1)), (0, .ref (g.q 57)), (1, .ref (g.q o1))]) hx hb dX5_countWays_16 rfl hl (Nat.le_of_ble_eq_true rfl) rfl (fun ls hl => ?_)
  exact w_X5_countWays_17 o1 ho1 N C N ((σ.1 12404 0) - 1) _ _ _ _ hW (lv_sub hl [1, 2, 0] rfl) h
end
theorem dX5_chooseLengths_0 : decode cX5_chooseLengths 0 = .ok (.aload_n 0, 1) := by decide +kernel
theorem dX5_chooseLengths_1 : decode cX5_chooseLengths 1 = .ok (.getfield 33, 3) := by decide +kernel
theorem dX5_chooseLengths_4 : decode cX5_chooseLengths 4 = .ok (.aload_n 0, 1) := by decide +kernel
theorem dX5_chooseLengths_5 : decode cX5_chooseLengths 5 = .ok (.getfield 58, 3) := by decide +kernel
theorem dX5_chooseLengths_8 : decode cX5_chooseLengths 8 = .ok (.iconst 1, 1) := by decide +kernel
theorem dX5_chooseLengths_9 : decode cX5_chooseLengths 9 = .ok (.aload_n 0, 1) := by decide +kernel
theorem dX5_chooseLengths_10 : decode cX5_chooseLengths 10 = .ok (.getfield 54, 3) := by decide +kernel
theorem dX5_chooseLengths_13 : decode cX5_chooseLengths 13 = .ok (.ishl, 1) := by decide +kernel
theorem dX5_chooseLengths_14 : decode cX5_chooseLengths 14 = .ok (.iastore, 1) := by decide +kernel
theorem dX5_chooseLengths_15 : decode cX5_chooseLengths 15 = .ok (.aload_n 0, 1) := by decide +kernel
theorem dX5_chooseLengths_16 : decode cX5_chooseLengths 16 = .ok (.getfield 58, 3) := by decide +kernel
theorem dX5_chooseLengths_19 : decode cX5_chooseLengths 19 = .ok (.iconst 1, 1) := by decide +kernel
theorem dX5_chooseLengths_20 : decode cX5_chooseLengths 20 = .ok (.isub, 1) := by decide +kernel
theorem dX5_chooseLengths_21 : decode cX5_chooseLengths 21 = .ok (.istore_n 1, 1) := by decide +kernel
theorem dX5_chooseLengths_22 : decode cX5_chooseLengths 22 = .ok (.iload_n 1, 1) := by decide +kernel
theorem dX5_chooseLengths_23 : decode cX5_chooseLengths 23 = .ok (.ifCond .lt 72, 3) := by decide +kernel
theorem dX5_chooseLengths_26 : decode cX5_chooseLengths 26 = .ok (.aload_n 0, 1) := by decide +kernel
theorem dX5_chooseLengths_27 : decode cX5_chooseLengths 27 = .ok (.getfield 33, 3) := by decide +kernel
theorem dX5_chooseLengths_30 : decode cX5_chooseLengths 30 = .ok (.iload_n 1, 1) := by decide +kernel
theorem dX5_chooseLengths_31 : decode cX5_chooseLengths 31 = .ok (.iconst 0, 1) := by decide +kernel
theorem dX5_chooseLengths_32 : decode cX5_chooseLengths 32 = .ok (.iastore, 1) := by decide +kernel
theorem dX5_chooseLengths_33 : decode cX5_chooseLengths 33 = .ok (.iconst 0, 1) := by decide +kernel
theorem dX5_chooseLengths_34 : decode cX5_chooseLengths 34 = .ok (.istore_n 2, 1) := by decide +kernel
theorem dX5_chooseLengths_35 : decode cX5_chooseLengths 35 = .ok (.iload_n 2, 1) := by decide +kernel
theorem dX5_chooseLengths_36 : decode cX5_chooseLengths 36 = .ok (.aload_n 0, 1) := by decide +kernel
theorem dX5_chooseLengths_37 : decode cX5_chooseLengths 37 = .ok (.getfield 54, 3) := by decide +kernel
theorem dX5_chooseLengths_40 : decode cX5_chooseLengths 40 = .ok (.if_icmp .ge 49, 3) := by decide +kernel
theorem dX5_chooseLengths_43 : decode cX5_chooseLengths 43 = .ok (.aload_n 0, 1) := by decide +kernel
theorem dX5_chooseLengths_44 : decode cX5_chooseLengths 44 = .ok (.getfield 24, 3) := by decide +kernel
theorem dX5_chooseLengths_47 : decode cX5_chooseLengths 47 = .ok (.aload_n 0, 1) := by decide +kernel
theorem dX5_chooseLengths_48 : decode cX5_chooseLengths 48 = .ok (.getfield 36, 3) := by decide +kernel
theorem dX5_chooseLengths_51 : decode cX5_chooseLengths 51 = .ok (.iload_n 1, 1) := by decide +kernel
theorem dX5_chooseLengths_52 : decode cX5_chooseLengths 52 = .ok (.iaload, 1) := by decide +kernel
theorem dX5_chooseLengths_53 : decode cX5_chooseLengths 53 = .ok (.bipush 24, 2) := by decide +kernel
theorem dX5_chooseLengths_55 : decode cX5_chooseLengths 55 = .ok (.imul, 1) := by decide +kernel
theorem dX5_chooseLengths_56 : decode cX5_chooseLengths 56 = .ok (.iload_n 2, 1) := by decide +kernel
theorem dX5_chooseLengths_57 : decode cX5_chooseLengths 57 = .ok (.iadd, 1) := by decide +kernel
theorem dX5_chooseLengths_58 : decode cX5_chooseLengths 58 = .ok (.iaload, 1) := by decide +kernel
theorem dX5_chooseLengths_59 : decode cX5_chooseLengths 59 = .ok (.aload_n 0, 1) := by decide +kernel
theorem dX5_chooseLengths_60 : decode cX5_chooseLengths 60 = .ok (.getfield 33, 3) := by decide +kernel
theorem dX5_chooseLengths_63 : decode cX5_chooseLengths 63 = .ok (.iload_n 1, 1) := by decide +kernel
theorem dX5_chooseLengths_64 : decode cX5_chooseLengths 64 = .ok (.iconst 1, 1) := by decide +kernel
theorem dX5_chooseLengths_65 : decode cX5_chooseLengths 65 = .ok (.iadd, 1) := by decide +kernel
theorem dX5_chooseLengths_66 : decode cX5_chooseLengths 66 = .ok (.iaload, 1) := by decide +kernel
theorem dX5_chooseLengths_67 : decode cX5_chooseLengths 67 = .ok (.iand, 1) := by decide +kernel
theorem dX5_chooseLengths_68 : decode cX5_chooseLengths 68 = .ok (.ifCond .eq 15, 3) := by decide +kernel
theorem dX5_chooseLengths_71 : decode cX5_chooseLengths 71 = .ok (.aload_n 0, 1) := by decide +kernel
theorem dX5_chooseLengths_72 : decode cX5_chooseLengths 72 = .ok (.getfield 33, 3) := by decide +kernel
theorem dX5_chooseLengths_75 : decode cX5_chooseLengths 75 = .ok (.iload_n 1, 1) := by decide +kernel
theorem dX5_chooseLengths_76 : decode cX5_chooseLengths 76 = .ok (.dup2, 1) := by decide +kernel
theorem dX5_chooseLengths_77 : decode cX5_chooseLengths 77 = .ok (.iaload, 1) := by decide +kernel
theorem dX5_chooseLengths_78 : decode cX5_chooseLengths 78 = .ok (.iconst 1, 1) := by decide +kernel
theorem dX5_chooseLengths_79 : decode cX5_chooseLengths 79 = .ok (.iload_n 2, 1) := by decide +kernel
theorem dX5_chooseLengths_80 : decode cX5_chooseLengths 80 = .ok (.ishl, 1) := by decide +kernel
theorem dX5_chooseLengths_81 : decode cX5_chooseLengths 81 = .ok (.ior, 1) := by decide +kernel
theorem dX5_chooseLengths_82 : decode cX5_chooseLengths 82 = .ok (.iastore, 1) := by decide +kernel
theorem dX5_chooseLengths_83 : decode cX5_chooseLengths 83 = .ok (.iinc 2 1, 3) := by decide +kernel
theorem dX5_chooseLengths_86 : decode cX5_chooseLengths 86 = .ok (.goto (-51), 3) := by decide +kernel
theorem dX5_chooseLengths_89 : decode cX5_chooseLengths 89 = .ok (.iinc 1 (-1), 3) := by decide +kernel
theorem dX5_chooseLengths_92 : decode cX5_chooseLengths 92 = .ok (.goto (-70), 3) := by decide +kernel
theorem dX5_chooseLengths_95 : decode cX5_chooseLengths 95 = .ok (.iconst 0, 1) := by decide +kernel
theorem dX5_chooseLengths_96 : decode cX5_chooseLengths 96 = .ok (.istore_n 1, 1) := by decide +kernel
theorem dX5_chooseLengths_97 : decode cX5_chooseLengths 97 = .ok (.iconst 0, 1) := by decide +kernel
theorem dX5_chooseLengths_98 : decode cX5_chooseLengths 98 = .ok (.istore_n 2, 1) := by decide +kernel
theorem dX5_chooseLengths_99 : decode cX5_chooseLengths 99 = .ok (.iload_n 2, 1) := by decide +kernel
theorem dX5_chooseLengths_100 : decode cX5_chooseLengths 100 = .ok (.aload_n 0, 1) := by decide +kernel
theorem dX5_chooseLengths_101 : decode cX5_chooseLengths 101 = .ok (.getfield 58, 3) := by decide +kernel
theorem dX5_chooseLengths_104 : decode cX5_chooseLengths 104 = .ok (.if_icmp .ge 82, 3) := by decide +kernel
theorem dX5_chooseLengths_107 : decode cX5_chooseLengths 107 = .ok (.iload_n 1, 1) := by decide +kernel
theorem dX5_chooseLengths_108 : decode cX5_chooseLengths 108 = .ok (.aload_n 0, 1) := by decide +kernel
theorem dX5_chooseLengths_109 : decode cX5_chooseLengths 109 = .ok (.getfield 54, 3) := by decide +kernel
theorem dX5_chooseLengths_112 : decode cX5_chooseLengths 112 = .ok (.if_icmp .ge 74, 3) := by decide +kernel
theorem dX5_chooseLengths_115 : decode cX5_chooseLengths 115 = .ok (.iload_n 1, 1) := by decide +kernel
theorem dX5_chooseLengths_116 : decode cX5_chooseLengths 116 = .ok (.iconst 1, 1) := by decide +kernel
theorem dX5_chooseLengths_117 : decode cX5_chooseLengths 117 = .ok (.iadd, 1) := by decide +kernel
theorem dX5_chooseLengths_118 : decode cX5_chooseLengths 118 = .ok (.istore_n 3, 1) := by decide +kernel
theorem dX5_chooseLengths_119 : decode cX5_chooseLengths 119 = .ok (.aload_n 0, 1) := by decide +kernel
theorem dX5_chooseLengths_120 : decode cX5_chooseLengths 120 = .ok (.getfield 24, 3) := by decide +kernel
theorem dX5_chooseLengths_123 : decode cX5_chooseLengths 123 = .ok (.aload_n 0, 1) := by decide +kernel
theorem dX5_chooseLengths_124 : decode cX5_chooseLengths 124 = .ok (.getfield 36, 3) := by decide +kernel
theorem dX5_chooseLengths_127 : decode cX5_chooseLengths 127 = .ok (.iload_n 2, 1) := by decide +kernel
theorem dX5_chooseLengths_128 : decode cX5_chooseLengths 128 = .ok (.iaload, 1) := by decide +kernel
theorem dX5_chooseLengths_129 : decode cX5_chooseLengths 129 = .ok (.bipush 24, 2) := by decide +kernel
theorem dX5_chooseLengths_131 : decode cX5_chooseLengths 131 = .ok (.imul, 1) := by decide +kernel
theorem dX5_chooseLengths_132 : decode cX5_chooseLengths 132 = .ok (.iload_n 1, 1) := by decide +kernel
theorem dX5_chooseLengths_133 : decode cX5_chooseLengths 133 = .ok (.iadd, 1) := by decide +kernel
theorem dX5_chooseLengths_134 : decode cX5_chooseLengths 134 = .ok (.iaload, 1) := by decide +kernel
theorem dX5_chooseLengths_135 : decode cX5_chooseLengths 135 = .ok (.aload_n 0, 1) := by decide +kernel
theorem dX5_chooseLengths_136 : decode cX5_chooseLengths 136 = .ok (.getfield 33, 3) := by decide +kernel
theorem dX5_chooseLengths_139 : decode cX5_chooseLengths 139 = .ok (.iload_n 2, 1) := by decide +kernel
theorem dX5_chooseLengths_140 : decode cX5_chooseLengths 140 = .ok (.iconst 1, 1) := by decide +kernel
theorem dX5_chooseLengths_141 : decode cX5_chooseLengths 141 = .ok (.iadd, 1) := by decide +kernel
theorem dX5_chooseLengths_142 : decode cX5_chooseLengths 142 = .ok (.iaload, 1) := by decide +kernel
theorem dX5_chooseLengths_143 : decode cX5_chooseLengths 143 = .ok (.iand, 1) := by decide +kernel
theorem dX5_chooseLengths_144 : decode cX5_chooseLengths 144 = .ok (.istore 4, 2) := by decide +kernel
theorem dX5_chooseLengths_146 : decode cX5_chooseLengths 146 = .ok (.iload_n 3, 1) := by decide +kernel
theorem dX5_chooseLengths_147 : decode cX5_chooseLengths 147 = .ok (.aload_n 0, 1) := by decide +kernel
theorem dX5_chooseLengths_148 : decode cX5_chooseLengths 148 = .ok (.getfield 54, 3) := by decide +kernel
theorem dX5_chooseLengths_151 : decode cX5_chooseLengths 151 = .ok (.if_icmp .ge 18, 3) := by decide +kernel
theorem dX5_chooseLengths_154 : decode cX5_chooseLengths 154 = .ok (.iload 4, 2) := by decide +kernel
theorem dX5_chooseLengths_156 : decode cX5_chooseLengths 156 = .ok (.iload_n 3, 1) := by decide +kernel
theorem dX5_chooseLengths_157 : decode cX5_chooseLengths 157 = .ok (.iushr, 1) := by decide +kernel
theorem dX5_chooseLengths_158 : decode cX5_chooseLengths 158 = .ok (.iconst 1, 1) := by decide +kernel
theorem dX5_chooseLengths_159 : decode cX5_chooseLengths 159 = .ok (.iand, 1) := by decide +kernel
theorem dX5_chooseLengths_160 : decode cX5_chooseLengths 160 = .ok (.ifCond .ne 9, 3) := by decide +kernel
theorem dX5_chooseLengths_163 : decode cX5_chooseLengths 163 = .ok (.iinc 3 1, 3) := by decide +kernel
theorem dX5_chooseLengths_166 : decode cX5_chooseLengths 166 = .ok (.goto (-20), 3) := by decide +kernel
theorem dX5_chooseLengths_169 : decode cX5_chooseLengths 169 = .ok (.aload_n 0, 1) := by decide +kernel
theorem dX5_chooseLengths_170 : decode cX5_chooseLengths 170 = .ok (.getfield 39, 3) := by decide +kernel
theorem dX5_chooseLengths_173 : decode cX5_chooseLengths 173 = .ok (.iload_n 2, 1) := by decide +kernel
theorem dX5_chooseLengths_174 : decode cX5_chooseLengths 174 = .ok (.iload_n 3, 1) := by decide +kernel
theorem dX5_chooseLengths_175 : decode cX5_chooseLengths 175 = .ok (.iload_n 1, 1) := by decide +kernel
theorem dX5_chooseLengths_176 : decode cX5_chooseLengths 176 = .ok (.isub, 1) := by decide +kernel
theorem dX5_chooseLengths_177 : decode cX5_chooseLengths 177 = .ok (.iastore, 1) := by decide +kernel
theorem dX5_chooseLengths_178 : decode cX5_chooseLengths 178 = .ok (.iload_n 3, 1) := by decide +kernel
theorem dX5_chooseLengths_179 : decode cX5_chooseLengths 179 = .ok (.istore_n 1, 1) := by decide +kernel
theorem dX5_chooseLengths_180 : decode cX5_chooseLengths 180 = .ok (.iinc 2 1, 3) := by decide +kernel
theorem dX5_chooseLengths_183 : decode cX5_chooseLengths 183 = .ok (.goto (-84), 3) := by decide +kernel
theorem dX5_chooseLengths_186 : decode cX5_chooseLengths 186 = .ok (.return_, 1) := by decide +kernel
abbrev rm_X5_chooseLengths : Room := { frames := 0, cells := 0, slots := 0, locals := 0 }
def f_X5_chooseLengths_35 (N : Nat) (k22 : Int32 → St → Option St) : Nat → Int32 → Int32 → St → Option St
  | 0, _, _, _ => none
  | n + 1, x1, x2, σ => (if (σ.1 12404 0) ≤ x2 then k22 (x1 + (-1)) σ else grd (ib x1 24) (grd (ib (((σ.1 65 x1.toNatClampNeg) * 24) + x2) 960) (grd (ib (x1 + 1) 25) ((if ((σ.1 61 (((σ.1 65 x1.toNatClampNeg) * 24) + x2).toNatClampNeg) &&& (σ.1 64 (x1 + 1).toNatClampNeg)) = 0 then f_X5_chooseLengths_35 N k22 n x1 (x2 + 1) σ else grd (ib x1 25) (grd (ib x1 25) (f_X5_chooseLengths_35 N k22 n x1 (x2 + 1) (si σ 64 x1.toNatClampNeg ((σ.1 64 x1.toNatClampNeg) ||| (1 <<< (x2 &&& 31)))))))))))
def f_X5_chooseLengths_169 (N : Nat) (k99 : Int32 → Int32 → St → Option St) (x1 : Int32) (x2 : Int32) (x3 : Int32) (σ : St) : Option St := grd (ib x2 24) (k99 x3 (x2 + 1) (si σ 66 x2.toNatClampNeg (x3 - x1)))
def f_X5_chooseLengths_146 (N : Nat) (k99 : Int32 → Int32 → St → Option St) : Nat → Int32 → Int32 → Int32 → Int32 → St → Option St
  | 0, _, _, _, _, _ => none
  | n + 1, x1, x2, x3, x4, σ => (if (σ.1 12404 0) ≤ x3 then f_X5_chooseLengths_169 N k99 x1 x2 x3 σ else (if ((ushr x4 x3) &&& 1) = 0 then f_X5_chooseLengths_146 N k99 n x1 x2 (x3 + 1) x4 σ else f_X5_chooseLengths_169 N k99 x1 x2 x3 σ))
def f_X5_chooseLengths_99 (N : Nat) : Nat → Int32 → Int32 → St → Option St
  | 0, _, _, _ => none
  | n + 1, x1, x2, σ => (if (σ.1 12411 0) ≤ x2 then some σ else (if (σ.1 12404 0) ≤ x1 then some σ else grd (ib x2 24) (grd (ib (((σ.1 65 x2.toNatClampNeg) * 24) + x1) 960) (grd (ib (x2 + 1) 25) (f_X5_chooseLengths_146 N (f_X5_chooseLengths_99 N n) N x1 x2 (x1 + 1) ((σ.1 61 (((σ.1 65 x2.toNatClampNeg) * 24) + x1).toNatClampNeg) &&& (σ.1 64 (x2 + 1).toNatClampNeg)) σ)))))
def f_X5_chooseLengths_22 (N : Nat) : Nat → Int32 → St → Option St
  | 0, _, _ => none
  | n + 1, x1, σ => (if x1 < 0 then f_X5_chooseLengths_99 N N 0 0 σ else grd (ib x1 25) (f_X5_chooseLengths_35 N (f_X5_chooseLengths_22 N n) N x1 0 (si σ 64 x1.toNatClampNeg 0)))
def f_X5_chooseLengths (N : Nat) (σ : St) : Option St := grd (ib (σ.1 12411 0) 25) (f_X5_chooseLengths_22 N N ((σ.1 12411 0) - 1) (si σ 64 (σ.1 12411 0).toNatClampNeg (1 <<< ((σ.1 12404 0) &&& 31))))
section
variable {p : Program} {l : Launch} {e : Env} {s : State} {m : MethodId} {args : Array Value} {below : List Frame} {meth : Method} {c : Code} {g : XG}
set_option maxRecDepth 4000 in
theorem w_X5_chooseLengths_35 (N : Nat) (k22 : Int32 → St → Option St) {σ' : St} (C : xC KX g RX5 cX5_chooseLengths 5 none p s m args meth c) (hk22 : ∀ (x1 : Int32) (σ : St) (H : Heap) (locs : List Loc) (ls : Array Slot), xW KX g s σ H locs → lv_has ls 5 [(0, .ref (g.q 57)), (1, .int x1)] → k22 x1 σ = some σ' → W p l e rm_X5_chooseLengths s m args below meth c H locs 0 0 (MQ below (xPost KX g none σ') args s 0 0 (xA KX g.q)) (F0 m 22 ls [])) : ∀ (n : Nat), ∀ (x1 : Int32) (x2 : Int32) (σ : St) (H : Heap) (locs : List Loc) (ls : Array Slot), xW KX g s σ H locs → lv_has ls 5 [(0, .ref (g.q 57)), (1, .int x1), (2, .int x2)] → f_X5_chooseLengths_35 N k22 n x1 x2 σ = some σ' → W p l e rm_X5_chooseLengths s m args below meth c H locs 0 0 (MQ below (xPost KX g none σ') args s 0 0 (xA KX g.q)) (F0 m 35 ls []) := by
  have hx := C.1
  have hb := C.2.1
  intro n
  induction n with
  | zero => intro x1 x2 σ H locs ls hW hl h; rw [f_X5_chooseLengths_35] at h; cases h
  | succ n ih =>
    intro x1 x2 σ H locs ls hW hl h
    rw [f_X5_chooseLengths_35] at h
    refine lv_iload_n hx hb dX5_chooseLengths_35 rfl (lv_at hl 2 rfl) ?_
    refine lv_aload_n hx hb dX5_chooseLengths_36 rfl (lv_at hl 0 rfl) ?_
    refine xg_i C hW fg_5_54 KX_57 rfl (v := 12404) rfl (x := σ.1 12404 0) rfl dX5_chooseLengths_37 ?_
    refine lv_icmp_ge (tgt := 89) hx hb dX5_chooseLengths_40 (by decide) (fun c4 => ?_) (fun c4 => ?_)
    · have h := xit c4 h
      refine lv_iinc (v := x1 + (-1)) (lv' := [(1, .int (x1 + (-1))), (0, .ref (g.q 57)), (2, .int x2)]) hx hb dX5_chooseLengths_89 hl (k := 1) rfl rfl (Nat.le_of_ble_eq_true rfl) rfl (fun ls hl => ?_)
      refine lv_goto (tgt := 22) hx hb dX5_chooseLengths_92 (by decide) ?_
      exact hk22 (x1 + (-1)) _ _ _ _ hW (lv_sub hl [1, 0] rfl) h
    · have h := xif c4 h
      refine lv_aload_n hx hb dX5_chooseLengths_43 rfl (lv_at hl 0 rfl) ?_
      refine xg_r C hW fg_5_24 KX_57 rfl dX5_chooseLengths_44 ?_
      refine lv_aload_n hx hb dX5_chooseLengths_47 rfl (lv_at hl 0 rfl) ?_
      refine xg_r C hW fg_5_36 KX_57 rfl dX5_chooseLengths_48 ?_
      refine lv_iload_n hx hb dX5_chooseLengths_51 rfl (lv_at hl 1 rfl) ?_
      obtain ⟨g5, h⟩ := xgd h
      refine xa_i C hW KX_65 g5 (x := σ.1 65 x1.toNatClampNeg) rfl dX5_chooseLengths_52 ?_
      refine lv_bipush (v := 24) hx hb dX5_chooseLengths_53 rfl ?_
      refine lv_imul hx hb dX5_chooseLengths_55 ?_
      refine lv_iload_n hx hb dX5_chooseLengths_56 rfl (lv_at hl 2 rfl) ?_
      refine lv_iadd hx hb dX5_chooseLengths_57 ?_
      obtain ⟨g6, h⟩ := xgd h
      refine xa_i C hW KX_61 g6 (x := σ.1 61 (((σ.1 65 x1.toNatClampNeg) * 24) + x2).toNatClampNeg) rfl dX5_chooseLengths_58 ?_
      refine lv_aload_n hx hb dX5_chooseLengths_59 rfl (lv_at hl 0 rfl) ?_
      refine xg_r C hW fg_5_33 KX_57 rfl dX5_chooseLengths_60 ?_
      refine lv_iload_n hx hb dX5_chooseLengths_63 rfl (lv_at hl 1 rfl) ?_
      refine lv_iconst (v := 1) hx hb dX5_chooseLengths_64 rfl ?_
      refine lv_iadd hx hb dX5_chooseLengths_65 ?_
      obtain ⟨g7, h⟩ := xgd h
      refine xa_i C hW KX_64 g7 (x := σ.1 64 (x1 + 1).toNatClampNeg) rfl dX5_chooseLengths_66 ?_
      refine lv_iand hx hb dX5_chooseLengths_67 ?_
      refine lv_if_eq (tgt := 83) hx hb dX5_chooseLengths_68 (by decide) (fun c8 => ?_) (fun c8 => ?_)
      · have h := xit c8 h
        refine lv_iinc (v := x2 + 1) (lv' := [(2, .int (x2 + 1)), (0, .ref (g.q 57)), (1, .int x1)]) hx hb dX5_chooseLengths_83 hl (k := 2) rfl rfl (Nat.le_of_ble_eq_true rfl) rfl (fun ls hl => ?_)
        refine lv_goto (tgt := 35) hx hb dX5_chooseLengths_86 (by decide) ?_
        exact ih x1 (x2 + 1) _ _ _ _ hW (lv_sub hl [1, 2, 0] rfl) h
      · have h := xif c8 h
        refine lv_aload_n hx hb dX5_chooseLengths_71 rfl (lv_at hl 0 rfl) ?_
        refine xg_r C hW fg_5_33 KX_57 rfl dX5_chooseLengths_72 ?_
        refine lv_iload_n hx hb dX5_chooseLengths_75 rfl (lv_at hl 1 rfl) ?_
        refine lv_dup2_11 hx hb dX5_chooseLengths_76 rfl rfl ?_
        obtain ⟨g9, h⟩ := xgd h
        refine xa_i C hW KX_64 g9 (x := σ.1 64 x1.toNatClampNeg) rfl dX5_chooseLengths_77 ?_
        refine lv_iconst (v := 1) hx hb dX5_chooseLengths_78 rfl ?_
        refine lv_iload_n hx hb dX5_chooseLengths_79 rfl (lv_at hl 2 rfl) ?_
        refine lv_ishl hx hb dX5_chooseLengths_80 ?_
        refine lv_ior hx hb dX5_chooseLengths_81 ?_
        obtain ⟨g10, h⟩ := xgd h
        refine xs_i C hW KX_64 g10 dX5_chooseLengths_82 (fun H locs hW => ?_)
        refine lv_iinc (v := x2 + 1) (lv' := [(2, .int (x2 + 1)), (0, .ref (g.q 57)), (1, .int x1)]) hx hb dX5_chooseLengths_83 hl (k := 2) rfl rfl (Nat.le_of_ble_eq_true rfl) rfl (fun ls hl => ?_)
        refine lv_goto (tgt := 35) hx hb dX5_chooseLengths_86 (by decide) ?_
        exact ih x1 (x2 + 1) _ _ _ _ hW (lv_sub hl [1, 2, 0] rfl) h
set_option maxRecDepth 4000 in
theorem w_X5_chooseLengths_169 (N : Nat) (k99 : Int32 → Int32 → St → Option St) {σ' : St} (C : xC KX g RX5 cX5_chooseLengths 5 none p s m args meth c) (hk99 : ∀ (x1 : Int32) (x2 : Int32) (σ : St) (H : Heap) (locs : List Loc) (ls : Array Slot), xW KX g s σ H locs → lv_has ls 5 [(0, .ref (g.q 57)), (1, .int x1), (2, .int x2)] → k99 x1 x2 σ = some σ' → W p l e rm_X5_chooseLengths s m args below meth c H locs 0 0 (MQ below (xPost KX g none σ') args s 0 0 (xA KX g.q)) (F0 m 99 ls [])) : ∀ (x1 : Int32) (x2 : Int32) (x3 : Int32) (σ : St) (H : Heap) (locs : List Loc) (ls : Array Slot), xW KX g s σ H locs → lv_has ls 5 [(0, .ref (g.q 57)), (1, .int x1), (2, .int x2), (3, .int x3)] → f_X5_chooseLengths_169 N k99 x1 x2 x3 σ = some σ' → W p l e rm_X5_chooseLengths s m args below meth c H locs 0 0 (MQ below (xPost KX g none σ') args s 0 0 (xA KX g.q)) (F0 m 169 ls []) := by
  have hx := C.1
  have hb := C.2.1
  intro x1 x2 x3 σ H locs ls hW hl h
  unfold f_X5_chooseLengths_169 at h
  refine lv_aload_n hx hb dX5_chooseLengths_169 rfl (lv_at hl 0 rfl) ?_
  refine xg_r C hW fg_5_39 KX_57 rfl dX5_chooseLengths_170 ?_
  refine lv_iload_n hx hb dX5_chooseLengths_173 rfl (lv_at hl 2 rfl) ?_
  refine lv_iload_n hx hb dX5_chooseLengths_174 rfl (lv_at hl 3 rfl) ?_
  refine lv_iload_n hx hb dX5_chooseLengths_175 rfl (lv_at hl 1 rfl) ?_
  refine lv_isub hx hb dX5_chooseLengths_176 ?_
  obtain ⟨g18, h⟩ := xgd h
  refine xs_i C hW KX_66 g18 dX5_chooseLengths_177 (fun H locs hW => ?_)
  refine lv_iload_n hx hb dX5_chooseLengths_178 rfl (lv_at hl 3 rfl) ?_
  refine lv_istore_n (lv' := [(1, .int x3), (0, .ref (g.q 57)), (2, .int x2), (3, .int x3)]) hx hb dX5_chooseLengths_179 rfl hl (Nat.le_of_ble_eq_true rfl) rfl (fun ls hl => ?_)
  refine lv_iinc (v := x2 + 1) (lv' := [(2, .int (x2 + 1)), (1, .int x3), (0, .ref (g.q 57)), (3, .int x3)]) hx hb dX5_chooseLengths_180 hl (k := 2) rfl rfl (Nat.le_of_ble_eq_true rfl) rfl (fun ls hl => ?_)
  refine lv_goto (tgt := 99) hx hb dX5_chooseLengths_183 (by decide) ?_
  exact hk99 x3 (x2 + 1) _ _ _ _ hW (lv_sub hl [2, 1, 0] rfl) h
set_option maxRecDepth 4000 in
theorem w_X5_chooseLengths_146 (N : Nat) (k99 : Int32 → Int32 → St → Option St) {σ' : St} (C : xC KX g RX5 cX5_chooseLengths 5 none p s m args meth c) (hk99 : ∀ (x1 : Int32) (x2 : Int32) (σ : St) (H : Heap) (locs : List Loc) (ls : Array Slot), xW KX g s σ H locs → lv_has ls 5 [(0, .ref (g.q 57)), (1, .int x1), (2, .int x2)] → k99 x1 x2 σ = some σ' → W p l e rm_X5_chooseLengths s m args below meth c H locs 0 0 (MQ below (xPost KX g none σ') args s 0 0 (xA KX g.q)) (F0 m 99 ls [])) : ∀ (n : Nat), ∀ (x1 : Int32) (x2 : Int32) (x3 : Int32) (x4 : Int32) (σ : St) (H : Heap) (locs : List Loc) (ls : Array Slot), xW KX g s σ H locs → lv_has ls 5 [(0, .ref (g.q 57)), (1, .int x1), (2, .int x2), (3, .int x3), (4, .int x4)] → f_X5_chooseLengths_146 N k99 n x1 x2 x3 x4 σ = some σ' → W p l e rm_X5_chooseLengths s m args below meth c H locs 0 0 (MQ below (xPost KX g none σ') args s 0 0 (xA KX g.q)) (F0 m 146 ls []) := by
  have hx := C.1
  have hb := C.2.1
  intro n
  induction n with
  | zero => intro x1 x2 x3 x4 σ H locs ls hW hl h; rw [f_X5_chooseLengths_146] at h; cases h
  | succ n ih =>
    intro x1 x2 x3 x4 σ H locs ls hW hl h
    rw [f_X5_chooseLengths_146] at h
    refine lv_iload_n hx hb dX5_chooseLengths_146 rfl (lv_at hl 3 rfl) ?_
    refine lv_aload_n hx hb dX5_chooseLengths_147 rfl (lv_at hl 0 rfl) ?_
    refine xg_i C hW fg_5_54 KX_57 rfl (v := 12404) rfl (x := σ.1 12404 0) rfl dX5_chooseLengths_148 ?_
    refine lv_icmp_ge (tgt := 169) hx hb dX5_chooseLengths_151 (by decide) (fun c16 => ?_) (fun c16 => ?_)
    · have h := xit c16 h
      exact w_X5_chooseLengths_169 N k99 C hk99 x1 x2 x3 _ _ _ _ hW (lv_sub hl [0, 1, 2, 3] rfl) h
    · have h := xif c16 h
      refine lv_iload hx hb dX5_chooseLengths_154 (lv_at hl 4 rfl) ?_
      refine lv_iload_n hx hb dX5_chooseLengths_156 rfl (lv_at hl 3 rfl) ?_
      refine lv_iushr (v := ushr x4 x3) hx hb dX5_chooseLengths_157 rfl ?_
      refine lv_iconst (v := 1) hx hb dX5_chooseLengths_158 rfl ?_
      refine lv_iand hx hb dX5_chooseLengths_159 ?_
      refine lv_if_ne (tgt := 169) hx hb dX5_chooseLengths_160 (by decide) (fun c17 => ?_) (fun c17 => ?_)
      · have h := xif c17 h
        exact w_X5_chooseLengths_169 N k99 C hk99 x1 x2 x3 _ _ _ _ hW (lv_sub hl [0, 1, 2, 3] rfl) h
      · have h := xit c17 h
        refine lv_iinc (v := x3 + 1) (lv' := [(3, .int (x3 + 1)), (0, .ref (g.q 57)), (1, .int x1), (2, .int x2), (4, .int x4)]) hx hb dX5_chooseLengths_163 hl (k := 3) rfl rfl (Nat.le_of_ble_eq_true rfl) rfl (fun ls hl => ?_)
        refine lv_goto (tgt := 146) hx hb dX5_chooseLengths_166 (by decide) ?_
        exact ih x1 x2 (x3 + 1) x4 _ _ _ _ hW (lv_sub hl [1, 2, 3, 0, 4] rfl) h
set_option maxRecDepth 4000 in
theorem w_X5_chooseLengths_99 (N : Nat) {σ' : St} (C : xC KX g RX5 cX5_chooseLengths 5 none p s m args meth c) : ∀ (n : Nat), ∀ (x1 : Int32) (x2 : Int32) (σ : St) (H : Heap) (locs : List Loc) (ls : Array Slot), xW KX g s σ H locs → lv_has ls 5 [(0, .ref (g.q 57)), (1, .int x1), (2, .int x2)] → f_X5_chooseLengths_99 N n x1 x2 σ = some σ' → W p l e rm_X5_chooseLengths s m args below meth c H locs 0 0 (MQ below (xPost KX g none σ') args s 0 0 (xA KX g.q)) (F0 m 99 ls []) := by
  have hx := C.1
  have hb := C.2.1
  intro n
  induction n with
  | zero => intro x1 x2 σ H locs ls hW hl h; rw [f_X5_chooseLengths_99] at h; cases h
  | succ n ih =>
    intro x1 x2 σ H locs ls hW hl h
    rw [f_X5_chooseLengths_99] at h
    refine lv_iload_n hx hb dX5_chooseLengths_99 rfl (lv_at hl 2 rfl) ?_
    refine lv_aload_n hx hb dX5_chooseLengths_100 rfl (lv_at hl 0 rfl) ?_
    refine xg_i C hW fg_5_58 KX_57 rfl (v := 12411) rfl (x := σ.1 12411 0) rfl dX5_chooseLengths_101 ?_
    refine lv_icmp_ge (tgt := 186) hx hb dX5_chooseLengths_104 (by decide) (fun c11 => ?_) (fun c11 => ?_)
    · have h := xit c11 h
      cases h
      exact xr_v C hW dX5_chooseLengths_186
    · have h := xif c11 h
      refine lv_iload_n hx hb dX5_chooseLengths_107 rfl (lv_at hl 1 rfl) ?_
      refine lv_aload_n hx hb dX5_chooseLengths_108 rfl (lv_at hl 0 rfl) ?_
      refine xg_i C hW fg_5_54 KX_57 rfl (v := 12404) rfl (x := σ.1 12404 0) rfl dX5_chooseLengths_109 ?_
      refine lv_icmp_ge (tgt := 186) hx hb dX5_chooseLengths_112 (by decide) (fun c12 => ?_) (fun c12 => ?_)
      · have h := xit c12 h
        cases h
        exact xr_v C hW dX5_chooseLengths_186
      · have h := xif c12 h
        refine lv_iload_n hx hb dX5_chooseLengths_115 rfl (lv_at hl 1 rfl) ?_
        refine lv_iconst (v := 1) hx hb dX5_chooseLengths_116 rfl ?_
        refine lv_iadd hx hb dX5_chooseLengths_117 ?_
        refine lv_istore_n (lv' := [(3, .int (x1 + 1)), (0, .ref (g.q 57)), (1, .int x1), (2, .int x2)]) hx hb dX5_chooseLengths_118 rfl hl (Nat.le_of_ble_eq_true rfl) rfl (fun ls hl => ?_)
        refine lv_aload_n hx hb dX5_chooseLengths_119 rfl (lv_at hl 1 rfl) ?_
        refine xg_r C hW fg_5_24 KX_57 rfl dX5_chooseLengths_120 ?_
        refine lv_aload_n hx hb dX5_chooseLengths_123 rfl (lv_at hl 1 rfl) ?_
        refine xg_r C hW fg_5_36 KX_57 rfl dX5_chooseLengths_124 ?_
        refine lv_iload_n hx hb dX5_chooseLengths_127 rfl (lv_at hl 3 rfl) ?_
        obtain ⟨g13, h⟩ := xgd h
        refine xa_i C hW KX_65 g13 (x := σ.1 65 x2.toNatClampNeg) rfl dX5_chooseLengths_128 ?_
        refine lv_bipush (v := 24) hx hb dX5_chooseLengths_129 rfl ?_
        refine lv_imul hx hb dX5_chooseLengths_131 ?_
        refine lv_iload_n hx hb dX5_chooseLengths_132 rfl (lv_at hl 2 rfl) ?_
        refine lv_iadd hx hb dX5_chooseLengths_133 ?_
        obtain ⟨g14, h⟩ := xgd h
        refine xa_i C hW KX_61 g14 (x := σ.1 61 (((σ.1 65 x2.toNatClampNeg) * 24) + x1).toNatClampNeg) rfl dX5_chooseLengths_134 ?_
        refine lv_aload_n hx hb dX5_chooseLengths_135 rfl (lv_at hl 1 rfl) ?_
        refine xg_r C hW fg_5_33 KX_57 rfl dX5_chooseLengths_136 ?_
        refine lv_iload_n hx hb dX5_chooseLengths_139 rfl (lv_at hl 3 rfl) ?_
        refine lv_iconst (v := 1) hx hb dX5_chooseLengths_140 rfl ?_
        refine lv_iadd hx hb dX5_chooseLengths_141 ?_
        obtain ⟨g15, h⟩ := xgd h
        refine xa_i C hW KX_64 g15 (x := σ.1 64 (x2 + 1).toNatClampNeg) rfl dX5_chooseLengths_142 ?_
        refine lv_iand hx hb dX5_chooseLengths_143 ?_
        refine lv_istore (lv' := [(4, .int ((σ.1 61 (((σ.1 65 x2.toNatClampNeg) * 24) + x1).toNatClampNeg) &&& (σ.1 64 (x2 + 1).toNatClampNeg))), (3, .int (x1 + 1)), (0, .ref (g.q 57)), (1, .int x1), (2, .int x2)]) hx hb dX5_chooseLengths_144 hl (Nat.le_of_ble_eq_true rfl) rfl (fun ls hl => ?_)
        exact w_X5_chooseLengths_146 N (f_X5_chooseLengths_99 N n) C ih N x1 x2 (x1 + 1) ((σ.1 61 (((σ.1 65 x2.toNatClampNeg) * 24) + x1).toNatClampNeg) &&& (σ.1 64 (x2 + 1).toNatClampNeg)) _ _ _ _ hW (lv_sub hl [2, 3, 4, 1, 0] rfl) h
set_option maxRecDepth 4000 in
theorem w_X5_chooseLengths_22 (N : Nat) {σ' : St} (C : xC KX g RX5 cX5_chooseLengths 5 none p s m args meth c) : ∀ (n : Nat), ∀ (x1 : Int32) (σ : St) (H : Heap) (locs : List Loc) (ls : Array Slot), xW KX g s σ H locs → lv_has ls 5 [(0, .ref (g.q 57)), (1, .int x1)] → f_X5_chooseLengths_22 N n x1 σ = some σ' → W p l e rm_X5_chooseLengths s m args below meth c H locs 0 0 (MQ below (xPost KX g none σ') args s 0 0 (xA KX g.q)) (F0 m 22 ls []) := by
  have hx := C.1
  have hb := C.2.1
  intro n
  induction n with
  | zero => intro x1 σ H locs ls hW hl h; rw [f_X5_chooseLengths_22] at h; cases h
  | succ n ih =>
    intro x1 σ H locs ls hW hl h
    rw [f_X5_chooseLengths_22] at h
    refine lv_iload_n hx hb dX5_chooseLengths_22 rfl (lv_at hl 1 rfl) ?_
    refine lv_if_lt (tgt := 95) hx hb dX5_chooseLengths_23 (by decide) (fun c2 => ?_) (fun c2 => ?_)
    · have h := xit c2 h
      refine lv_iconst (v := 0) hx hb dX5_chooseLengths_95 rfl ?_
      refine lv_istore_n (lv' := [(1, .int 0), (0, .ref (g.q 57))]) hx hb dX5_chooseLengths_96 rfl hl (Nat.le_of_ble_eq_true rfl) rfl (fun ls hl => ?_)
      refine lv_iconst (v := 0) hx hb dX5_chooseLengths_97 rfl ?_
      refine lv_istore_n (lv' := [(2, .int 0), (1, .int 0), (0, .ref (g.q 57))]) hx hb dX5_chooseLengths_98 rfl hl (Nat.le_of_ble_eq_true rfl) rfl (fun ls hl => ?_)
      exact w_X5_chooseLengths_99 N C N 0 0 _ _ _ _ hW (lv_sub hl [2, 1, 0] rfl) h
    · have h := xif c2 h
      refine lv_aload_n hx hb dX5_chooseLengths_26 rfl (lv_at hl 0 rfl) ?_
      refine xg_r C hW fg_5_33 KX_57 rfl dX5_chooseLengths_27 ?_
      refine lv_iload_n hx hb dX5_chooseLengths_30 rfl (lv_at hl 1 rfl) ?_
      refine lv_iconst (v := 0) hx hb dX5_chooseLengths_31 rfl ?_
      obtain ⟨g3, h⟩ := xgd h
      refine xs_i C hW KX_64 g3 dX5_chooseLengths_32 (fun H locs hW => ?_)
      refine lv_iconst (v := 0) hx hb dX5_chooseLengths_33 rfl ?_
      refine lv_istore_n (lv' := [(2, .int 0), (0, .ref (g.q 57)), (1, .int x1)]) hx hb dX5_chooseLengths_34 rfl hl (Nat.le_of_ble_eq_true rfl) rfl (fun ls hl => ?_)
      exact w_X5_chooseLengths_35 N (f_X5_chooseLengths_22 N n) C ih N x1 0 _ _ _ _ hW (lv_sub hl [1, 2, 0] rfl) h
set_option maxRecDepth 4000 in
theorem m_X5_chooseLengths (N : Nat) (σ : St) {σ' : St} (h : f_X5_chooseLengths N σ = some σ') : xM l KX g yX5_chooseLengths cX5_chooseLengths 5 none rm_X5_chooseLengths [.ref (g.q 57)] σ none σ' := by
  refine xmet pn_X5 rfl (Nat.le_of_ble_eq_true rfl) (lv := [(0, .ref (g.q 57))]) rfl (fun p e s m args below meth c ls C hW hl => ?_)
  have hx := C.1
  have hb := C.2.1
  unfold f_X5_chooseLengths at h
  refine lv_aload_n hx hb dX5_chooseLengths_0 rfl (lv_at hl 0 rfl) ?_
  refine xg_r C hW fg_5_33 KX_57 rfl dX5_chooseLengths_1 ?_
  refine lv_aload_n hx hb dX5_chooseLengths_4 rfl (lv_at hl 0 rfl) ?_
  refine xg_i C hW fg_5_58 KX_57 rfl (v := 12411) rfl (x := σ.1 12411 0) rfl dX5_chooseLengths_5 ?_
  refine lv_iconst (v := 1) hx hb dX5_chooseLengths_8 rfl ?_
  refine lv_aload_n hx hb dX5_chooseLengths_9 rfl (lv_at hl 0 rfl) ?_
  refine xg_i C hW fg_5_54 KX_57 rfl (v := 12404) rfl (x := σ.1 12404 0) rfl dX5_chooseLengths_10 ?_
  refine lv_ishl hx hb dX5_chooseLengths_13 ?_
  obtain ⟨g1, h⟩ := xgd h
  refine xs_i C hW KX_64 g1 dX5_chooseLengths_14 (fun H locs hW => ?_)
  refine lv_aload_n hx hb dX5_chooseLengths_15 rfl (lv_at hl 0 rfl) ?_
  refine xg_i C hW fg_5_58 KX_57 rfl (v := 12411) rfl (x := σ.1 12411 0) rfl dX5_chooseLengths_16 ?_
  refine lv_iconst (v := 1) hx hb dX5_chooseLengths_19 rfl ?_
  refine lv_isub hx hb dX5_chooseLengths_20 ?_
  refine lv_istore_n (lv' := [(1, .int ((σ.1 12411 0) - 1)), (0, .ref (g.q 57))]) hx hb dX5_chooseLengths_21 rfl hl (Nat.le_of_ble_eq_true rfl) rfl (fun ls hl => ?_)
  exact w_X5_chooseLengths_22 N C N ((σ.1 12411 0) - 1) _ _ _ _ hW (lv_sub hl [1, 0] rfl) h
end
