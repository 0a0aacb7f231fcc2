theorem dX12_readItem_0 : decode cX12_readItem 0 = .ok (.aload_n 0, 1) := by decide +kernel
theorem dX12_readItem_1 : decode cX12_readItem 1 = .ok (.getfield 264, 3) := by decide +kernel
theorem dX12_readItem_4 : decode cX12_readItem 4 = .ok (.bipush 8, 2) := by decide +kernel
theorem dX12_readItem_6 : decode cX12_readItem 6 = .ok (.if_icmp .ne 71, 3) := by decide +kernel
theorem dX12_readItem_9 : decode cX12_readItem 9 = .ok (.aload_n 0, 1) := by decide +kernel
theorem dX12_readItem_10 : decode cX12_readItem 10 = .ok (.getfield 356, 3) := by decide +kernel
theorem dX12_readItem_13 : decode cX12_readItem 13 = .ok (.iconst 4, 1) := by decide +kernel
theorem dX12_readItem_14 : decode cX12_readItem 14 = .ok (.if_icmp .ne 9, 3) := by decide +kernel
theorem dX12_readItem_17 : decode cX12_readItem 17 = .ok (.aload_n 0, 1) := by decide +kernel
theorem dX12_readItem_18 : decode cX12_readItem 18 = .ok (.iconst 4, 1) := by decide +kernel
theorem dX12_readItem_19 : decode cX12_readItem 19 = .ok (.invokevirtual 292, 3) := by decide +kernel
theorem dX12_readItem_22 : decode cX12_readItem 22 = .ok (.ireturn, 1) := by decide +kernel
theorem dX12_readItem_23 : decode cX12_readItem 23 = .ok (.aload_n 0, 1) := by decide +kernel
theorem dX12_readItem_24 : decode cX12_readItem 24 = .ok (.dup, 1) := by decide +kernel
theorem dX12_readItem_25 : decode cX12_readItem 25 = .ok (.getfield 356, 3) := by decide +kernel
theorem dX12_readItem_28 : decode cX12_readItem 28 = .ok (.iconst 1, 1) := by decide +kernel
theorem dX12_readItem_29 : decode cX12_readItem 29 = .ok (.iadd, 1) := by decide +kernel
theorem dX12_readItem_30 : decode cX12_readItem 30 = .ok (.putfield 356, 3) := by decide +kernel
theorem dX12_readItem_33 : decode cX12_readItem 33 = .ok (.aload_n 0, 1) := by decide +kernel
theorem dX12_readItem_34 : decode cX12_readItem 34 = .ok (.invokevirtual 239, 3) := by decide +kernel
theorem dX12_readItem_37 : decode cX12_readItem 37 = .ok (.aload_n 0, 1) := by decide +kernel
theorem dX12_readItem_38 : decode cX12_readItem 38 = .ok (.invokevirtual 359, 3) := by decide +kernel
theorem dX12_readItem_41 : decode cX12_readItem 41 = .ok (.ifCond .ne 5, 3) := by decide +kernel
theorem dX12_readItem_44 : decode cX12_readItem 44 = .ok (.iconst 0, 1) := by decide +kernel
theorem dX12_readItem_45 : decode cX12_readItem 45 = .ok (.ireturn, 1) := by decide +kernel
theorem dX12_readItem_46 : decode cX12_readItem 46 = .ok (.aload_n 0, 1) := by decide +kernel
theorem dX12_readItem_47 : decode cX12_readItem 47 = .ok (.getfield 264, 3) := by decide +kernel
theorem dX12_readItem_50 : decode cX12_readItem 50 = .ok (.bipush 9, 2) := by decide +kernel
theorem dX12_readItem_52 : decode cX12_readItem 52 = .ok (.if_icmp .eq 9, 3) := by decide +kernel
theorem dX12_readItem_55 : decode cX12_readItem 55 = .ok (.aload_n 0, 1) := by decide +kernel
theorem dX12_readItem_56 : decode cX12_readItem 56 = .ok (.iconst 1, 1) := by decide +kernel
theorem dX12_readItem_57 : decode cX12_readItem 57 = .ok (.invokevirtual 292, 3) := by decide +kernel
theorem dX12_readItem_60 : decode cX12_readItem 60 = .ok (.ireturn, 1) := by decide +kernel
theorem dX12_readItem_61 : decode cX12_readItem 61 = .ok (.aload_n 0, 1) := by decide +kernel
theorem dX12_readItem_62 : decode cX12_readItem 62 = .ok (.dup, 1) := by decide +kernel
theorem dX12_readItem_63 : decode cX12_readItem 63 = .ok (.getfield 356, 3) := by decide +kernel
theorem dX12_readItem_66 : decode cX12_readItem 66 = .ok (.iconst 1, 1) := by decide +kernel
theorem dX12_readItem_67 : decode cX12_readItem 67 = .ok (.isub, 1) := by decide +kernel
theorem dX12_readItem_68 : decode cX12_readItem 68 = .ok (.putfield 356, 3) := by decide +kernel
theorem dX12_readItem_71 : decode cX12_readItem 71 = .ok (.aload_n 0, 1) := by decide +kernel
theorem dX12_readItem_72 : decode cX12_readItem 72 = .ok (.invokevirtual 239, 3) := by decide +kernel
theorem dX12_readItem_75 : decode cX12_readItem 75 = .ok (.iconst 1, 1) := by decide +kernel
theorem dX12_readItem_76 : decode cX12_readItem 76 = .ok (.ireturn, 1) := by decide +kernel
theorem dX12_readItem_77 : decode cX12_readItem 77 = .ok (.aload_n 0, 1) := by decide +kernel
theorem dX12_readItem_78 : decode cX12_readItem 78 = .ok (.invokevirtual 362, 3) := by decide +kernel
theorem dX12_readItem_81 : decode cX12_readItem 81 = .ok (.istore_n 1, 1) := by decide +kernel
theorem dX12_readItem_82 : decode cX12_readItem 82 = .ok (.iload_n 1, 1) := by decide +kernel
theorem dX12_readItem_83 : decode cX12_readItem 83 = .ok (.ifCond .ge 5, 3) := by decide +kernel
theorem dX12_readItem_86 : decode cX12_readItem 86 = .ok (.iconst 0, 1) := by decide +kernel
theorem dX12_readItem_87 : decode cX12_readItem 87 = .ok (.ireturn, 1) := by decide +kernel
theorem dX12_readItem_88 : decode cX12_readItem 88 = .ok (.aload_n 0, 1) := by decide +kernel
theorem dX12_readItem_89 : decode cX12_readItem 89 = .ok (.iconst 0, 1) := by decide +kernel
theorem dX12_readItem_90 : decode cX12_readItem 90 = .ok (.invokevirtual 365, 3) := by decide +kernel
theorem dX12_readItem_93 : decode cX12_readItem 93 = .ok (.istore_n 2, 1) := by decide +kernel
theorem dX12_readItem_94 : decode cX12_readItem 94 = .ok (.aload_n 0, 1) := by decide +kernel
theorem dX12_readItem_95 : decode cX12_readItem 95 = .ok (.getfield 49, 3) := by decide +kernel
theorem dX12_readItem_98 : decode cX12_readItem 98 = .ok (.iload_n 2, 1) := by decide +kernel
theorem dX12_readItem_99 : decode cX12_readItem 99 = .ok (.iload_n 1, 1) := by decide +kernel
theorem dX12_readItem_100 : decode cX12_readItem 100 = .ok (.iastore, 1) := by decide +kernel
theorem dX12_readItem_101 : decode cX12_readItem 101 = .ok (.aload_n 0, 1) := by decide +kernel
theorem dX12_readItem_102 : decode cX12_readItem 102 = .ok (.getfield 264, 3) := by decide +kernel
theorem dX12_readItem_105 : decode cX12_readItem 105 = .ok (.bipush 6, 2) := by decide +kernel
theorem dX12_readItem_107 : decode cX12_readItem 107 = .ok (.if_icmp .ne 25, 3) := by decide +kernel
theorem dX12_readItem_110 : decode cX12_readItem 110 = .ok (.aload_n 0, 1) := by decide +kernel
theorem dX12_readItem_111 : decode cX12_readItem 111 = .ok (.invokevirtual 239, 3) := by decide +kernel
theorem dX12_readItem_114 : decode cX12_readItem 114 = .ok (.aload_n 0, 1) := by decide +kernel
theorem dX12_readItem_115 : decode cX12_readItem 115 = .ok (.invokevirtual 362, 3) := by decide +kernel
theorem dX12_readItem_118 : decode cX12_readItem 118 = .ok (.istore_n 3, 1) := by decide +kernel
theorem dX12_readItem_119 : decode cX12_readItem 119 = .ok (.iload_n 3, 1) := by decide +kernel
theorem dX12_readItem_120 : decode cX12_readItem 120 = .ok (.ifCond .ge 5, 3) := by decide +kernel
theorem dX12_readItem_123 : decode cX12_readItem 123 = .ok (.iconst 0, 1) := by decide +kernel
theorem dX12_readItem_124 : decode cX12_readItem 124 = .ok (.ireturn, 1) := by decide +kernel
theorem dX12_readItem_125 : decode cX12_readItem 125 = .ok (.aload_n 0, 1) := by decide +kernel
theorem dX12_readItem_126 : decode cX12_readItem 126 = .ok (.getfield 52, 3) := by decide +kernel
theorem dX12_readItem_129 : decode cX12_readItem 129 = .ok (.iload_n 2, 1) := by decide +kernel
theorem dX12_readItem_130 : decode cX12_readItem 130 = .ok (.iload_n 3, 1) := by decide +kernel
theorem dX12_readItem_131 : decode cX12_readItem 131 = .ok (.iastore, 1) := by decide +kernel
theorem dX12_readItem_132 : decode cX12_readItem 132 = .ok (.aload_n 0, 1) := by decide +kernel
theorem dX12_readItem_133 : decode cX12_readItem 133 = .ok (.iload_n 2, 1) := by decide +kernel
theorem dX12_readItem_134 : decode cX12_readItem 134 = .ok (.putfield 368, 3) := by decide +kernel
theorem dX12_readItem_137 : decode cX12_readItem 137 = .ok (.iconst 1, 1) := by decide +kernel
theorem dX12_readItem_138 : decode cX12_readItem 138 = .ok (.ireturn, 1) := by decide +kernel
def f_X12_readItem_132 (N : Nat) (hd : Int32 → St → Option (Int32 × St)) (x2 : Int32) (σ : St) : Option (Int32 × St) := some (1, (si σ 1034 0 x2))
def f_X12_readItem (N : Nat) (hd : Int32 → St → Option (Int32 × St)) (σ : St) : Option (Int32 × St) := (if (σ.1 1003 0) = 8 then (if (σ.1 1032 0) = 4 then bd (f_X12_fails 4 σ) (fun r19_ σ19 => grd (zbb r19_) (some (r19_, σ19))) else bo (f_X12_scan N (si σ 1032 0 ((σ.1 1032 0) + 1))) (fun σ12 => bd (f_X12_readBlock N hd σ12) (fun r13_ σ13 => (if r13_ = 0 then some (0, σ13) else (if (σ13.1 1003 0) = 9 then bo (f_X12_scan N (si σ13 1032 0 ((σ13.1 1032 0) - 1))) (fun σ16 => some (1, σ16)) else bd (f_X12_fails 1 σ13) (fun r17_ σ17 => grd (zbb r17_) (some (r17_, σ17)))))))) else bd (f_X12_readName N σ) (fun r2_ σ2 => (if 0 ≤ r2_ then bd (f_X12_makePart 0 σ2) (fun r4_ σ4 => grd (ib r4_ 400) ((if (σ4.1 1003 0) = 6 then bo (f_X12_scan N (si σ4 12 r4_.toNatClampNeg r2_)) (fun σ7 => bd (f_X12_readName N σ7) (fun r8_ σ8 => (if 0 ≤ r8_ then grd (ib r4_ 400) (f_X12_readItem_132 N hd r4_ (si σ8 13 r4_.toNatClampNeg r8_)) else some (0, σ8)))) else f_X12_readItem_132 N hd r4_ (si σ4 12 r4_.toNatClampNeg r2_)))) else some (0, σ2))))
section
variable {p : Program} {l : Launch} {e : Env} {s : State} {m : MethodId} {args : Array Value} {below : List Frame} {meth : Method} {c : Code} {g : XG}
set_option maxRecDepth 4000 in
theorem w_X12_readItem_132 (N : Nat) (hd : Int32 → St → Option (Int32 × St)) (rmH : Room) (hrm : rmH.cells = 0 ∧ rmH.slots = 0 ∧ 7 ≤ rmH.frames ∧ 191 ≤ rmH.locals) (hH : ∀ (a0 : Int32) (σ : St) {r : Int32} {σ' : St}, hd a0 σ = some (r, σ') → xM l KM g yX12_readRowOf cX12_readRowOf 5 (some .boolean) rmH [.ref (g.q 0), .int a0] σ (some (.int r)) σ') {r : Int32} {σ' : St} (C : xC KM g RX12 cX12_readItem 4 (some .boolean) p s m args meth c) : ∀ (x2 : Int32) (σ : St) (H : Heap) (locs : List Loc) (ls : Array Slot), xW KM g s σ H locs → lv_has ls 4 [(0, .ref (g.q 0)), (2, .int x2)] → f_X12_readItem_132 N hd x2 σ = some (r, σ') → W p l e (xrm rmH 2 44) s m args below meth c H locs 0 0 (MQ below (xPost KM g (some (.int r)) σ') args s 0 0 (xA KM g.q)) (F0 m 132 ls []) := by
  have hx := C.1
  have hb := C.2.1
  intro x2 σ H locs ls hW hl h
  unfold f_X12_readItem_132 at h
  refine lv_aload_n hx hb dX12_readItem_132 rfl (lv_at hl 0 rfl) ?_
  refine lv_iload_n hx hb dX12_readItem_133 rfl (lv_at hl 1 rfl) ?_
  refine xp_i C hW fp_12_368 KM_0 rfl (v := 1034) rfl rfl rfl dX12_readItem_134 (fun H locs hW => ?_)
  refine lv_iconst (v := 1) hx hb dX12_readItem_137 rfl ?_
  cases h
  exact xr_z C hW (by decide) dX12_readItem_138
set_option maxRecDepth 4000 in
theorem m_X12_readItem (N : Nat) (hd : Int32 → St → Option (Int32 × St)) (rmH : Room) (hrm : rmH.cells = 0 ∧ rmH.slots = 0 ∧ 7 ≤ rmH.frames ∧ 191 ≤ rmH.locals) (hH : ∀ (a0 : Int32) (σ : St) {r : Int32} {σ' : St}, hd a0 σ = some (r, σ') → xM l KM g yX12_readRowOf cX12_readRowOf 5 (some .boolean) rmH [.ref (g.q 0), .int a0] σ (some (.int r)) σ') (σ : St) {r : Int32} {σ' : St} (h : f_X12_readItem N hd σ = some (r, σ')) : xM l KM g yX12_readItem cX12_readItem 4 (some .boolean) (xrm rmH 2 44) [.ref (g.q 0)] σ (some (.int r)) σ' := by
  refine xmet pn_X12 rfl (Nat.le_of_ble_eq_true rfl) (lv := [(0, .ref (g.q 0))]) rfl (fun p e s m args below meth c ls C hW hl => ?_)
  have hx := C.1
  have hb := C.2.1
  unfold f_X12_readItem at h
  refine lv_aload_n hx hb dX12_readItem_0 rfl (lv_at hl 0 rfl) ?_
  refine xg_i C hW fg_12_264 KM_0 rfl (v := 1003) rfl (x := σ.1 1003 0) rfl dX12_readItem_1 ?_
  refine lv_bipush (v := 8) hx hb dX12_readItem_4 rfl ?_
  refine lv_icmp_ne (tgt := 77) hx hb dX12_readItem_6 (by decide) (fun c1 => ?_) (fun c1 => ?_)
  · have h := xif c1 h
    refine lv_aload_n hx hb dX12_readItem_77 rfl (lv_at hl 0 rfl) ?_
    obtain ⟨r2_, σ2, e2, h⟩ := xbd h
    refine xc_V (As := []) (rest := []) C hW (m_X12_readName N _ e2) mf_X12_readName mv_X12_readName ml_X12_362 ⟨rfl, rfl⟩ ⟨xle1 hrm.2.2.1 (Nat.le_of_ble_eq_true rfl), xle1 hrm.2.2.2 (Nat.le_of_ble_eq_true rfl)⟩ KM_0 rfl hl.1 rfl rfl (Nat.le_of_ble_eq_true rfl) dX12_readItem_78 (fun H locs hW => W.eq (g2 := F0 m 81 ls [.int r2_]) rfl ?_)
    refine lv_istore_n (lv' := [(1, .int r2_), (0, .ref (g.q 0))]) hx hb dX12_readItem_81 rfl hl (Nat.le_of_ble_eq_true rfl) rfl (fun ls hl => ?_)
    refine lv_iload_n hx hb dX12_readItem_82 rfl (lv_at hl 0 rfl) ?_
    refine lv_if_ge (tgt := 88) hx hb dX12_readItem_83 (by decide) (fun c3 => ?_) (fun c3 => ?_)
    · have h := xit c3 h
      refine lv_aload_n hx hb dX12_readItem_88 rfl (lv_at hl 1 rfl) ?_
      refine lv_iconst (v := 0) hx hb dX12_readItem_89 rfl ?_
      obtain ⟨r4_, σ4, e4, h⟩ := xbd h
      refine xc_V (As := [.int 0]) (rest := []) C hW (m_X12_makePart 0 _ e4) mf_X12_makePart mv_X12_makePart ml_X12_365 ⟨rfl, rfl⟩ ⟨xle1 hrm.2.2.1 (Nat.le_of_ble_eq_true rfl), xle1 hrm.2.2.2 (Nat.le_of_ble_eq_true rfl)⟩ KM_0 rfl hl.1 rfl rfl (Nat.le_of_ble_eq_true rfl) dX12_readItem_90 (fun H locs hW => W.eq (g2 := F0 m 93 ls [.int r4_]) rfl ?_)
      refine lv_istore_n (lv' := [(2, .int r4_), (1, .int r2_), (0, .ref (g.q 0))]) hx hb dX12_readItem_93 rfl hl (Nat.le_of_ble_eq_true rfl) rfl (fun ls hl => ?_)
      refine lv_aload_n hx hb dX12_readItem_94 rfl (lv_at hl 2 rfl) ?_
      refine xg_r C hW fg_12_49 KM_0 rfl dX12_readItem_95 ?_
      refine lv_iload_n hx hb dX12_readItem_98 rfl (lv_at hl 0 rfl) ?_
      refine lv_iload_n hx hb dX12_readItem_99 rfl (lv_at hl 1 rfl) ?_
      obtain ⟨g5, h⟩ := xgd h
      refine xs_i C hW KM_12 g5 dX12_readItem_100 (fun H locs hW => ?_)
      refine lv_aload_n hx hb dX12_readItem_101 rfl (lv_at hl 2 rfl) ?_
      refine xg_i C hW fg_12_264 KM_0 rfl (v := 1003) rfl (x := σ4.1 1003 0) rfl dX12_readItem_102 ?_
      refine lv_bipush (v := 6) hx hb dX12_readItem_105 rfl ?_
      refine lv_icmp_ne (tgt := 132) hx hb dX12_readItem_107 (by decide) (fun c6 => ?_) (fun c6 => ?_)
      · have h := xif c6 h
        exact w_X12_readItem_132 N hd rmH hrm hH C r4_ _ _ _ _ hW (lv_sub hl [2, 0] rfl) h
      · have h := xit c6 h
        refine lv_aload_n hx hb dX12_readItem_110 rfl (lv_at hl 2 rfl) ?_
        obtain ⟨σ7, e7, h⟩ := xbo h
        refine xc_V (As := []) (rest := []) C hW (m_X12_scan N _ e7) mf_X12_scan mv_X12_scan ml_X12_239 ⟨rfl, rfl⟩ ⟨xle1 hrm.2.2.1 (Nat.le_of_ble_eq_true rfl), xle1 hrm.2.2.2 (Nat.le_of_ble_eq_true rfl)⟩ KM_0 rfl hl.1 rfl rfl (Nat.le_of_ble_eq_true rfl) dX12_readItem_111 (fun H locs hW => W.eq (g2 := F0 m 114 ls []) rfl ?_)
        refine lv_aload_n hx hb dX12_readItem_114 rfl (lv_at hl 2 rfl) ?_
        obtain ⟨r8_, σ8, e8, h⟩ := xbd h
        refine xc_V (As := []) (rest := []) C hW (m_X12_readName N _ e8) mf_X12_readName mv_X12_readName ml_X12_362 ⟨rfl, rfl⟩ ⟨xle1 hrm.2.2.1 (Nat.le_of_ble_eq_true rfl), xle1 hrm.2.2.2 (Nat.le_of_ble_eq_true rfl)⟩ KM_0 rfl hl.1 rfl rfl (Nat.le_of_ble_eq_true rfl) dX12_readItem_115 (fun H locs hW => W.eq (g2 := F0 m 118 ls [.int r8_]) rfl ?_)
        refine lv_istore_n (lv' := [(3, .int r8_), (2, .int r4_), (1, .int r2_), (0, .ref (g.q 0))]) hx hb dX12_readItem_118 rfl hl (Nat.le_of_ble_eq_true rfl) rfl (fun ls hl => ?_)
        refine lv_iload_n hx hb dX12_readItem_119 rfl (lv_at hl 0 rfl) ?_
        refine lv_if_ge (tgt := 125) hx hb dX12_readItem_120 (by decide) (fun c9 => ?_) (fun c9 => ?_)
        · have h := xit c9 h
          refine lv_aload_n hx hb dX12_readItem_125 rfl (lv_at hl 3 rfl) ?_
          refine xg_r C hW fg_12_52 KM_0 rfl dX12_readItem_126 ?_
          refine lv_iload_n hx hb dX12_readItem_129 rfl (lv_at hl 1 rfl) ?_
          refine lv_iload_n hx hb dX12_readItem_130 rfl (lv_at hl 0 rfl) ?_
          obtain ⟨g10, h⟩ := xgd h
          refine xs_i C hW KM_13 g10 dX12_readItem_131 (fun H locs hW => ?_)
          exact w_X12_readItem_132 N hd rmH hrm hH C r4_ _ _ _ _ hW (lv_sub hl [3, 1] rfl) h
        · have h := xif c9 h
          refine lv_iconst (v := 0) hx hb dX12_readItem_123 rfl ?_
          cases h
          exact xr_z C hW (by decide) dX12_readItem_124
    · have h := xif c3 h
      refine lv_iconst (v := 0) hx hb dX12_readItem_86 rfl ?_
      cases h
      exact xr_z C hW (by decide) dX12_readItem_87
  · have h := xit c1 h
    refine lv_aload_n hx hb dX12_readItem_9 rfl (lv_at hl 0 rfl) ?_
    refine xg_i C hW fg_12_356 KM_0 rfl (v := 1032) rfl (x := σ.1 1032 0) rfl dX12_readItem_10 ?_
    refine lv_iconst (v := 4) hx hb dX12_readItem_13 rfl ?_
    refine lv_icmp_ne (tgt := 23) hx hb dX12_readItem_14 (by decide) (fun c11 => ?_) (fun c11 => ?_)
    · have h := xif c11 h
      refine lv_aload_n hx hb dX12_readItem_23 rfl (lv_at hl 0 rfl) ?_
      refine lv_dup hx hb dX12_readItem_24 rfl ?_
      refine xg_i C hW fg_12_356 KM_0 rfl (v := 1032) rfl (x := σ.1 1032 0) rfl dX12_readItem_25 ?_
      refine lv_iconst (v := 1) hx hb dX12_readItem_28 rfl ?_
      refine lv_iadd hx hb dX12_readItem_29 ?_
      refine xp_i C hW fp_12_356 KM_0 rfl (v := 1032) rfl rfl rfl dX12_readItem_30 (fun H locs hW => ?_)
      refine lv_aload_n hx hb dX12_readItem_33 rfl (lv_at hl 0 rfl) ?_
      obtain ⟨σ12, e12, h⟩ := xbo h
      refine xc_V (As := []) (rest := []) C hW (m_X12_scan N _ e12) mf_X12_scan mv_X12_scan ml_X12_239 ⟨rfl, rfl⟩ ⟨xle1 hrm.2.2.1 (Nat.le_of_ble_eq_true rfl), xle1 hrm.2.2.2 (Nat.le_of_ble_eq_true rfl)⟩ KM_0 rfl hl.1 rfl rfl (Nat.le_of_ble_eq_true rfl) dX12_readItem_34 (fun H locs hW => W.eq (g2 := F0 m 37 ls []) rfl ?_)
      refine lv_aload_n hx hb dX12_readItem_37 rfl (lv_at hl 0 rfl) ?_
      obtain ⟨r13_, σ13, e13, h⟩ := xbd h
      refine xc_V (As := []) (rest := []) C hW (m_X12_readBlock N hd rmH hrm hH _ e13) mf_X12_readBlock mv_X12_readBlock ml_X12_359 ⟨rfl, rfl⟩ ⟨by simp only [xrm]; omega, by simp only [xrm]; omega⟩ KM_0 rfl hl.1 rfl rfl (Nat.le_of_ble_eq_true rfl) dX12_readItem_38 (fun H locs hW => W.eq (g2 := F0 m 41 ls [.int r13_]) rfl ?_)
      refine lv_if_ne (tgt := 46) hx hb dX12_readItem_41 (by decide) (fun c14 => ?_) (fun c14 => ?_)
      · have h := xif c14 h
        refine lv_aload_n hx hb dX12_readItem_46 rfl (lv_at hl 0 rfl) ?_
        refine xg_i C hW fg_12_264 KM_0 rfl (v := 1003) rfl (x := σ13.1 1003 0) rfl dX12_readItem_47 ?_
        refine lv_bipush (v := 9) hx hb dX12_readItem_50 rfl ?_
        refine lv_icmp_eq (tgt := 61) hx hb dX12_readItem_52 (by decide) (fun c15 => ?_) (fun c15 => ?_)
        · have h := xit c15 h
          refine lv_aload_n hx hb dX12_readItem_61 rfl (lv_at hl 0 rfl) ?_
          refine lv_dup hx hb dX12_readItem_62 rfl ?_
          refine xg_i C hW fg_12_356 KM_0 rfl (v := 1032) rfl (x := σ13.1 1032 0) rfl dX12_readItem_63 ?_
          refine lv_iconst (v := 1) hx hb dX12_readItem_66 rfl ?_
          refine lv_isub hx hb dX12_readItem_67 ?_
          refine xp_i C hW fp_12_356 KM_0 rfl (v := 1032) rfl rfl rfl dX12_readItem_68 (fun H locs hW => ?_)
          refine lv_aload_n hx hb dX12_readItem_71 rfl (lv_at hl 0 rfl) ?_
          obtain ⟨σ16, e16, h⟩ := xbo h
          refine xc_V (As := []) (rest := []) C hW (m_X12_scan N _ e16) mf_X12_scan mv_X12_scan ml_X12_239 ⟨rfl, rfl⟩ ⟨xle1 hrm.2.2.1 (Nat.le_of_ble_eq_true rfl), xle1 hrm.2.2.2 (Nat.le_of_ble_eq_true rfl)⟩ KM_0 rfl hl.1 rfl rfl (Nat.le_of_ble_eq_true rfl) dX12_readItem_72 (fun H locs hW => W.eq (g2 := F0 m 75 ls []) rfl ?_)
          refine lv_iconst (v := 1) hx hb dX12_readItem_75 rfl ?_
          cases h
          exact xr_z C hW (by decide) dX12_readItem_76
        · have h := xif c15 h
          refine lv_aload_n hx hb dX12_readItem_55 rfl (lv_at hl 0 rfl) ?_
          refine lv_iconst (v := 1) hx hb dX12_readItem_56 rfl ?_
          obtain ⟨r17_, σ17, e17, h⟩ := xbd h
          refine xc_V (As := [.int 1]) (rest := []) C hW (m_X12_fails 1 _ e17) mf_X12_fails mv_X12_fails ml_X12_292 ⟨rfl, rfl⟩ ⟨xle1 hrm.2.2.1 (Nat.le_of_ble_eq_true rfl), xle1 hrm.2.2.2 (Nat.le_of_ble_eq_true rfl)⟩ KM_0 rfl hl.1 rfl rfl (Nat.le_of_ble_eq_true rfl) dX12_readItem_57 (fun H locs hW => W.eq (g2 := F0 m 60 ls [.int r17_]) rfl ?_)
          obtain ⟨g18, h⟩ := xgd h
          cases h
          exact xr_z C hW g18 dX12_readItem_60
      · have h := xit c14 h
        refine lv_iconst (v := 0) hx hb dX12_readItem_44 rfl ?_
        cases h
        exact xr_z C hW (by decide) dX12_readItem_45
    · have h := xit c11 h
      refine lv_aload_n hx hb dX12_readItem_17 rfl (lv_at hl 0 rfl) ?_
      refine lv_iconst (v := 4) hx hb dX12_readItem_18 rfl ?_
      obtain ⟨r19_, σ19, e19, h⟩ := xbd h
      refine xc_V (As := [.int 4]) (rest := []) C hW (m_X12_fails 4 _ e19) mf_X12_fails mv_X12_fails ml_X12_292 ⟨rfl, rfl⟩ ⟨xle1 hrm.2.2.1 (Nat.le_of_ble_eq_true rfl), xle1 hrm.2.2.2 (Nat.le_of_ble_eq_true rfl)⟩ KM_0 rfl hl.1 rfl rfl (Nat.le_of_ble_eq_true rfl) dX12_readItem_19 (fun H locs hW => W.eq (g2 := F0 m 22 ls [.int r19_]) rfl ?_)
      obtain ⟨g20, h⟩ := xgd h
      cases h
      exact xr_z C hW g20 dX12_readItem_22
end
theorem dX12_readRowOf_0 : decode cX12_readRowOf 0 = .ok (.iload_n 1, 1) := by decide +kernel
theorem dX12_readRowOf_1 : decode cX12_readRowOf 1 = .ok (.iconst 1, 1) := by decide +kernel
theorem dX12_readRowOf_2 : decode cX12_readRowOf 2 = .ok (.if_icmp .ne 7, 3) := by decide +kernel
theorem dX12_readRowOf_5 : decode cX12_readRowOf 5 = .ok (.iconst 5, 1) := by decide +kernel
theorem dX12_readRowOf_6 : decode cX12_readRowOf 6 = .ok (.goto 4, 3) := by decide +kernel
theorem dX12_readRowOf_9 : decode cX12_readRowOf 9 = .ok (.iconst 4, 1) := by decide +kernel
theorem dX12_readRowOf_10 : decode cX12_readRowOf 10 = .ok (.istore_n 2, 1) := by decide +kernel
theorem dX12_readRowOf_11 : decode cX12_readRowOf 11 = .ok (.iload_n 1, 1) := by decide +kernel
theorem dX12_readRowOf_12 : decode cX12_readRowOf 12 = .ok (.iconst 1, 1) := by decide +kernel
theorem dX12_readRowOf_13 : decode cX12_readRowOf 13 = .ok (.if_icmp .ne 14, 3) := by decide +kernel
theorem dX12_readRowOf_16 : decode cX12_readRowOf 16 = .ok (.aload_n 0, 1) := by decide +kernel
theorem dX12_readRowOf_17 : decode cX12_readRowOf 17 = .ok (.iconst 2, 1) := by decide +kernel
theorem dX12_readRowOf_18 : decode cX12_readRowOf 18 = .ok (.invokevirtual 371, 3) := by decide +kernel
theorem dX12_readRowOf_21 : decode cX12_readRowOf 21 = .ok (.ifCond .eq 13, 3) := by decide +kernel
theorem dX12_readRowOf_24 : decode cX12_readRowOf 24 = .ok (.goto 12, 3) := by decide +kernel
theorem dX12_readRowOf_27 : decode cX12_readRowOf 27 = .ok (.aload_n 0, 1) := by decide +kernel
theorem dX12_readRowOf_28 : decode cX12_readRowOf 28 = .ok (.invokevirtual 374, 3) := by decide +kernel
theorem dX12_readRowOf_31 : decode cX12_readRowOf 31 = .ok (.ifCond .ne 5, 3) := by decide +kernel
theorem dX12_readRowOf_34 : decode cX12_readRowOf 34 = .ok (.iconst 0, 1) := by decide +kernel
theorem dX12_readRowOf_35 : decode cX12_readRowOf 35 = .ok (.ireturn, 1) := by decide +kernel
theorem dX12_readRowOf_36 : decode cX12_readRowOf 36 = .ok (.aload_n 0, 1) := by decide +kernel
theorem dX12_readRowOf_37 : decode cX12_readRowOf 37 = .ok (.getfield 264, 3) := by decide +kernel
theorem dX12_readRowOf_40 : decode cX12_readRowOf 40 = .ok (.iload_n 2, 1) := by decide +kernel
theorem dX12_readRowOf_41 : decode cX12_readRowOf 41 = .ok (.if_icmp .eq 5, 3) := by decide +kernel
theorem dX12_readRowOf_44 : decode cX12_readRowOf 44 = .ok (.iconst 1, 1) := by decide +kernel
theorem dX12_readRowOf_45 : decode cX12_readRowOf 45 = .ok (.ireturn, 1) := by decide +kernel
theorem dX12_readRowOf_46 : decode cX12_readRowOf 46 = .ok (.aload_n 0, 1) := by decide +kernel
theorem dX12_readRowOf_47 : decode cX12_readRowOf 47 = .ok (.iload_n 1, 1) := by decide +kernel
theorem dX12_readRowOf_48 : decode cX12_readRowOf 48 = .ok (.invokevirtual 365, 3) := by decide +kernel
theorem dX12_readRowOf_51 : decode cX12_readRowOf 51 = .ok (.istore_n 3, 1) := by decide +kernel
theorem dX12_readRowOf_52 : decode cX12_readRowOf 52 = .ok (.aload_n 0, 1) := by decide +kernel
theorem dX12_readRowOf_53 : decode cX12_readRowOf 53 = .ok (.getfield 55, 3) := by decide +kernel
theorem dX12_readRowOf_56 : decode cX12_readRowOf 56 = .ok (.iload_n 3, 1) := by decide +kernel
theorem dX12_readRowOf_57 : decode cX12_readRowOf 57 = .ok (.aload_n 0, 1) := by decide +kernel
theorem dX12_readRowOf_58 : decode cX12_readRowOf 58 = .ok (.getfield 368, 3) := by decide +kernel
theorem dX12_readRowOf_61 : decode cX12_readRowOf 61 = .ok (.iastore, 1) := by decide +kernel
theorem dX12_readRowOf_62 : decode cX12_readRowOf 62 = .ok (.aload_n 0, 1) := by decide +kernel
theorem dX12_readRowOf_63 : decode cX12_readRowOf 63 = .ok (.getfield 368, 3) := by decide +kernel
theorem dX12_readRowOf_66 : decode cX12_readRowOf 66 = .ok (.istore 4, 2) := by decide +kernel
theorem dX12_readRowOf_68 : decode cX12_readRowOf 68 = .ok (.aload_n 0, 1) := by decide +kernel
theorem dX12_readRowOf_69 : decode cX12_readRowOf 69 = .ok (.getfield 264, 3) := by decide +kernel
theorem dX12_readRowOf_72 : decode cX12_readRowOf 72 = .ok (.iload_n 2, 1) := by decide +kernel
theorem dX12_readRowOf_73 : decode cX12_readRowOf 73 = .ok (.if_icmp .ne 52, 3) := by decide +kernel
theorem dX12_readRowOf_76 : decode cX12_readRowOf 76 = .ok (.aload_n 0, 1) := by decide +kernel
theorem dX12_readRowOf_77 : decode cX12_readRowOf 77 = .ok (.invokevirtual 239, 3) := by decide +kernel
theorem dX12_readRowOf_80 : decode cX12_readRowOf 80 = .ok (.iload_n 1, 1) := by decide +kernel
theorem dX12_readRowOf_81 : decode cX12_readRowOf 81 = .ok (.iconst 1, 1) := by decide +kernel
theorem dX12_readRowOf_82 : decode cX12_readRowOf 82 = .ok (.if_icmp .ne 14, 3) := by decide +kernel
theorem dX12_readRowOf_85 : decode cX12_readRowOf 85 = .ok (.aload_n 0, 1) := by decide +kernel
theorem dX12_readRowOf_86 : decode cX12_readRowOf 86 = .ok (.iconst 2, 1) := by decide +kernel
theorem dX12_readRowOf_87 : decode cX12_readRowOf 87 = .ok (.invokevirtual 371, 3) := by decide +kernel
theorem dX12_readRowOf_90 : decode cX12_readRowOf 90 = .ok (.ifCond .eq 13, 3) := by decide +kernel
theorem dX12_readRowOf_93 : decode cX12_readRowOf 93 = .ok (.goto 12, 3) := by decide +kernel
theorem dX12_readRowOf_96 : decode cX12_readRowOf 96 = .ok (.aload_n 0, 1) := by decide +kernel
theorem dX12_readRowOf_97 : decode cX12_readRowOf 97 = .ok (.invokevirtual 374, 3) := by decide +kernel
theorem dX12_readRowOf_100 : decode cX12_readRowOf 100 = .ok (.ifCond .ne 5, 3) := by decide +kernel
theorem dX12_readRowOf_103 : decode cX12_readRowOf 103 = .ok (.iconst 0, 1) := by decide +kernel
theorem dX12_readRowOf_104 : decode cX12_readRowOf 104 = .ok (.ireturn, 1) := by decide +kernel
theorem dX12_readRowOf_105 : decode cX12_readRowOf 105 = .ok (.aload_n 0, 1) := by decide +kernel
theorem dX12_readRowOf_106 : decode cX12_readRowOf 106 = .ok (.getfield 58, 3) := by decide +kernel
theorem dX12_readRowOf_109 : decode cX12_readRowOf 109 = .ok (.iload 4, 2) := by decide +kernel
theorem dX12_readRowOf_111 : decode cX12_readRowOf 111 = .ok (.aload_n 0, 1) := by decide +kernel
theorem dX12_readRowOf_112 : decode cX12_readRowOf 112 = .ok (.getfield 368, 3) := by decide +kernel
theorem dX12_readRowOf_115 : decode cX12_readRowOf 115 = .ok (.iastore, 1) := by decide +kernel
theorem dX12_readRowOf_116 : decode cX12_readRowOf 116 = .ok (.aload_n 0, 1) := by decide +kernel
theorem dX12_readRowOf_117 : decode cX12_readRowOf 117 = .ok (.getfield 368, 3) := by decide +kernel
theorem dX12_readRowOf_120 : decode cX12_readRowOf 120 = .ok (.istore 4, 2) := by decide +kernel
theorem dX12_readRowOf_122 : decode cX12_readRowOf 122 = .ok (.goto (-54), 3) := by decide +kernel
theorem dX12_readRowOf_125 : decode cX12_readRowOf 125 = .ok (.aload_n 0, 1) := by decide +kernel
theorem dX12_readRowOf_126 : decode cX12_readRowOf 126 = .ok (.iload_n 3, 1) := by decide +kernel
theorem dX12_readRowOf_127 : decode cX12_readRowOf 127 = .ok (.putfield 368, 3) := by decide +kernel
theorem dX12_readRowOf_130 : decode cX12_readRowOf 130 = .ok (.iconst 1, 1) := by decide +kernel
theorem dX12_readRowOf_131 : decode cX12_readRowOf 131 = .ok (.ireturn, 1) := by decide +kernel
abbrev rd_X12_readRowOf : Nat → Room := rmd 7 191 3 67
theorem rd_X12_readRowOf_ok (d : Nat) : (rd_X12_readRowOf d).cells = 0 ∧ (rd_X12_readRowOf d).slots = 0 ∧ 7 ≤ (rd_X12_readRowOf d).frames ∧ 191 ≤ (rd_X12_readRowOf d).locals := rmd_ok _ _ _ _ d
def f_X12_readRowOf_105 (N : Nat) (hd : Int32 → St → Option (Int32 × St)) (k68 : Int32 → Int32 → Int32 → Int32 → St → Option (Int32 × St)) (x1 : Int32) (x2 : Int32) (x3 : Int32) (x4 : Int32) (σ : St) : Option (Int32 × St) := grd (ib x4 400) (k68 x1 x2 x3 (σ.1 1034 0) (si σ 15 x4.toNatClampNeg (σ.1 1034 0)))
def f_X12_readRowOf_68 (N : Nat) (hd : Int32 → St → Option (Int32 × St)) : Nat → Int32 → Int32 → Int32 → Int32 → St → Option (Int32 × St)
  | 0, _, _, _, _, _ => none
  | n + 1, x1, x2, x3, x4, σ => (if (σ.1 1003 0) = x2 then bo (f_X12_scan N σ) (fun σ11 => (if x1 = 1 then bd (hd 2 σ11) (fun r15_ σ15 => (if r15_ = 0 then some (0, σ15) else f_X12_readRowOf_105 N hd (f_X12_readRowOf_68 N hd n) x1 x2 x3 x4 σ15)) else bd (f_X12_readItem N hd σ11) (fun r13_ σ13 => (if r13_ = 0 then some (0, σ13) else f_X12_readRowOf_105 N hd (f_X12_readRowOf_68 N hd n) x1 x2 x3 x4 σ13)))) else some (1, (si σ 1034 0 x3)))
def f_X12_readRowOf_36 (N : Nat) (hd : Int32 → St → Option (Int32 × St)) (x1 : Int32) (x2 : Int32) (σ : St) : Option (Int32 × St) := (if (σ.1 1003 0) = x2 then bd (f_X12_makePart x1 σ) (fun r8_ σ8 => grd (ib r8_ 400) (f_X12_readRowOf_68 N hd N x1 x2 r8_ (σ8.1 1034 0) (si σ8 14 r8_.toNatClampNeg (σ8.1 1034 0)))) else some (1, σ))
def f_X12_readRowOf_10 (N : Nat) (hd : Int32 → St → Option (Int32 × St)) (x1 : Int32) (t0 : Int32) (σ : St) : Option (Int32 × St) := (if x1 = 1 then bd (hd 2 σ) (fun r5_ σ5 => (if r5_ = 0 then some (0, σ5) else f_X12_readRowOf_36 N hd x1 t0 σ5)) else bd (f_X12_readItem N hd σ) (fun r3_ σ3 => (if r3_ = 0 then some (0, σ3) else f_X12_readRowOf_36 N hd x1 t0 σ3)))
def f_X12_readRowOf_b (N : Nat) (hd : Int32 → St → Option (Int32 × St)) (x1 : Int32) (σ : St) : Option (Int32 × St) := (if x1 = 1 then f_X12_readRowOf_10 N hd x1 5 σ else f_X12_readRowOf_10 N hd x1 4 σ)
def f_X12_readRowOf (N : Nat) : Nat → Int32 → St → Option (Int32 × St)
  | 0, _, _ => none
  | d + 1, x1, σ => f_X12_readRowOf_b N (f_X12_readRowOf N d) x1 σ
section
variable {p : Program} {l : Launch} {e : Env} {s : State} {m : MethodId} {args : Array Value} {below : List Frame} {meth : Method} {c : Code} {g : XG}
set_option maxRecDepth 4000 in
theorem w_X12_readRowOf_105 (N : Nat) (hd : Int32 → St → Option (Int32 × St)) (rmH : Room) (hrm : rmH.cells = 0 ∧ rmH.slots = 0 ∧ 7 ≤ rmH.frames ∧ 191 ≤ rmH.locals) (hH : ∀ (a0 : Int32) (σ : St) {r : Int32} {σ' : St}, hd a0 σ = some (r, σ') → xM l KM g yX12_readRowOf cX12_readRowOf 5 (some .boolean) rmH [.ref (g.q 0), .int a0] σ (some (.int r)) σ') (k68 : Int32 → Int32 → Int32 → Int32 → St → Option (Int32 × St)) {r : Int32} {σ' : St} (C : xC KM g RX12 cX12_readRowOf 5 (some .boolean) p s m args meth c) (hk68 : ∀ (x1 : Int32) (x2 : Int32) (x3 : Int32) (x4 : Int32) (σ : St) (H : Heap) (locs : List Loc) (ls : Array Slot), xW KM g s σ H locs → lv_has ls 5 [(0, .ref (g.q 0)), (1, .int x1), (2, .int x2), (3, .int x3), (4, .int x4)] → k68 x1 x2 x3 x4 σ = some (r, σ') → W p l e (xrm rmH 3 67) s m args below meth c H locs 0 0 (MQ below (xPost KM g (some (.int r)) σ') args s 0 0 (xA KM g.q)) (F0 m 68 ls [])) : ∀ (x1 : Int32) (x2 : Int32) (x3 : Int32) (x4 : Int32) (σ : St) (H : Heap) (locs : List Loc) (ls : Array Slot), xW KM g s σ H locs → lv_has ls 5 [(0, .ref (g.q 0)), (1, .int x1), (2, .int x2), (3, .int x3), (4, .int x4)] → f_X12_readRowOf_105 N hd k68 x1 x2 x3 x4 σ = some (r, σ') → W p l e (xrm rmH 3 67) s m args below meth c H locs 0 0 (MQ below (xPost KM g (some (.int r)) σ') args s 0 0 (xA KM g.q)) (F0 m 105 ls []) := by
  have hx := C.1
  have hb := C.2.1
  intro x1 x2 x3 x4 σ H locs ls hW hl h
  unfold f_X12_readRowOf_105 at h
  refine lv_aload_n hx hb dX12_readRowOf_105 rfl (lv_at hl 0 rfl) ?_
  refine xg_r C hW fg_12_58 KM_0 rfl dX12_readRowOf_106 ?_
  refine lv_iload hx hb dX12_readRowOf_109 (lv_at hl 4 rfl) ?_
  refine lv_aload_n hx hb dX12_readRowOf_111 rfl (lv_at hl 0 rfl) ?_
  refine xg_i C hW fg_12_368 KM_0 rfl (v := 1034) rfl (x := σ.1 1034 0) rfl dX12_readRowOf_112 ?_
  obtain ⟨g17, h⟩ := xgd h
  refine xs_i C hW KM_15 g17 dX12_readRowOf_115 (fun H locs hW => ?_)
  refine lv_aload_n hx hb dX12_readRowOf_116 rfl (lv_at hl 0 rfl) ?_
  refine xg_i C hW fg_12_368 KM_0 rfl (v := 1034) rfl (x := σ.1 1034 0) rfl dX12_readRowOf_117 ?_
  refine lv_istore (lv' := [(4, .int (σ.1 1034 0)), (0, .ref (g.q 0)), (1, .int x1), (2, .int x2), (3, .int x3)]) hx hb dX12_readRowOf_120 hl (Nat.le_of_ble_eq_true rfl) rfl (fun ls hl => ?_)
  refine lv_goto (tgt := 68) hx hb dX12_readRowOf_122 (by decide) ?_
  exact hk68 x1 x2 x3 (σ.1 1034 0) _ _ _ _ hW (lv_sub hl [1, 2, 3, 4, 0] rfl) h
set_option maxRecDepth 4000 in
theorem w_X12_readRowOf_68 (N : Nat) (hd : Int32 → St → Option (Int32 × St)) (rmH : Room) (hrm : rmH.cells = 0 ∧ rmH.slots = 0 ∧ 7 ≤ rmH.frames ∧ 191 ≤ rmH.locals) (hH : ∀ (a0 : Int32) (σ : St) {r : Int32} {σ' : St}, hd a0 σ = some (r, σ') → xM l KM g yX12_readRowOf cX12_readRowOf 5 (some .boolean) rmH [.ref (g.q 0), .int a0] σ (some (.int r)) σ') {r : Int32} {σ' : St} (C : xC KM g RX12 cX12_readRowOf 5 (some .boolean) p s m args meth c) : ∀ (n : Nat), ∀ (x1 : Int32) (x2 : Int32) (x3 : Int32) (x4 : Int32) (σ : St) (H : Heap) (locs : List Loc) (ls : Array Slot), xW KM g s σ H locs → lv_has ls 5 [(0, .ref (g.q 0)), (1, .int x1), (2, .int x2), (3, .int x3), (4, .int x4)] → f_X12_readRowOf_68 N hd n x1 x2 x3 x4 σ = some (r, σ') → W p l e (xrm rmH 3 67) s m args below meth c H locs 0 0 (MQ below (xPost KM g (some (.int r)) σ') args s 0 0 (xA KM g.q)) (F0 m 68 ls []) := by
  have hx := C.1
  have hb := C.2.1
  intro n
  induction n with
  | zero => intro x1 x2 x3 x4 σ H locs ls hW hl h; rw [f_X12_readRowOf_68] at h; cases h
  | succ n ih =>
    intro x1 x2 x3 x4 σ H locs ls hW hl h
    rw [f_X12_readRowOf_68] at h
    refine lv_aload_n hx hb dX12_readRowOf_68 rfl (lv_at hl 0 rfl) ?_
    refine xg_i C hW fg_12_264 KM_0 rfl (v := 1003) rfl (x := σ.1 1003 0) rfl dX12_readRowOf_69 ?_
    refine lv_iload_n hx hb dX12_readRowOf_72 rfl (lv_at hl 2 rfl) ?_
    refine lv_icmp_ne (tgt := 125) hx hb dX12_readRowOf_73 (by decide) (fun c10 => ?_) (fun c10 => ?_)
    · have h := xif c10 h
      refine lv_aload_n hx hb dX12_readRowOf_125 rfl (lv_at hl 0 rfl) ?_
      refine lv_iload_n hx hb dX12_readRowOf_126 rfl (lv_at hl 3 rfl) ?_
      refine xp_i C hW fp_12_368 KM_0 rfl (v := 1034) rfl rfl rfl dX12_readRowOf_127 (fun H locs hW => ?_)
      refine lv_iconst (v := 1) hx hb dX12_readRowOf_130 rfl ?_
      cases h
      exact xr_z C hW (by decide) dX12_readRowOf_131
    · have h := xit c10 h
      refine lv_aload_n hx hb dX12_readRowOf_76 rfl (lv_at hl 0 rfl) ?_
      obtain ⟨σ11, e11, h⟩ := xbo h
      refine xc_V (As := []) (rest := []) C hW (m_X12_scan N _ e11) mf_X12_scan mv_X12_scan ml_X12_239 ⟨rfl, rfl⟩ ⟨xle1 hrm.2.2.1 (Nat.le_of_ble_eq_true rfl), xle1 hrm.2.2.2 (Nat.le_of_ble_eq_true rfl)⟩ KM_0 rfl hl.1 rfl rfl (Nat.le_of_ble_eq_true rfl) dX12_readRowOf_77 (fun H locs hW => W.eq (g2 := F0 m 80 ls []) rfl ?_)
      refine lv_iload_n hx hb dX12_readRowOf_80 rfl (lv_at hl 1 rfl) ?_
      refine lv_iconst (v := 1) hx hb dX12_readRowOf_81 rfl ?_
      refine lv_icmp_ne (tgt := 96) hx hb dX12_readRowOf_82 (by decide) (fun c12 => ?_) (fun c12 => ?_)
      · have h := xif c12 h
        refine lv_aload_n hx hb dX12_readRowOf_96 rfl (lv_at hl 0 rfl) ?_
        obtain ⟨r13_, σ13, e13, h⟩ := xbd h
        refine xc_V (As := []) (rest := []) C hW (m_X12_readItem N hd rmH hrm hH _ e13) mf_X12_readItem mv_X12_readItem ml_X12_374 ⟨rfl, rfl⟩ ⟨by simp only [xrm]; omega, by simp only [xrm]; omega⟩ KM_0 rfl hl.1 rfl rfl (Nat.le_of_ble_eq_true rfl) dX12_readRowOf_97 (fun H locs hW => W.eq (g2 := F0 m 100 ls [.int r13_]) rfl ?_)
        refine lv_if_ne (tgt := 105) hx hb dX12_readRowOf_100 (by decide) (fun c14 => ?_) (fun c14 => ?_)
        · have h := xif c14 h
          exact w_X12_readRowOf_105 N hd rmH hrm hH (f_X12_readRowOf_68 N hd n) C ih x1 x2 x3 x4 _ _ _ _ hW (lv_sub hl [0, 1, 2, 3, 4] rfl) h
        · have h := xit c14 h
          refine lv_iconst (v := 0) hx hb dX12_readRowOf_103 rfl ?_
          cases h
          exact xr_z C hW (by decide) dX12_readRowOf_104
      · have h := xit c12 h
        refine lv_aload_n hx hb dX12_readRowOf_85 rfl (lv_at hl 0 rfl) ?_
        refine lv_iconst (v := 2) hx hb dX12_readRowOf_86 rfl ?_
        obtain ⟨r15_, σ15, e15, h⟩ := xbd h
        refine xc_V (As := [.int 2]) (rest := []) C hW (hH 2 _ e15) mf_X12_readRowOf mv_X12_readRowOf ml_X12_371 ⟨hrm.1, hrm.2.1⟩ ⟨by simp only [xrm]; omega, by simp only [xrm]; omega⟩ KM_0 rfl hl.1 rfl rfl (Nat.le_of_ble_eq_true rfl) dX12_readRowOf_87 (fun H locs hW => W.eq (g2 := F0 m 90 ls [.int r15_]) rfl ?_)
        refine lv_if_eq (tgt := 103) hx hb dX12_readRowOf_90 (by decide) (fun c16 => ?_) (fun c16 => ?_)
        · have h := xit c16 h
          refine lv_iconst (v := 0) hx hb dX12_readRowOf_103 rfl ?_
          cases h
          exact xr_z C hW (by decide) dX12_readRowOf_104
        · have h := xif c16 h
          refine lv_goto (tgt := 105) hx hb dX12_readRowOf_93 (by decide) ?_
          exact w_X12_readRowOf_105 N hd rmH hrm hH (f_X12_readRowOf_68 N hd n) C ih x1 x2 x3 x4 _ _ _ _ hW (lv_sub hl [0, 1, 2, 3, 4] rfl) h
set_option maxRecDepth 4000 in
theorem w_X12_readRowOf_36 (N : Nat) (hd : Int32 → St → Option (Int32 × St)) (rmH : Room) (hrm : rmH.cells = 0 ∧ rmH.slots = 0 ∧ 7 ≤ rmH.frames ∧ 191 ≤ rmH.locals) (hH : ∀ (a0 : Int32) (σ : St) {r : Int32} {σ' : St}, hd a0 σ = some (r, σ') → xM l KM g yX12_readRowOf cX12_readRowOf 5 (some .boolean) rmH [.ref (g.q 0), .int a0] σ (some (.int r)) σ') {r : Int32} {σ' : St} (C : xC KM g RX12 cX12_readRowOf 5 (some .boolean) p s m args meth c) : ∀ (x1 : Int32) (x2 : Int32) (σ : St) (H : Heap) (locs : List Loc) (ls : Array Slot), xW KM g s σ H locs → lv_has ls 5 [(0, .ref (g.q 0)), (1, .int x1), (2, .int x2)] → f_X12_readRowOf_36 N hd x1 x2 σ = some (r, σ') → W p l e (xrm rmH 3 67) s m args below meth c H locs 0 0 (MQ below (xPost KM g (some (.int r)) σ') args s 0 0 (xA KM g.q)) (F0 m 36 ls []) := by
  have hx := C.1
  have hb := C.2.1
  intro x1 x2 σ H locs ls hW hl h
  unfold f_X12_readRowOf_36 at h
  refine lv_aload_n hx hb dX12_readRowOf_36 rfl (lv_at hl 0 rfl) ?_
  refine xg_i C hW fg_12_264 KM_0 rfl (v := 1003) rfl (x := σ.1 1003 0) rfl dX12_readRowOf_37 ?_
  refine lv_iload_n hx hb dX12_readRowOf_40 rfl (lv_at hl 2 rfl) ?_
  refine lv_icmp_eq (tgt := 46) hx hb dX12_readRowOf_41 (by decide) (fun c7 => ?_) (fun c7 => ?_)
  · have h := xit c7 h
    refine lv_aload_n hx hb dX12_readRowOf_46 rfl (lv_at hl 0 rfl) ?_
    refine lv_iload_n hx hb dX12_readRowOf_47 rfl (lv_at hl 1 rfl) ?_
    obtain ⟨r8_, σ8, e8, h⟩ := xbd h
    refine xc_V (As := [.int x1]) (rest := []) C hW (m_X12_makePart x1 _ e8) mf_X12_makePart mv_X12_makePart ml_X12_365 ⟨rfl, rfl⟩ ⟨xle1 hrm.2.2.1 (Nat.le_of_ble_eq_true rfl), xle1 hrm.2.2.2 (Nat.le_of_ble_eq_true rfl)⟩ KM_0 rfl hl.1 rfl rfl (Nat.le_of_ble_eq_true rfl) dX12_readRowOf_48 (fun H locs hW => W.eq (g2 := F0 m 51 ls [.int r8_]) rfl ?_)
    refine lv_istore_n (lv' := [(3, .int r8_), (0, .ref (g.q 0)), (1, .int x1), (2, .int x2)]) hx hb dX12_readRowOf_51 rfl hl (Nat.le_of_ble_eq_true rfl) rfl (fun ls hl => ?_)
    refine lv_aload_n hx hb dX12_readRowOf_52 rfl (lv_at hl 1 rfl) ?_
    refine xg_r C hW fg_12_55 KM_0 rfl dX12_readRowOf_53 ?_
    refine lv_iload_n hx hb dX12_readRowOf_56 rfl (lv_at hl 0 rfl) ?_
    refine lv_aload_n hx hb dX12_readRowOf_57 rfl (lv_at hl 1 rfl) ?_
    refine xg_i C hW fg_12_368 KM_0 rfl (v := 1034) rfl (x := σ8.1 1034 0) rfl dX12_readRowOf_58 ?_
    obtain ⟨g9, h⟩ := xgd h
    refine xs_i C hW KM_14 g9 dX12_readRowOf_61 (fun H locs hW => ?_)
    refine lv_aload_n hx hb dX12_readRowOf_62 rfl (lv_at hl 1 rfl) ?_
    refine xg_i C hW fg_12_368 KM_0 rfl (v := 1034) rfl (x := σ8.1 1034 0) rfl dX12_readRowOf_63 ?_
    refine lv_istore (lv' := [(4, .int (σ8.1 1034 0)), (3, .int r8_), (0, .ref (g.q 0)), (1, .int x1), (2, .int x2)]) hx hb dX12_readRowOf_66 hl (Nat.le_of_ble_eq_true rfl) rfl (fun ls hl => ?_)
    exact w_X12_readRowOf_68 N hd rmH hrm hH C N x1 x2 r8_ (σ8.1 1034 0) _ _ _ _ hW (lv_sub hl [2, 3, 4, 1, 0] rfl) h
  · have h := xif c7 h
    refine lv_iconst (v := 1) hx hb dX12_readRowOf_44 rfl ?_
    cases h
    exact xr_z C hW (by decide) dX12_readRowOf_45
set_option maxRecDepth 4000 in
theorem w_X12_readRowOf_10 (N : Nat) (hd : Int32 → St → Option (Int32 × St)) (rmH : Room) (hrm : rmH.cells = 0 ∧ rmH.slots = 0 ∧ 7 ≤ rmH.frames ∧ 191 ≤ rmH.locals) (hH : ∀ (a0 : Int32) (σ : St) {r : Int32} {σ' : St}, hd a0 σ = some (r, σ') → xM l KM g yX12_readRowOf cX12_readRowOf 5 (some .boolean) rmH [.ref (g.q 0), .int a0] σ (some (.int r)) σ') {r : Int32} {σ' : St} (C : xC KM g RX12 cX12_readRowOf 5 (some .boolean) p s m args meth c) : ∀ (x1 : Int32) (t0 : Int32) (σ : St) (H : Heap) (locs : List Loc) (ls : Array Slot), xW KM g s σ H locs → lv_has ls 5 [(0, .ref (g.q 0)), (1, .int x1)] → f_X12_readRowOf_10 N hd x1 t0 σ = some (r, σ') → W p l e (xrm rmH 3 67) s m args below meth c H locs 0 0 (MQ below (xPost KM g (some (.int r)) σ') args s 0 0 (xA KM g.q)) (F0 m 10 ls [.int t0]) := by
  have hx := C.1
  have hb := C.2.1
  intro x1 t0 σ H locs ls hW hl h
  unfold f_X12_readRowOf_10 at h
  refine lv_istore_n (lv' := [(2, .int t0), (0, .ref (g.q 0)), (1, .int x1)]) hx hb dX12_readRowOf_10 rfl hl (Nat.le_of_ble_eq_true rfl) rfl (fun ls hl => ?_)
  refine lv_iload_n hx hb dX12_readRowOf_11 rfl (lv_at hl 2 rfl) ?_
  refine lv_iconst (v := 1) hx hb dX12_readRowOf_12 rfl ?_
  refine lv_icmp_ne (tgt := 27) hx hb dX12_readRowOf_13 (by decide) (fun c2 => ?_) (fun c2 => ?_)
  · have h := xif c2 h
    refine lv_aload_n hx hb dX12_readRowOf_27 rfl (lv_at hl 1 rfl) ?_
    obtain ⟨r3_, σ3, e3, h⟩ := xbd h
    refine xc_V (As := []) (rest := []) C hW (m_X12_readItem N hd rmH hrm hH _ e3) mf_X12_readItem mv_X12_readItem ml_X12_374 ⟨rfl, rfl⟩ ⟨by simp only [xrm]; omega, by simp only [xrm]; omega⟩ KM_0 rfl hl.1 rfl rfl (Nat.le_of_ble_eq_true rfl) dX12_readRowOf_28 (fun H locs hW => W.eq (g2 := F0 m 31 ls [.int r3_]) rfl ?_)
    refine lv_if_ne (tgt := 36) hx hb dX12_readRowOf_31 (by decide) (fun c4 => ?_) (fun c4 => ?_)
    · have h := xif c4 h
      exact w_X12_readRowOf_36 N hd rmH hrm hH C x1 t0 _ _ _ _ hW (lv_sub hl [1, 2, 0] rfl) h
    · have h := xit c4 h
      refine lv_iconst (v := 0) hx hb dX12_readRowOf_34 rfl ?_
      cases h
      exact xr_z C hW (by decide) dX12_readRowOf_35
  · have h := xit c2 h
    refine lv_aload_n hx hb dX12_readRowOf_16 rfl (lv_at hl 1 rfl) ?_
    refine lv_iconst (v := 2) hx hb dX12_readRowOf_17 rfl ?_
    obtain ⟨r5_, σ5, e5, h⟩ := xbd h
    refine xc_V (As := [.int 2]) (rest := []) C hW (hH 2 _ e5) mf_X12_readRowOf mv_X12_readRowOf ml_X12_371 ⟨hrm.1, hrm.2.1⟩ ⟨by simp only [xrm]; omega, by simp only [xrm]; omega⟩ KM_0 rfl hl.1 rfl rfl (Nat.le_of_ble_eq_true rfl) dX12_readRowOf_18 (fun H locs hW => W.eq (g2 := F0 m 21 ls [.int r5_]) rfl ?_)
    refine lv_if_eq (tgt := 34) hx hb dX12_readRowOf_21 (by decide) (fun c6 => ?_) (fun c6 => ?_)
    · have h := xit c6 h
      refine lv_iconst (v := 0) hx hb dX12_readRowOf_34 rfl ?_
      cases h
      exact xr_z C hW (by decide) dX12_readRowOf_35
    · have h := xif c6 h
      refine lv_goto (tgt := 36) hx hb dX12_readRowOf_24 (by decide) ?_
      exact w_X12_readRowOf_36 N hd rmH hrm hH C x1 t0 _ _ _ _ hW (lv_sub hl [1, 2, 0] rfl) h
set_option maxRecDepth 4000 in
theorem m_X12_readRowOf_b (N : Nat) (hd : Int32 → St → Option (Int32 × St)) (rmH : Room) (hrm : rmH.cells = 0 ∧ rmH.slots = 0 ∧ 7 ≤ rmH.frames ∧ 191 ≤ rmH.locals) (hH : ∀ (a0 : Int32) (σ : St) {r : Int32} {σ' : St}, hd a0 σ = some (r, σ') → xM l KM g yX12_readRowOf cX12_readRowOf 5 (some .boolean) rmH [.ref (g.q 0), .int a0] σ (some (.int r)) σ') (x1 : Int32) (σ : St) {r : Int32} {σ' : St} (h : f_X12_readRowOf_b N hd x1 σ = some (r, σ')) : xM l KM g yX12_readRowOf cX12_readRowOf 5 (some .boolean) (xrm rmH 3 67) [.ref (g.q 0), .int x1] σ (some (.int r)) σ' := by
  refine xmet pn_X12 rfl (Nat.le_of_ble_eq_true rfl) (lv := [(0, .ref (g.q 0)), (1, .int x1)]) rfl (fun p e s m args below meth c ls C hW hl => ?_)
  have hx := C.1
  have hb := C.2.1
  unfold f_X12_readRowOf_b at h
  refine lv_iload_n hx hb dX12_readRowOf_0 rfl (lv_at hl 1 rfl) ?_
  refine lv_iconst (v := 1) hx hb dX12_readRowOf_1 rfl ?_
  refine lv_icmp_ne (tgt := 9) hx hb dX12_readRowOf_2 (by decide) (fun c1 => ?_) (fun c1 => ?_)
  · have h := xif c1 h
    refine lv_iconst (v := 4) hx hb dX12_readRowOf_9 rfl ?_
    exact w_X12_readRowOf_10 N hd rmH hrm hH C x1 4 _ _ _ _ hW (lv_sub hl [0, 1] rfl) h
  · have h := xit c1 h
    refine lv_iconst (v := 5) hx hb dX12_readRowOf_5 rfl ?_
    refine lv_goto (tgt := 10) hx hb dX12_readRowOf_6 (by decide) ?_
    exact w_X12_readRowOf_10 N hd rmH hrm hH C x1 5 _ _ _ _ hW (lv_sub hl [0, 1] rfl) h
theorem m_X12_readRowOf (N : Nat) (d : Nat) (x1 : Int32) (σ : St) {r : Int32} {σ' : St} (h : f_X12_readRowOf N d x1 σ = some (r, σ')) : xM l KM g yX12_readRowOf cX12_readRowOf 5 (some .boolean) (rd_X12_readRowOf d) [.ref (g.q 0), .int x1] σ (some (.int r)) σ' := by
  induction d generalizing x1 σ r σ' with
  | zero => rw [f_X12_readRowOf] at h; cases h
  | succ d ih =>
    rw [f_X12_readRowOf] at h
    exact m_X12_readRowOf_b N (f_X12_readRowOf N d) (rd_X12_readRowOf d) (rd_X12_readRowOf_ok d) (fun x1 σ _ _ => ih x1 σ) x1 σ h
end
theorem dX12_measure_0 : decode cX12_measure 0 = .ok (.aload_n 0, 1) := by decide +kernel
theorem dX12_measure_1 : decode cX12_measure 1 = .ok (.getfield 46, 3) := by decide +kernel
theorem dX12_measure_4 : decode cX12_measure 4 = .ok (.iload_n 1, 1) := by decide +kernel
theorem dX12_measure_5 : decode cX12_measure 5 = .ok (.iaload, 1) := by decide +kernel
theorem dX12_measure_6 : decode cX12_measure 6 = .ok (.ifCond .ne 38, 3) := by decide +kernel
theorem dX12_measure_9 : decode cX12_measure 9 = .ok (.aload_n 0, 1) := by decide +kernel
theorem dX12_measure_10 : decode cX12_measure 10 = .ok (.getfield 61, 3) := by decide +kernel
theorem dX12_measure_13 : decode cX12_measure 13 = .ok (.iload_n 1, 1) := by decide +kernel
theorem dX12_measure_14 : decode cX12_measure 14 = .ok (.aload_n 0, 1) := by decide +kernel
theorem dX12_measure_15 : decode cX12_measure 15 = .ok (.getfield 28, 3) := by decide +kernel
theorem dX12_measure_18 : decode cX12_measure 18 = .ok (.aload_n 0, 1) := by decide +kernel
theorem dX12_measure_19 : decode cX12_measure 19 = .ok (.getfield 49, 3) := by decide +kernel
theorem dX12_measure_22 : decode cX12_measure 22 = .ok (.iload_n 1, 1) := by decide +kernel
theorem dX12_measure_23 : decode cX12_measure 23 = .ok (.iaload, 1) := by decide +kernel
theorem dX12_measure_24 : decode cX12_measure 24 = .ok (.iaload, 1) := by decide +kernel
theorem dX12_measure_25 : decode cX12_measure 25 = .ok (.iastore, 1) := by decide +kernel
theorem dX12_measure_26 : decode cX12_measure 26 = .ok (.aload_n 0, 1) := by decide +kernel
theorem dX12_measure_27 : decode cX12_measure 27 = .ok (.getfield 64, 3) := by decide +kernel
theorem dX12_measure_30 : decode cX12_measure 30 = .ok (.iload_n 1, 1) := by decide +kernel
theorem dX12_measure_31 : decode cX12_measure 31 = .ok (.aload_n 0, 1) := by decide +kernel
theorem dX12_measure_32 : decode cX12_measure 32 = .ok (.getfield 31, 3) := by decide +kernel
theorem dX12_measure_35 : decode cX12_measure 35 = .ok (.aload_n 0, 1) := by decide +kernel
theorem dX12_measure_36 : decode cX12_measure 36 = .ok (.getfield 49, 3) := by decide +kernel
theorem dX12_measure_39 : decode cX12_measure 39 = .ok (.iload_n 1, 1) := by decide +kernel
theorem dX12_measure_40 : decode cX12_measure 40 = .ok (.iaload, 1) := by decide +kernel
theorem dX12_measure_41 : decode cX12_measure 41 = .ok (.iaload, 1) := by decide +kernel
theorem dX12_measure_42 : decode cX12_measure 42 = .ok (.iastore, 1) := by decide +kernel
theorem dX12_measure_43 : decode cX12_measure 43 = .ok (.return_, 1) := by decide +kernel
theorem dX12_measure_44 : decode cX12_measure 44 = .ok (.iconst 0, 1) := by decide +kernel
theorem dX12_measure_45 : decode cX12_measure 45 = .ok (.istore_n 2, 1) := by decide +kernel
theorem dX12_measure_46 : decode cX12_measure 46 = .ok (.iconst 0, 1) := by decide +kernel
theorem dX12_measure_47 : decode cX12_measure 47 = .ok (.istore_n 3, 1) := by decide +kernel
theorem dX12_measure_48 : decode cX12_measure 48 = .ok (.iconst 0, 1) := by decide +kernel
theorem dX12_measure_49 : decode cX12_measure 49 = .ok (.istore 4, 2) := by decide +kernel
theorem dX12_measure_51 : decode cX12_measure 51 = .ok (.aload_n 0, 1) := by decide +kernel
theorem dX12_measure_52 : decode cX12_measure 52 = .ok (.getfield 55, 3) := by decide +kernel
theorem dX12_measure_55 : decode cX12_measure 55 = .ok (.iload_n 1, 1) := by decide +kernel
theorem dX12_measure_56 : decode cX12_measure 56 = .ok (.iaload, 1) := by decide +kernel
theorem dX12_measure_57 : decode cX12_measure 57 = .ok (.istore 5, 2) := by decide +kernel
theorem dX12_measure_59 : decode cX12_measure 59 = .ok (.iload 5, 2) := by decide +kernel
theorem dX12_measure_61 : decode cX12_measure 61 = .ok (.iconst (-1), 1) := by decide +kernel
theorem dX12_measure_62 : decode cX12_measure 62 = .ok (.if_icmp .eq 92, 3) := by decide +kernel
theorem dX12_measure_65 : decode cX12_measure 65 = .ok (.aload_n 0, 1) := by decide +kernel
theorem dX12_measure_66 : decode cX12_measure 66 = .ok (.iload 5, 2) := by decide +kernel
theorem dX12_measure_68 : decode cX12_measure 68 = .ok (.invokevirtual 377, 3) := by decide +kernel
theorem dX12_measure_71 : decode cX12_measure 71 = .ok (.aload_n 0, 1) := by decide +kernel
theorem dX12_measure_72 : decode cX12_measure 72 = .ok (.getfield 46, 3) := by decide +kernel
theorem dX12_measure_75 : decode cX12_measure 75 = .ok (.iload_n 1, 1) := by decide +kernel
theorem dX12_measure_76 : decode cX12_measure 76 = .ok (.iaload, 1) := by decide +kernel
theorem dX12_measure_77 : decode cX12_measure 77 = .ok (.iconst 1, 1) := by decide +kernel
theorem dX12_measure_78 : decode cX12_measure 78 = .ok (.if_icmp .ne 15, 3) := by decide +kernel
theorem dX12_measure_81 : decode cX12_measure 81 = .ok (.iload_n 2, 1) := by decide +kernel
theorem dX12_measure_82 : decode cX12_measure 82 = .ok (.aload_n 0, 1) := by decide +kernel
theorem dX12_measure_83 : decode cX12_measure 83 = .ok (.getfield 61, 3) := by decide +kernel
theorem dX12_measure_86 : decode cX12_measure 86 = .ok (.iload 5, 2) := by decide +kernel
theorem dX12_measure_88 : decode cX12_measure 88 = .ok (.iaload, 1) := by decide +kernel
theorem dX12_measure_89 : decode cX12_measure 89 = .ok (.iadd, 1) := by decide +kernel
theorem dX12_measure_90 : decode cX12_measure 90 = .ok (.goto 14, 3) := by decide +kernel
theorem dX12_measure_93 : decode cX12_measure 93 = .ok (.iload_n 2, 1) := by decide +kernel
theorem dX12_measure_94 : decode cX12_measure 94 = .ok (.aload_n 0, 1) := by decide +kernel
theorem dX12_measure_95 : decode cX12_measure 95 = .ok (.getfield 61, 3) := by decide +kernel
theorem dX12_measure_98 : decode cX12_measure 98 = .ok (.iload 5, 2) := by decide +kernel
theorem dX12_measure_100 : decode cX12_measure 100 = .ok (.iaload, 1) := by decide +kernel
theorem dX12_measure_101 : decode cX12_measure 101 = .ok (.invokestatic 381, 3) := by decide +kernel
theorem dX12_measure_104 : decode cX12_measure 104 = .ok (.istore_n 2, 1) := by decide +kernel
theorem dX12_measure_105 : decode cX12_measure 105 = .ok (.aload_n 0, 1) := by decide +kernel
theorem dX12_measure_106 : decode cX12_measure 106 = .ok (.getfield 46, 3) := by decide +kernel
theorem dX12_measure_109 : decode cX12_measure 109 = .ok (.iload_n 1, 1) := by decide +kernel
theorem dX12_measure_110 : decode cX12_measure 110 = .ok (.iaload, 1) := by decide +kernel
theorem dX12_measure_111 : decode cX12_measure 111 = .ok (.iconst 2, 1) := by decide +kernel
theorem dX12_measure_112 : decode cX12_measure 112 = .ok (.if_icmp .ne 15, 3) := by decide +kernel
theorem dX12_measure_115 : decode cX12_measure 115 = .ok (.iload_n 3, 1) := by decide +kernel
theorem dX12_measure_116 : decode cX12_measure 116 = .ok (.aload_n 0, 1) := by decide +kernel
theorem dX12_measure_117 : decode cX12_measure 117 = .ok (.getfield 64, 3) := by decide +kernel
theorem dX12_measure_120 : decode cX12_measure 120 = .ok (.iload 5, 2) := by decide +kernel
theorem dX12_measure_122 : decode cX12_measure 122 = .ok (.iaload, 1) := by decide +kernel
theorem dX12_measure_123 : decode cX12_measure 123 = .ok (.iadd, 1) := by decide +kernel
theorem dX12_measure_124 : decode cX12_measure 124 = .ok (.goto 14, 3) := by decide +kernel
theorem dX12_measure_127 : decode cX12_measure 127 = .ok (.iload_n 3, 1) := by decide +kernel
theorem dX12_measure_128 : decode cX12_measure 128 = .ok (.aload_n 0, 1) := by decide +kernel
theorem dX12_measure_129 : decode cX12_measure 129 = .ok (.getfield 64, 3) := by decide +kernel
theorem dX12_measure_132 : decode cX12_measure 132 = .ok (.iload 5, 2) := by decide +kernel
theorem dX12_measure_134 : decode cX12_measure 134 = .ok (.iaload, 1) := by decide +kernel
theorem dX12_measure_135 : decode cX12_measure 135 = .ok (.invokestatic 381, 3) := by decide +kernel
theorem dX12_measure_138 : decode cX12_measure 138 = .ok (.istore_n 3, 1) := by decide +kernel
theorem dX12_measure_139 : decode cX12_measure 139 = .ok (.iinc 4 1, 3) := by decide +kernel
theorem dX12_measure_142 : decode cX12_measure 142 = .ok (.aload_n 0, 1) := by decide +kernel
theorem dX12_measure_143 : decode cX12_measure 143 = .ok (.getfield 58, 3) := by decide +kernel
theorem dX12_measure_146 : decode cX12_measure 146 = .ok (.iload 5, 2) := by decide +kernel
theorem dX12_measure_148 : decode cX12_measure 148 = .ok (.iaload, 1) := by decide +kernel
theorem dX12_measure_149 : decode cX12_measure 149 = .ok (.istore 5, 2) := by decide +kernel
theorem dX12_measure_151 : decode cX12_measure 151 = .ok (.goto (-92), 3) := by decide +kernel
theorem dX12_measure_154 : decode cX12_measure 154 = .ok (.aload_n 0, 1) := by decide +kernel
theorem dX12_measure_155 : decode cX12_measure 155 = .ok (.getfield 61, 3) := by decide +kernel
theorem dX12_measure_158 : decode cX12_measure 158 = .ok (.iload_n 1, 1) := by decide +kernel
theorem dX12_measure_159 : decode cX12_measure 159 = .ok (.iload_n 2, 1) := by decide +kernel
theorem dX12_measure_160 : decode cX12_measure 160 = .ok (.aload_n 0, 1) := by decide +kernel
theorem dX12_measure_161 : decode cX12_measure 161 = .ok (.getfield 46, 3) := by decide +kernel
theorem dX12_measure_164 : decode cX12_measure 164 = .ok (.iload_n 1, 1) := by decide +kernel
theorem dX12_measure_165 : decode cX12_measure 165 = .ok (.iaload, 1) := by decide +kernel
theorem dX12_measure_166 : decode cX12_measure 166 = .ok (.iconst 1, 1) := by decide +kernel
theorem dX12_measure_167 : decode cX12_measure 167 = .ok (.if_icmp .ne 17, 3) := by decide +kernel
theorem dX12_measure_170 : decode cX12_measure 170 = .ok (.aload_n 0, 1) := by decide +kernel
theorem dX12_measure_171 : decode cX12_measure 171 = .ok (.getfield 17, 3) := by decide +kernel
theorem dX12_measure_174 : decode cX12_measure 174 = .ok (.iconst 0, 1) := by decide +kernel
theorem dX12_measure_175 : decode cX12_measure 175 = .ok (.iaload, 1) := by decide +kernel
theorem dX12_measure_176 : decode cX12_measure 176 = .ok (.iload 4, 2) := by decide +kernel
theorem dX12_measure_178 : decode cX12_measure 178 = .ok (.iconst 1, 1) := by decide +kernel
theorem dX12_measure_179 : decode cX12_measure 179 = .ok (.isub, 1) := by decide +kernel
theorem dX12_measure_180 : decode cX12_measure 180 = .ok (.imul, 1) := by decide +kernel
theorem dX12_measure_181 : decode cX12_measure 181 = .ok (.goto 4, 3) := by decide +kernel
theorem dX12_measure_184 : decode cX12_measure 184 = .ok (.iconst 0, 1) := by decide +kernel
theorem dX12_measure_185 : decode cX12_measure 185 = .ok (.iadd, 1) := by decide +kernel
theorem dX12_measure_186 : decode cX12_measure 186 = .ok (.iastore, 1) := by decide +kernel
theorem dX12_measure_187 : decode cX12_measure 187 = .ok (.aload_n 0, 1) := by decide +kernel
theorem dX12_measure_188 : decode cX12_measure 188 = .ok (.getfield 64, 3) := by decide +kernel
theorem dX12_measure_191 : decode cX12_measure 191 = .ok (.iload_n 1, 1) := by decide +kernel
theorem dX12_measure_192 : decode cX12_measure 192 = .ok (.iload_n 3, 1) := by decide +kernel
theorem dX12_measure_193 : decode cX12_measure 193 = .ok (.aload_n 0, 1) := by decide +kernel
theorem dX12_measure_194 : decode cX12_measure 194 = .ok (.getfield 46, 3) := by decide +kernel
theorem dX12_measure_197 : decode cX12_measure 197 = .ok (.iload_n 1, 1) := by decide +kernel
theorem dX12_measure_198 : decode cX12_measure 198 = .ok (.iaload, 1) := by decide +kernel
theorem dX12_measure_199 : decode cX12_measure 199 = .ok (.iconst 2, 1) := by decide +kernel
theorem dX12_measure_200 : decode cX12_measure 200 = .ok (.if_icmp .ne 17, 3) := by decide +kernel
theorem dX12_measure_203 : decode cX12_measure 203 = .ok (.aload_n 0, 1) := by decide +kernel
theorem dX12_measure_204 : decode cX12_measure 204 = .ok (.getfield 17, 3) := by decide +kernel
theorem dX12_measure_207 : decode cX12_measure 207 = .ok (.iconst 0, 1) := by decide +kernel
theorem dX12_measure_208 : decode cX12_measure 208 = .ok (.iaload, 1) := by decide +kernel
theorem dX12_measure_209 : decode cX12_measure 209 = .ok (.iload 4, 2) := by decide +kernel
theorem dX12_measure_211 : decode cX12_measure 211 = .ok (.iconst 1, 1) := by decide +kernel
theorem dX12_measure_212 : decode cX12_measure 212 = .ok (.isub, 1) := by decide +kernel
theorem dX12_measure_213 : decode cX12_measure 213 = .ok (.imul, 1) := by decide +kernel
theorem dX12_measure_214 : decode cX12_measure 214 = .ok (.goto 4, 3) := by decide +kernel
theorem dX12_measure_217 : decode cX12_measure 217 = .ok (.iconst 0, 1) := by decide +kernel
theorem dX12_measure_218 : decode cX12_measure 218 = .ok (.iadd, 1) := by decide +kernel
theorem dX12_measure_219 : decode cX12_measure 219 = .ok (.iastore, 1) := by decide +kernel
theorem dX12_measure_220 : decode cX12_measure 220 = .ok (.return_, 1) := by decide +kernel
abbrev rd_X12_measure : Nat → Room := rmd 1 21 1 25
theorem rd_X12_measure_ok (d : Nat) : (rd_X12_measure d).cells = 0 ∧ (rd_X12_measure d).slots = 0 ∧ 1 ≤ (rd_X12_measure d).frames ∧ 21 ≤ (rd_X12_measure d).locals := rmd_ok _ _ _ _ d
def f_X12_measure_138 (N : Nat) (hd : Int32 → St → Option St) (k59 : Int32 → Int32 → Int32 → Int32 → Int32 → St → Option St) (x1 : Int32) (x2 : Int32) (x4 : Int32) (x5 : Int32) (t0 : Int32) (σ : St) : Option St := grd (ib x5 400) (k59 x1 x2 t0 (x4 + 1) (σ.1 15 x5.toNatClampNeg) σ)
def f_X12_measure_104 (N : Nat) (hd : Int32 → St → Option St) (k59 : Int32 → Int32 → Int32 → Int32 → Int32 → St → Option St) (x1 : Int32) (x3 : Int32) (x4 : Int32) (x5 : Int32) (t0 : Int32) (σ : St) : Option St := grd (ib x1 400) ((if (σ.1 11 x1.toNatClampNeg) = 2 then grd (ib x5 400) (f_X12_measure_138 N hd k59 x1 t0 x4 x5 (x3 + (σ.1 17 x5.toNatClampNeg)) σ) else grd (ib x5 400) (f_X12_measure_138 N hd k59 x1 t0 x4 x5 (f_X12_greater x3 (σ.1 17 x5.toNatClampNeg) σ) σ)))
def f_X12_measure_218 (N : Nat) (hd : Int32 → St → Option St) (t1 : Int32) (t2 : Int32) (t3 : Int32) (σ : St) : Option St := grd (ib t1 400) (some ((si σ 17 t1.toNatClampNeg (t2 + t3))))
def f_X12_measure_185 (N : Nat) (hd : Int32 → St → Option St) (x1 : Int32) (x3 : Int32) (x4 : Int32) (t1 : Int32) (t2 : Int32) (t3 : Int32) (σ : St) : Option St := grd (ib t1 400) (grd (ib x1 400) ((if (σ.1 11 x1.toNatClampNeg) = 2 then grd (ib 0 8) (f_X12_measure_218 N hd x1 x3 ((σ.1 2 0) * (x4 - 1)) (si σ 16 t1.toNatClampNeg (t2 + t3))) else f_X12_measure_218 N hd x1 x3 0 (si σ 16 t1.toNatClampNeg (t2 + t3)))))
def f_X12_measure_59 (N : Nat) (hd : Int32 → St → Option St) : Nat → Int32 → Int32 → Int32 → Int32 → Int32 → St → Option St
  | 0, _, _, _, _, _, _ => none
  | n + 1, x1, x2, x3, x4, x5, σ => (if x5 = ((-1)) then grd (ib x1 400) ((if (σ.1 11 x1.toNatClampNeg) = 1 then grd (ib 0 8) (f_X12_measure_185 N hd x1 x3 x4 x1 x2 ((σ.1 2 0) * (x4 - 1)) σ) else f_X12_measure_185 N hd x1 x3 x4 x1 x2 0 σ)) else bo (hd x5 σ) (fun σ14 => grd (ib x1 400) ((if (σ14.1 11 x1.toNatClampNeg) = 1 then grd (ib x5 400) (f_X12_measure_104 N hd (f_X12_measure_59 N hd n) x1 x3 x4 x5 (x2 + (σ14.1 16 x5.toNatClampNeg)) σ14) else grd (ib x5 400) (f_X12_measure_104 N hd (f_X12_measure_59 N hd n) x1 x3 x4 x5 (f_X12_greater x2 (σ14.1 16 x5.toNatClampNeg) σ14) σ14)))))
def f_X12_measure_b (N : Nat) (hd : Int32 → St → Option St) (x1 : Int32) (σ : St) : Option St := grd (ib x1 400) ((if (σ.1 11 x1.toNatClampNeg) = 0 then grd (ib x1 400) (grd (ib (σ.1 12 x1.toNatClampNeg) 80) (grd (ib x1 400) (grd (ib x1 400) (grd (ib (σ.1 12 x1.toNatClampNeg) 80) (grd (ib x1 400) (some ((si (si σ 16 x1.toNatClampNeg (σ.1 5 (σ.1 12 x1.toNatClampNeg).toNatClampNeg)) 17 x1.toNatClampNeg (σ.1 6 (σ.1 12 x1.toNatClampNeg).toNatClampNeg))))))))) else grd (ib x1 400) (f_X12_measure_59 N hd N x1 0 0 0 (σ.1 14 x1.toNatClampNeg) σ)))
def f_X12_measure (N : Nat) : Nat → Int32 → St → Option St
  | 0, _, _ => none
  | d + 1, x1, σ => f_X12_measure_b N (f_X12_measure N d) x1 σ
section
variable {p : Program} {l : Launch} {e : Env} {s : State} {m : MethodId} {args : Array Value} {below : List Frame} {meth : Method} {c : Code} {g : XG}
set_option maxRecDepth 4000 in
theorem w_X12_measure_138 (N : Nat) (hd : Int32 → St → Option St) (rmH : Room) (hrm : rmH.cells = 0 ∧ rmH.slots = 0 ∧ 1 ≤ rmH.frames ∧ 21 ≤ rmH.locals) (hH : ∀ (a0 : Int32) (σ : St) {σ' : St}, hd a0 σ = some σ' → xM l KM g yX12_measure cX12_measure 6 none rmH [.ref (g.q 0), .int a0] σ none σ') (k59 : Int32 → Int32 → Int32 → Int32 → Int32 → St → Option St) {σ' : St} (C : xC KM g RX12 cX12_measure 6 none p s m args meth c) (hk59 : ∀ (x1 : Int32) (x2 : Int32) (x3 : Int32) (x4 : Int32) (x5 : Int32) (σ : St) (H : Heap) (locs : List Loc) (ls : Array Slot), xW KM g s σ H locs → lv_has ls 6 [(0, .ref (g.q 0)), (1, .int x1), (2, .int x2), (3, .int x3), (4, .int x4), (5, .int x5)] → k59 x1 x2 x3 x4 x5 σ = some σ' → W p l e (xrm rmH 1 25) s m args below meth c H locs 0 0 (MQ below (xPost KM g none σ') args s 0 0 (xA KM g.q)) (F0 m 59 ls [])) : ∀ (x1 : Int32) (x2 : Int32) (x4 : Int32) (x5 : Int32) (t0 : Int32) (σ : St) (H : Heap) (locs : List Loc) (ls : Array Slot), xW KM g s σ H locs → lv_has ls 6 [(0, .ref (g.q 0)), (1, .int x1), (2, .int x2), (4, .int x4), (5, .int x5)] → f_X12_measure_138 N hd k59 x1 x2 x4 x5 t0 σ = some σ' → W p l e (xrm rmH 1 25) s m args below meth c H locs 0 0 (MQ below (xPost KM g none σ') args s 0 0 (xA KM g.q)) (F0 m 138 ls [.int t0]) := by
  have hx := C.1
  have hb := C.2.1
  intro x1 x2 x4 x5 t0 σ H locs ls hW hl h
  unfold f_X12_measure_138 at h
  refine lv_istore_n (lv' := [(3, .int t0), (0, .ref (g.q 0)), (1, .int x1), (2, .int x2), (4, .int x4), (5, .int x5)]) hx hb dX12_measure_138 rfl hl (Nat.le_of_ble_eq_true rfl) rfl (fun ls hl => ?_)
  refine lv_iinc (v := x4 + 1) (lv' := [(4, .int (x4 + 1)), (3, .int t0), (0, .ref (g.q 0)), (1, .int x1), (2, .int x2), (5, .int x5)]) hx hb dX12_measure_139 hl (k := 4) rfl rfl (Nat.le_of_ble_eq_true rfl) rfl (fun ls hl => ?_)
  refine lv_aload_n hx hb dX12_measure_142 rfl (lv_at hl 2 rfl) ?_
  refine xg_r C hW fg_12_58 KM_0 rfl dX12_measure_143 ?_
  refine lv_iload hx hb dX12_measure_146 (lv_at hl 5 rfl) ?_
  obtain ⟨g23, h⟩ := xgd h
  refine xa_i C hW KM_15 g23 (x := σ.1 15 x5.toNatClampNeg) rfl dX12_measure_148 ?_
  refine lv_istore (lv' := [(5, .int (σ.1 15 x5.toNatClampNeg)), (4, .int (x4 + 1)), (3, .int t0), (0, .ref (g.q 0)), (1, .int x1), (2, .int x2)]) hx hb dX12_measure_149 hl (Nat.le_of_ble_eq_true rfl) rfl (fun ls hl => ?_)
  refine lv_goto (tgt := 59) hx hb dX12_measure_151 (by decide) ?_
  exact hk59 x1 x2 t0 (x4 + 1) (σ.1 15 x5.toNatClampNeg) _ _ _ _ hW (lv_sub hl [3, 4, 5, 2, 1, 0] rfl) h
set_option maxRecDepth 4000 in
theorem w_X12_measure_104 (N : Nat) (hd : Int32 → St → Option St) (rmH : Room) (hrm : rmH.cells = 0 ∧ rmH.slots = 0 ∧ 1 ≤ rmH.frames ∧ 21 ≤ rmH.locals) (hH : ∀ (a0 : Int32) (σ : St) {σ' : St}, hd a0 σ = some σ' → xM l KM g yX12_measure cX12_measure 6 none rmH [.ref (g.q 0), .int a0] σ none σ') (k59 : Int32 → Int32 → Int32 → Int32 → Int32 → St → Option St) {σ' : St} (C : xC KM g RX12 cX12_measure 6 none p s m args meth c) (hk59 : ∀ (x1 : Int32) (x2 : Int32) (x3 : Int32) (x4 : Int32) (x5 : Int32) (σ : St) (H : Heap) (locs : List Loc) (ls : Array Slot), xW KM g s σ H locs → lv_has ls 6 [(0, .ref (g.q 0)), (1, .int x1), (2, .int x2), (3, .int x3), (4, .int x4), (5, .int x5)] → k59 x1 x2 x3 x4 x5 σ = some σ' → W p l e (xrm rmH 1 25) s m args below meth c H locs 0 0 (MQ below (xPost KM g none σ') args s 0 0 (xA KM g.q)) (F0 m 59 ls [])) : ∀ (x1 : Int32) (x3 : Int32) (x4 : Int32) (x5 : Int32) (t0 : Int32) (σ : St) (H : Heap) (locs : List Loc) (ls : Array Slot), xW KM g s σ H locs → lv_has ls 6 [(0, .ref (g.q 0)), (1, .int x1), (3, .int x3), (4, .int x4), (5, .int x5)] → f_X12_measure_104 N hd k59 x1 x3 x4 x5 t0 σ = some σ' → W p l e (xrm rmH 1 25) s m args below meth c H locs 0 0 (MQ below (xPost KM g none σ') args s 0 0 (xA KM g.q)) (F0 m 104 ls [.int t0]) := by
  have hx := C.1
  have hb := C.2.1
  intro x1 x3 x4 x5 t0 σ H locs ls hW hl h
  unfold f_X12_measure_104 at h
  refine lv_istore_n (lv' := [(2, .int t0), (0, .ref (g.q 0)), (1, .int x1), (3, .int x3), (4, .int x4), (5, .int x5)]) hx hb dX12_measure_104 rfl hl (Nat.le_of_ble_eq_true rfl) rfl (fun ls hl => ?_)
  refine lv_aload_n hx hb dX12_measure_105 rfl (lv_at hl 1 rfl) ?_
  refine xg_r C hW fg_12_46 KM_0 rfl dX12_measure_106 ?_
  refine lv_iload_n hx hb dX12_measure_109 rfl (lv_at hl 2 rfl) ?_
  obtain ⟨g19, h⟩ := xgd h
  refine xa_i C hW KM_11 g19 (x := σ.1 11 x1.toNatClampNeg) rfl dX12_measure_110 ?_
  refine lv_iconst (v := 2) hx hb dX12_measure_111 rfl ?_
  refine lv_icmp_ne (tgt := 127) hx hb dX12_measure_112 (by decide) (fun c20 => ?_) (fun c20 => ?_)
  · have h := xif c20 h
    refine lv_iload_n hx hb dX12_measure_127 rfl (lv_at hl 3 rfl) ?_
    refine lv_aload_n hx hb dX12_measure_128 rfl (lv_at hl 1 rfl) ?_
    refine xg_r C hW fg_12_64 KM_0 rfl dX12_measure_129 ?_
    refine lv_iload hx hb dX12_measure_132 (lv_at hl 5 rfl) ?_
    obtain ⟨g21, h⟩ := xgd h
    refine xa_i C hW KM_17 g21 (x := σ.1 17 x5.toNatClampNeg) rfl dX12_measure_134 ?_
    refine xc_S (As := [.int x3, .int (σ.1 17 x5.toNatClampNeg)]) (rest := []) C hW (m_X12_greater x3 (σ.1 17 x5.toNatClampNeg) _ rfl) mf_X12_greater mt_X12_greater ml_X12_381 ⟨rfl, rfl⟩ ⟨xle1 hrm.2.2.1 (Nat.le_of_ble_eq_true rfl), xle1 hrm.2.2.2 (Nat.le_of_ble_eq_true rfl)⟩ hl.1 rfl rfl (Nat.le_of_ble_eq_true rfl) dX12_measure_135 (fun H locs hW => W.eq (g2 := F0 m 138 ls [.int (f_X12_greater x3 (σ.1 17 x5.toNatClampNeg) σ)]) rfl ?_)
    exact w_X12_measure_138 N hd rmH hrm hH k59 C hk59 x1 t0 x4 x5 (f_X12_greater x3 (σ.1 17 x5.toNatClampNeg) σ) _ _ _ _ hW (lv_sub hl [1, 2, 0, 4, 5] rfl) h
  · have h := xit c20 h
    refine lv_iload_n hx hb dX12_measure_115 rfl (lv_at hl 3 rfl) ?_
    refine lv_aload_n hx hb dX12_measure_116 rfl (lv_at hl 1 rfl) ?_
    refine xg_r C hW fg_12_64 KM_0 rfl dX12_measure_117 ?_
    refine lv_iload hx hb dX12_measure_120 (lv_at hl 5 rfl) ?_
    obtain ⟨g22, h⟩ := xgd h
    refine xa_i C hW KM_17 g22 (x := σ.1 17 x5.toNatClampNeg) rfl dX12_measure_122 ?_
    refine lv_iadd hx hb dX12_measure_123 ?_
    refine lv_goto (tgt := 138) hx hb dX12_measure_124 (by decide) ?_
    exact w_X12_measure_138 N hd rmH hrm hH k59 C hk59 x1 t0 x4 x5 (x3 + (σ.1 17 x5.toNatClampNeg)) _ _ _ _ hW (lv_sub hl [1, 2, 0, 4, 5] rfl) h
set_option maxRecDepth 4000 in
theorem w_X12_measure_218 (N : Nat) (hd : Int32 → St → Option St) (rmH : Room) (hrm : rmH.cells = 0 ∧ rmH.slots = 0 ∧ 1 ≤ rmH.frames ∧ 21 ≤ rmH.locals) (hH : ∀ (a0 : Int32) (σ : St) {σ' : St}, hd a0 σ = some σ' → xM l KM g yX12_measure cX12_measure 6 none rmH [.ref (g.q 0), .int a0] σ none σ') {σ' : St} (C : xC KM g RX12 cX12_measure 6 none p s m args meth c) : ∀ (t1 : Int32) (t2 : Int32) (t3 : Int32) (σ : St) (H : Heap) (locs : List Loc) (ls : Array Slot), xW KM g s σ H locs → lv_has ls 6 [] → f_X12_measure_218 N hd t1 t2 t3 σ = some σ' → W p l e (xrm rmH 1 25) s m args below meth c H locs 0 0 (MQ below (xPost KM g none σ') args s 0 0 (xA KM g.q)) (F0 m 218 ls [.int t3, .int t2, .int t1, .ref (g.q 17)]) := by
  have hx := C.1
  have hb := C.2.1
  intro t1 t2 t3 σ H locs ls hW hl h
  unfold f_X12_measure_218 at h
  refine lv_iadd hx hb dX12_measure_218 ?_
  obtain ⟨g28, h⟩ := xgd h
  refine xs_i C hW KM_17 g28 dX12_measure_219 (fun H locs hW => ?_)
  cases h
  exact xr_v C hW dX12_measure_220
set_option maxRecDepth 4000 in
theorem w_X12_measure_185 (N : Nat) (hd : Int32 → St → Option St) (rmH : Room) (hrm : rmH.cells = 0 ∧ rmH.slots = 0 ∧ 1 ≤ rmH.frames ∧ 21 ≤ rmH.locals) (hH : ∀ (a0 : Int32) (σ : St) {σ' : St}, hd a0 σ = some σ' → xM l KM g yX12_measure cX12_measure 6 none rmH [.ref (g.q 0), .int a0] σ none σ') {σ' : St} (C : xC KM g RX12 cX12_measure 6 none p s m args meth c) : ∀ (x1 : Int32) (x3 : Int32) (x4 : Int32) (t1 : Int32) (t2 : Int32) (t3 : Int32) (σ : St) (H : Heap) (locs : List Loc) (ls : Array Slot), xW KM g s σ H locs → lv_has ls 6 [(0, .ref (g.q 0)), (1, .int x1), (3, .int x3), (4, .int x4)] → f_X12_measure_185 N hd x1 x3 x4 t1 t2 t3 σ = some σ' → W p l e (xrm rmH 1 25) s m args below meth c H locs 0 0 (MQ below (xPost KM g none σ') args s 0 0 (xA KM g.q)) (F0 m 185 ls [.int t3, .int t2, .int t1, .ref (g.q 16)]) := by
  have hx := C.1
  have hb := C.2.1
  intro x1 x3 x4 t1 t2 t3 σ H locs ls hW hl h
  unfold f_X12_measure_185 at h
  refine lv_iadd hx hb dX12_measure_185 ?_
  obtain ⟨g24, h⟩ := xgd h
  refine xs_i C hW KM_16 g24 dX12_measure_186 (fun H locs hW => ?_)
  refine lv_aload_n hx hb dX12_measure_187 rfl (lv_at hl 0 rfl) ?_
  refine xg_r C hW fg_12_64 KM_0 rfl dX12_measure_188 ?_
  refine lv_iload_n hx hb dX12_measure_191 rfl (lv_at hl 1 rfl) ?_
  refine lv_iload_n hx hb dX12_measure_192 rfl (lv_at hl 2 rfl) ?_
  refine lv_aload_n hx hb dX12_measure_193 rfl (lv_at hl 0 rfl) ?_
  refine xg_r C hW fg_12_46 KM_0 rfl dX12_measure_194 ?_
  refine lv_iload_n hx hb dX12_measure_197 rfl (lv_at hl 1 rfl) ?_
  obtain ⟨g25, h⟩ := xgd h
  refine xa_i C hW KM_11 g25 (x := σ.1 11 x1.toNatClampNeg) rfl dX12_measure_198 ?_
  refine lv_iconst (v := 2) hx hb dX12_measure_199 rfl ?_
  refine lv_icmp_ne (tgt := 217) hx hb dX12_measure_200 (by decide) (fun c26 => ?_) (fun c26 => ?_)
  · have h := xif c26 h
    refine lv_iconst (v := 0) hx hb dX12_measure_217 rfl ?_
    exact w_X12_measure_218 N hd rmH hrm hH C x1 x3 0 _ _ _ _ hW (lv_sub hl [] rfl) h
  · have h := xit c26 h
    refine lv_aload_n hx hb dX12_measure_203 rfl (lv_at hl 0 rfl) ?_
    refine xg_r C hW fg_12_17 KM_0 rfl dX12_measure_204 ?_
    refine lv_iconst (v := 0) hx hb dX12_measure_207 rfl ?_
    obtain ⟨g27, h⟩ := xgd h
    refine xa_i C hW KM_2 g27 (x := σ.1 2 0) rfl dX12_measure_208 ?_
    refine lv_iload hx hb dX12_measure_209 (lv_at hl 3 rfl) ?_
    refine lv_iconst (v := 1) hx hb dX12_measure_211 rfl ?_
    refine lv_isub hx hb dX12_measure_212 ?_
    refine lv_imul hx hb dX12_measure_213 ?_
    refine lv_goto (tgt := 218) hx hb dX12_measure_214 (by decide) ?_
    exact w_X12_measure_218 N hd rmH hrm hH C x1 x3 ((σ.1 2 0) * (x4 - 1)) _ _ _ _ hW (lv_sub hl [] rfl) h
set_option maxRecDepth 4000 in
theorem w_X12_measure_59 (N : Nat) (hd : Int32 → St → Option St) (rmH : Room) (hrm : rmH.cells = 0 ∧ rmH.slots = 0 ∧ 1 ≤ rmH.frames ∧ 21 ≤ rmH.locals) (hH : ∀ (a0 : Int32) (σ : St) {σ' : St}, hd a0 σ = some σ' → xM l KM g yX12_measure cX12_measure 6 none rmH [.ref (g.q 0), .int a0] σ none σ') {σ' : St} (C : xC KM g RX12 cX12_measure 6 none p s m args meth c) : ∀ (n : Nat), ∀ (x1 : Int32) (x2 : Int32) (x3 : Int32) (x4 : Int32) (x5 : Int32) (σ : St) (H : Heap) (locs : List Loc) (ls : Array Slot), xW KM g s σ H locs → lv_has ls 6 [(0, .ref (g.q 0)), (1, .int x1), (2, .int x2), (3, .int x3), (4, .int x4), (5, .int x5)] → f_X12_measure_59 N hd n x1 x2 x3 x4 x5 σ = some σ' → W p l e (xrm rmH 1 25) s m args below meth c H locs 0 0 (MQ below (xPost KM g none σ') args s 0 0 (xA KM g.q)) (F0 m 59 ls []) := by
  have hx := C.1
  have hb := C.2.1
  intro n
  induction n with
  | zero => intro x1 x2 x3 x4 x5 σ H locs ls hW hl h; rw [f_X12_measure_59] at h; cases h
  | succ n ih =>
    intro x1 x2 x3 x4 x5 σ H locs ls hW hl h
    rw [f_X12_measure_59] at h
    refine lv_iload hx hb dX12_measure_59 (lv_at hl 5 rfl) ?_
    refine lv_iconst (v := (-1)) hx hb dX12_measure_61 rfl ?_
    refine lv_icmp_eq (tgt := 154) hx hb dX12_measure_62 (by decide) (fun c10 => ?_) (fun c10 => ?_)
    · have h := xit c10 h
      refine lv_aload_n hx hb dX12_measure_154 rfl (lv_at hl 0 rfl) ?_
      refine xg_r C hW fg_12_61 KM_0 rfl dX12_measure_155 ?_
      refine lv_iload_n hx hb dX12_measure_158 rfl (lv_at hl 1 rfl) ?_
      refine lv_iload_n hx hb dX12_measure_159 rfl (lv_at hl 2 rfl) ?_
      refine lv_aload_n hx hb dX12_measure_160 rfl (lv_at hl 0 rfl) ?_
      refine xg_r C hW fg_12_46 KM_0 rfl dX12_measure_161 ?_
      refine lv_iload_n hx hb dX12_measure_164 rfl (lv_at hl 1 rfl) ?_
      obtain ⟨g11, h⟩ := xgd h
      refine xa_i C hW KM_11 g11 (x := σ.1 11 x1.toNatClampNeg) rfl dX12_measure_165 ?_
      refine lv_iconst (v := 1) hx hb dX12_measure_166 rfl ?_
      refine lv_icmp_ne (tgt := 184) hx hb dX12_measure_167 (by decide) (fun c12 => ?_) (fun c12 => ?_)
      · have h := xif c12 h
        refine lv_iconst (v := 0) hx hb dX12_measure_184 rfl ?_
        exact w_X12_measure_185 N hd rmH hrm hH C x1 x3 x4 x1 x2 0 _ _ _ _ hW (lv_sub hl [0, 1, 3, 4] rfl) h
      · have h := xit c12 h
        refine lv_aload_n hx hb dX12_measure_170 rfl (lv_at hl 0 rfl) ?_
        refine xg_r C hW fg_12_17 KM_0 rfl dX12_measure_171 ?_
        refine lv_iconst (v := 0) hx hb dX12_measure_174 rfl ?_
        obtain ⟨g13, h⟩ := xgd h
        refine xa_i C hW KM_2 g13 (x := σ.1 2 0) rfl dX12_measure_175 ?_
        refine lv_iload hx hb dX12_measure_176 (lv_at hl 4 rfl) ?_
        refine lv_iconst (v := 1) hx hb dX12_measure_178 rfl ?_
        refine lv_isub hx hb dX12_measure_179 ?_
        refine lv_imul hx hb dX12_measure_180 ?_
        refine lv_goto (tgt := 185) hx hb dX12_measure_181 (by decide) ?_
        exact w_X12_measure_185 N hd rmH hrm hH C x1 x3 x4 x1 x2 ((σ.1 2 0) * (x4 - 1)) _ _ _ _ hW (lv_sub hl [0, 1, 3, 4] rfl) h
    · have h := xif c10 h
      refine lv_aload_n hx hb dX12_measure_65 rfl (lv_at hl 0 rfl) ?_
      refine lv_iload hx hb dX12_measure_66 (lv_at hl 5 rfl) ?_
      obtain ⟨σ14, e14, h⟩ := xbo h
      refine xc_V (As := [.int x5]) (rest := []) C hW (hH x5 _ e14) mf_X12_measure mv_X12_measure ml_X12_377 ⟨hrm.1, hrm.2.1⟩ ⟨by simp only [xrm]; omega, by simp only [xrm]; omega⟩ KM_0 rfl hl.1 rfl rfl (Nat.le_of_ble_eq_true rfl) dX12_measure_68 (fun H locs hW => W.eq (g2 := F0 m 71 ls []) rfl ?_)
      refine lv_aload_n hx hb dX12_measure_71 rfl (lv_at hl 0 rfl) ?_
      refine xg_r C hW fg_12_46 KM_0 rfl dX12_measure_72 ?_
      refine lv_iload_n hx hb dX12_measure_75 rfl (lv_at hl 1 rfl) ?_
      obtain ⟨g15, h⟩ := xgd h
      refine xa_i C hW KM_11 g15 (x := σ14.1 11 x1.toNatClampNeg) rfl dX12_measure_76 ?_
      refine lv_iconst (v := 1) hx hb dX12_measure_77 rfl ?_
      refine lv_icmp_ne (tgt := 93) hx hb dX12_measure_78 (by decide) (fun c16 => ?_) (fun c16 => ?_)
      · have h := xif c16 h
        refine lv_iload_n hx hb dX12_measure_93 rfl (lv_at hl 2 rfl) ?_
        refine lv_aload_n hx hb dX12_measure_94 rfl (lv_at hl 0 rfl) ?_
        refine xg_r C hW fg_12_61 KM_0 rfl dX12_measure_95 ?_
        refine lv_iload hx hb dX12_measure_98 (lv_at hl 5 rfl) ?_
        obtain ⟨g17, h⟩ := xgd h
        refine xa_i C hW KM_16 g17 (x := σ14.1 16 x5.toNatClampNeg) rfl dX12_measure_100 ?_
        refine xc_S (As := [.int x2, .int (σ14.1 16 x5.toNatClampNeg)]) (rest := []) C hW (m_X12_greater x2 (σ14.1 16 x5.toNatClampNeg) _ rfl) mf_X12_greater mt_X12_greater ml_X12_381 ⟨rfl, rfl⟩ ⟨xle1 hrm.2.2.1 (Nat.le_of_ble_eq_true rfl), xle1 hrm.2.2.2 (Nat.le_of_ble_eq_true rfl)⟩ hl.1 rfl rfl (Nat.le_of_ble_eq_true rfl) dX12_measure_101 (fun H locs hW => W.eq (g2 := F0 m 104 ls [.int (f_X12_greater x2 (σ14.1 16 x5.toNatClampNeg) σ14)]) rfl ?_)
        exact w_X12_measure_104 N hd rmH hrm hH (f_X12_measure_59 N hd n) C ih x1 x3 x4 x5 (f_X12_greater x2 (σ14.1 16 x5.toNatClampNeg) σ14) _ _ _ _ hW (lv_sub hl [0, 1, 3, 4, 5] rfl) h
      · have h := xit c16 h
        refine lv_iload_n hx hb dX12_measure_81 rfl (lv_at hl 2 rfl) ?_
        refine lv_aload_n hx hb dX12_measure_82 rfl (lv_at hl 0 rfl) ?_
        refine xg_r C hW fg_12_61 KM_0 rfl dX12_measure_83 ?_
        refine lv_iload hx hb dX12_measure_86 (lv_at hl 5 rfl) ?_
        obtain ⟨g18, h⟩ := xgd h
        refine xa_i C hW KM_16 g18 (x := σ14.1 16 x5.toNatClampNeg) rfl dX12_measure_88 ?_
        refine lv_iadd hx hb dX12_measure_89 ?_
        refine lv_goto (tgt := 104) hx hb dX12_measure_90 (by decide) ?_
        exact w_X12_measure_104 N hd rmH hrm hH (f_X12_measure_59 N hd n) C ih x1 x3 x4 x5 (x2 + (σ14.1 16 x5.toNatClampNeg)) _ _ _ _ hW (lv_sub hl [0, 1, 3, 4, 5] rfl) h
set_option maxRecDepth 4000 in
theorem m_X12_measure_b (N : Nat) (hd : Int32 → St → Option St) (rmH : Room) (hrm : rmH.cells = 0 ∧ rmH.slots = 0 ∧ 1 ≤ rmH.frames ∧ 21 ≤ rmH.locals) (hH : ∀ (a0 : Int32) (σ : St) {σ' : St}, hd a0 σ = some σ' → xM l KM g yX12_measure cX12_measure 6 none rmH [.ref (g.q 0), .int a0] σ none σ') (x1 : Int32) (σ : St) {σ' : St} (h : f_X12_measure_b N hd x1 σ = some σ') : xM l KM g yX12_measure cX12_measure 6 none (xrm rmH 1 25) [.ref (g.q 0), .int x1] σ none σ' := by
  refine xmet pn_X12 rfl (Nat.le_of_ble_eq_true rfl) (lv := [(0, .ref (g.q 0)), (1, .int x1)]) rfl (fun p e s m args below meth c ls C hW hl => ?_)
  have hx := C.1
  have hb := C.2.1
  unfold f_X12_measure_b at h
  refine lv_aload_n hx hb dX12_measure_0 rfl (lv_at hl 0 rfl) ?_
  refine xg_r C hW fg_12_46 KM_0 rfl dX12_measure_1 ?_
  refine lv_iload_n hx hb dX12_measure_4 rfl (lv_at hl 1 rfl) ?_
  obtain ⟨g1, h⟩ := xgd h
  refine xa_i C hW KM_11 g1 (x := σ.1 11 x1.toNatClampNeg) rfl dX12_measure_5 ?_
  refine lv_if_ne (tgt := 44) hx hb dX12_measure_6 (by decide) (fun c2 => ?_) (fun c2 => ?_)
  · have h := xif c2 h
    refine lv_iconst (v := 0) hx hb dX12_measure_44 rfl ?_
    refine lv_istore_n (lv' := [(2, .int 0), (0, .ref (g.q 0)), (1, .int x1)]) hx hb dX12_measure_45 rfl hl (Nat.le_of_ble_eq_true rfl) rfl (fun ls hl => ?_)
    refine lv_iconst (v := 0) hx hb dX12_measure_46 rfl ?_
    refine lv_istore_n (lv' := [(3, .int 0), (2, .int 0), (0, .ref (g.q 0)), (1, .int x1)]) hx hb dX12_measure_47 rfl hl (Nat.le_of_ble_eq_true rfl) rfl (fun ls hl => ?_)
    refine lv_iconst (v := 0) hx hb dX12_measure_48 rfl ?_
    refine lv_istore (lv' := [(4, .int 0), (3, .int 0), (2, .int 0), (0, .ref (g.q 0)), (1, .int x1)]) hx hb dX12_measure_49 hl (Nat.le_of_ble_eq_true rfl) rfl (fun ls hl => ?_)
    refine lv_aload_n hx hb dX12_measure_51 rfl (lv_at hl 3 rfl) ?_
    refine xg_r C hW fg_12_55 KM_0 rfl dX12_measure_52 ?_
    refine lv_iload_n hx hb dX12_measure_55 rfl (lv_at hl 4 rfl) ?_
    obtain ⟨g3, h⟩ := xgd h
    refine xa_i C hW KM_14 g3 (x := σ.1 14 x1.toNatClampNeg) rfl dX12_measure_56 ?_
    refine lv_istore (lv' := [(5, .int (σ.1 14 x1.toNatClampNeg)), (4, .int 0), (3, .int 0), (2, .int 0), (0, .ref (g.q 0)), (1, .int x1)]) hx hb dX12_measure_57 hl (Nat.le_of_ble_eq_true rfl) rfl (fun ls hl => ?_)
    exact w_X12_measure_59 N hd rmH hrm hH C N x1 0 0 0 (σ.1 14 x1.toNatClampNeg) _ _ _ _ hW (lv_sub hl [4, 5, 3, 2, 1, 0] rfl) h
  · have h := xit c2 h
    refine lv_aload_n hx hb dX12_measure_9 rfl (lv_at hl 0 rfl) ?_
    refine xg_r C hW fg_12_61 KM_0 rfl dX12_measure_10 ?_
    refine lv_iload_n hx hb dX12_measure_13 rfl (lv_at hl 1 rfl) ?_
    refine lv_aload_n hx hb dX12_measure_14 rfl (lv_at hl 0 rfl) ?_
    refine xg_r C hW fg_12_28 KM_0 rfl dX12_measure_15 ?_
    refine lv_aload_n hx hb dX12_measure_18 rfl (lv_at hl 0 rfl) ?_
    refine xg_r C hW fg_12_49 KM_0 rfl dX12_measure_19 ?_
    refine lv_iload_n hx hb dX12_measure_22 rfl (lv_at hl 1 rfl) ?_
    obtain ⟨g4, h⟩ := xgd h
    refine xa_i C hW KM_12 g4 (x := σ.1 12 x1.toNatClampNeg) rfl dX12_measure_23 ?_
    obtain ⟨g5, h⟩ := xgd h
    refine xa_i C hW KM_5 g5 (x := σ.1 5 (σ.1 12 x1.toNatClampNeg).toNatClampNeg) rfl dX12_measure_24 ?_
    obtain ⟨g6, h⟩ := xgd h
    refine xs_i C hW KM_16 g6 dX12_measure_25 (fun H locs hW => ?_)
    refine lv_aload_n hx hb dX12_measure_26 rfl (lv_at hl 0 rfl) ?_
    refine xg_r C hW fg_12_64 KM_0 rfl dX12_measure_27 ?_
    refine lv_iload_n hx hb dX12_measure_30 rfl (lv_at hl 1 rfl) ?_
    refine lv_aload_n hx hb dX12_measure_31 rfl (lv_at hl 0 rfl) ?_
    refine xg_r C hW fg_12_31 KM_0 rfl dX12_measure_32 ?_
    refine lv_aload_n hx hb dX12_measure_35 rfl (lv_at hl 0 rfl) ?_
    refine xg_r C hW fg_12_49 KM_0 rfl dX12_measure_36 ?_
    refine lv_iload_n hx hb dX12_measure_39 rfl (lv_at hl 1 rfl) ?_
    obtain ⟨g7, h⟩ := xgd h
    refine xa_i C hW KM_12 g7 (x := σ.1 12 x1.toNatClampNeg) rfl dX12_measure_40 ?_
    obtain ⟨g8, h⟩ := xgd h
    refine xa_i C hW KM_6 g8 (x := σ.1 6 (σ.1 12 x1.toNatClampNeg).toNatClampNeg) rfl dX12_measure_41 ?_
    obtain ⟨g9, h⟩ := xgd h
    refine xs_i C hW KM_17 g9 dX12_measure_42 (fun H locs hW => ?_)
    cases h
    exact xr_v C hW dX12_measure_43
theorem m_X12_measure (N : Nat) (d : Nat) (x1 : Int32) (σ : St) {σ' : St} (h : f_X12_measure N d x1 σ = some σ') : xM l KM g yX12_measure cX12_measure 6 none (rd_X12_measure d) [.ref (g.q 0), .int x1] σ none σ' := by
  induction d generalizing x1 σ σ' with
  | zero => rw [f_X12_measure] at h; cases h
  | succ d ih =>
    rw [f_X12_measure] at h
    exact m_X12_measure_b N (f_X12_measure N d) (rd_X12_measure d) (rd_X12_measure_ok d) (fun x1 σ _ => ih x1 σ) x1 σ h
end
theorem dX12_layOne_0 : decode cX12_layOne 0 = .ok (.aload_n 0, 1) := by decide +kernel
theorem dX12_layOne_1 : decode cX12_layOne 1 = .ok (.getfield 82, 3) := by decide +kernel
theorem dX12_layOne_4 : decode cX12_layOne 4 = .ok (.aload_n 0, 1) := by decide +kernel
theorem dX12_layOne_5 : decode cX12_layOne 5 = .ok (.getfield 329, 3) := by decide +kernel
theorem dX12_layOne_8 : decode cX12_layOne 8 = .ok (.iload_n 1, 1) := by decide +kernel
theorem dX12_layOne_9 : decode cX12_layOne 9 = .ok (.iastore, 1) := by decide +kernel
theorem dX12_layOne_10 : decode cX12_layOne 10 = .ok (.aload_n 0, 1) := by decide +kernel
theorem dX12_layOne_11 : decode cX12_layOne 11 = .ok (.getfield 85, 3) := by decide +kernel
theorem dX12_layOne_14 : decode cX12_layOne 14 = .ok (.aload_n 0, 1) := by decide +kernel
theorem dX12_layOne_15 : decode cX12_layOne 15 = .ok (.getfield 329, 3) := by decide +kernel
theorem dX12_layOne_18 : decode cX12_layOne 18 = .ok (.iload_n 2, 1) := by decide +kernel
theorem dX12_layOne_19 : decode cX12_layOne 19 = .ok (.iastore, 1) := by decide +kernel
theorem dX12_layOne_20 : decode cX12_layOne 20 = .ok (.aload_n 0, 1) := by decide +kernel
theorem dX12_layOne_21 : decode cX12_layOne 21 = .ok (.getfield 88, 3) := by decide +kernel
theorem dX12_layOne_24 : decode cX12_layOne 24 = .ok (.aload_n 0, 1) := by decide +kernel
theorem dX12_layOne_25 : decode cX12_layOne 25 = .ok (.getfield 329, 3) := by decide +kernel
theorem dX12_layOne_28 : decode cX12_layOne 28 = .ok (.iload_n 3, 1) := by decide +kernel
theorem dX12_layOne_29 : decode cX12_layOne 29 = .ok (.iastore, 1) := by decide +kernel
theorem dX12_layOne_30 : decode cX12_layOne 30 = .ok (.aload_n 0, 1) := by decide +kernel
theorem dX12_layOne_31 : decode cX12_layOne 31 = .ok (.getfield 91, 3) := by decide +kernel
theorem dX12_layOne_34 : decode cX12_layOne 34 = .ok (.aload_n 0, 1) := by decide +kernel
theorem dX12_layOne_35 : decode cX12_layOne 35 = .ok (.getfield 329, 3) := by decide +kernel
theorem dX12_layOne_38 : decode cX12_layOne 38 = .ok (.iload 4, 2) := by decide +kernel
theorem dX12_layOne_40 : decode cX12_layOne 40 = .ok (.iastore, 1) := by decide +kernel
theorem dX12_layOne_41 : decode cX12_layOne 41 = .ok (.aload_n 0, 1) := by decide +kernel
theorem dX12_layOne_42 : decode cX12_layOne 42 = .ok (.getfield 94, 3) := by decide +kernel
theorem dX12_layOne_45 : decode cX12_layOne 45 = .ok (.aload_n 0, 1) := by decide +kernel
theorem dX12_layOne_46 : decode cX12_layOne 46 = .ok (.getfield 329, 3) := by decide +kernel
theorem dX12_layOne_49 : decode cX12_layOne 49 = .ok (.iload 5, 2) := by decide +kernel
theorem dX12_layOne_51 : decode cX12_layOne 51 = .ok (.iastore, 1) := by decide +kernel
theorem dX12_layOne_52 : decode cX12_layOne 52 = .ok (.aload_n 0, 1) := by decide +kernel
theorem dX12_layOne_53 : decode cX12_layOne 53 = .ok (.getfield 97, 3) := by decide +kernel
theorem dX12_layOne_56 : decode cX12_layOne 56 = .ok (.aload_n 0, 1) := by decide +kernel
theorem dX12_layOne_57 : decode cX12_layOne 57 = .ok (.getfield 329, 3) := by decide +kernel
theorem dX12_layOne_60 : decode cX12_layOne 60 = .ok (.iload 6, 2) := by decide +kernel
theorem dX12_layOne_62 : decode cX12_layOne 62 = .ok (.iastore, 1) := by decide +kernel
theorem dX12_layOne_63 : decode cX12_layOne 63 = .ok (.aload_n 0, 1) := by decide +kernel
theorem dX12_layOne_64 : decode cX12_layOne 64 = .ok (.dup, 1) := by decide +kernel
theorem dX12_layOne_65 : decode cX12_layOne 65 = .ok (.getfield 329, 3) := by decide +kernel
theorem dX12_layOne_68 : decode cX12_layOne 68 = .ok (.iconst 1, 1) := by decide +kernel
theorem dX12_layOne_69 : decode cX12_layOne 69 = .ok (.iadd, 1) := by decide +kernel
theorem dX12_layOne_70 : decode cX12_layOne 70 = .ok (.putfield 329, 3) := by decide +kernel
theorem dX12_layOne_73 : decode cX12_layOne 73 = .ok (.return_, 1) := by decide +kernel
abbrev rm_X12_layOne : Room := { frames := 0, cells := 0, slots := 0, locals := 0 }
def f_X12_layOne (x1 : Int32) (x2 : Int32) (x3 : Int32) (x4 : Int32) (x5 : Int32) (x6 : Int32) (σ : St) : Option St := grd (ib (σ.1 1036 0) 24) (grd (ib (σ.1 1036 0) 24) (grd (ib (σ.1 1036 0) 24) (grd (ib (σ.1 1036 0) 24) (grd (ib (σ.1 1036 0) 24) (grd (ib (σ.1 1036 0) 24) (some ((si (si (si (si (si (si (si σ 23 (σ.1 1036 0).toNatClampNeg x1) 24 (σ.1 1036 0).toNatClampNeg x2) 25 (σ.1 1036 0).toNatClampNeg x3) 26 (σ.1 1036 0).toNatClampNeg x4) 27 (σ.1 1036 0).toNatClampNeg x5) 28 (σ.1 1036 0).toNatClampNeg x6) 1036 0 ((σ.1 1036 0) + 1)))))))))
section
variable {p : Program} {l : Launch} {e : Env} {s : State} {m : MethodId} {args : Array Value} {below : List Frame} {meth : Method} {c : Code} {g : XG}
set_option maxRecDepth 4000 in
theorem m_X12_layOne (x1 : Int32) (x2 : Int32) (x3 : Int32) (x4 : Int32) (x5 : Int32) (x6 : Int32) (σ : St) {σ' : St} (h : f_X12_layOne x1 x2 x3 x4 x5 x6 σ = some σ') : xM l KM g yX12_layOne cX12_layOne 7 none rm_X12_layOne [.ref (g.q 0), .int x1, .int x2, .int x3, .int x4, .int x5, .int x6] σ none σ' := by
  refine xmet pn_X12 rfl (Nat.le_of_ble_eq_true rfl) (lv := [(0, .ref (g.q 0)), (1, .int x1), (2, .int x2), (3, .int x3), (4, .int x4), (5, .int x5), (6, .int x6)]) rfl (fun p e s m args below meth c ls C hW hl => ?_)
  have hx := C.1
  have hb := C.2.1
  unfold f_X12_layOne at h
  refine lv_aload_n hx hb dX12_layOne_0 rfl (lv_at hl 0 rfl) ?_
  refine xg_r C hW fg_12_82 KM_0 rfl dX12_layOne_1 ?_
  refine lv_aload_n hx hb dX12_layOne_4 rfl (lv_at hl 0 rfl) ?_
  refine xg_i C hW fg_12_329 KM_0 rfl (v := 1036) rfl (x := σ.1 1036 0) rfl dX12_layOne_5 ?_
  refine lv_iload_n hx hb dX12_layOne_8 rfl (lv_at hl 1 rfl) ?_
  obtain ⟨g1, h⟩ := xgd h
  refine xs_i C hW KM_23 g1 dX12_layOne_9 (fun H locs hW => ?_)
  refine lv_aload_n hx hb dX12_layOne_10 rfl (lv_at hl 0 rfl) ?_
  refine xg_r C hW fg_12_85 KM_0 rfl dX12_layOne_11 ?_
  refine lv_aload_n hx hb dX12_layOne_14 rfl (lv_at hl 0 rfl) ?_
  refine xg_i C hW fg_12_329 KM_0 rfl (v := 1036) rfl (x := σ.1 1036 0) rfl dX12_layOne_15 ?_
  refine lv_iload_n hx hb dX12_layOne_18 rfl (lv_at hl 2 rfl) ?_
  obtain ⟨g2, h⟩ := xgd h
  refine xs_i C hW KM_24 g2 dX12_layOne_19 (fun H locs hW => ?_)
  refine lv_aload_n hx hb dX12_layOne_20 rfl (lv_at hl 0 rfl) ?_
  refine xg_r C hW fg_12_88 KM_0 rfl dX12_layOne_21 ?_
  refine lv_aload_n hx hb dX12_layOne_24 rfl (lv_at hl 0 rfl) ?_
  refine xg_i C hW fg_12_329 KM_0 rfl (v := 1036) rfl (x := σ.1 1036 0) rfl dX12_layOne_25 ?_
  refine lv_iload_n hx hb dX12_layOne_28 rfl (lv_at hl 3 rfl) ?_
  obtain ⟨g3, h⟩ := xgd h
  refine xs_i C hW KM_25 g3 dX12_layOne_29 (fun H locs hW => ?_)
  refine lv_aload_n hx hb dX12_layOne_30 rfl (lv_at hl 0 rfl) ?_
  refine xg_r C hW fg_12_91 KM_0 rfl dX12_layOne_31 ?_
  refine lv_aload_n hx hb dX12_layOne_34 rfl (lv_at hl 0 rfl) ?_
  refine xg_i C hW fg_12_329 KM_0 rfl (v := 1036) rfl (x := σ.1 1036 0) rfl dX12_layOne_35 ?_
  refine lv_iload hx hb dX12_layOne_38 (lv_at hl 4 rfl) ?_
  obtain ⟨g4, h⟩ := xgd h
  refine xs_i C hW KM_26 g4 dX12_layOne_40 (fun H locs hW => ?_)
  refine lv_aload_n hx hb dX12_layOne_41 rfl (lv_at hl 0 rfl) ?_
  refine xg_r C hW fg_12_94 KM_0 rfl dX12_layOne_42 ?_
  refine lv_aload_n hx hb dX12_layOne_45 rfl (lv_at hl 0 rfl) ?_
  refine xg_i C hW fg_12_329 KM_0 rfl (v := 1036) rfl (x := σ.1 1036 0) rfl dX12_layOne_46 ?_
  refine lv_iload hx hb dX12_layOne_49 (lv_at hl 5 rfl) ?_
  obtain ⟨g5, h⟩ := xgd h
  refine xs_i C hW KM_27 g5 dX12_layOne_51 (fun H locs hW => ?_)
  refine lv_aload_n hx hb dX12_layOne_52 rfl (lv_at hl 0 rfl) ?_
  refine xg_r C hW fg_12_97 KM_0 rfl dX12_layOne_53 ?_
  refine lv_aload_n hx hb dX12_layOne_56 rfl (lv_at hl 0 rfl) ?_
  refine xg_i C hW fg_12_329 KM_0 rfl (v := 1036) rfl (x := σ.1 1036 0) rfl dX12_layOne_57 ?_
  refine lv_iload hx hb dX12_layOne_60 (lv_at hl 6 rfl) ?_
  obtain ⟨g6, h⟩ := xgd h
  refine xs_i C hW KM_28 g6 dX12_layOne_62 (fun H locs hW => ?_)
  refine lv_aload_n hx hb dX12_layOne_63 rfl (lv_at hl 0 rfl) ?_
  refine lv_dup hx hb dX12_layOne_64 rfl ?_
  refine xg_i C hW fg_12_329 KM_0 rfl (v := 1036) rfl (x := σ.1 1036 0) rfl dX12_layOne_65 ?_
  refine lv_iconst (v := 1) hx hb dX12_layOne_68 rfl ?_
  refine lv_iadd hx hb dX12_layOne_69 ?_
  refine xp_i C hW fp_12_329 KM_0 rfl (v := 1036) rfl rfl rfl dX12_layOne_70 (fun H locs hW => ?_)
  cases h
  exact xr_v C hW dX12_layOne_73
end
