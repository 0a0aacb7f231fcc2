theorem dX12_in_0 : decode cX12_in 0 = .ok (.iload_n 0, 1) := by decide +kernel
theorem dX12_in_1 : decode cX12_in 1 = .ok (.iload_n 1, 1) := by decide +kernel
theorem dX12_in_2 : decode cX12_in 2 = .ok (.if_icmp .lt 12, 3) := by decide +kernel
theorem dX12_in_5 : decode cX12_in 5 = .ok (.iload_n 0, 1) := by decide +kernel
theorem dX12_in_6 : decode cX12_in 6 = .ok (.iload_n 2, 1) := by decide +kernel
theorem dX12_in_7 : decode cX12_in 7 = .ok (.if_icmp .gt 7, 3) := by decide +kernel
theorem dX12_in_10 : decode cX12_in 10 = .ok (.iconst 1, 1) := by decide +kernel
theorem dX12_in_11 : decode cX12_in 11 = .ok (.goto 4, 3) := by decide +kernel
theorem dX12_in_14 : decode cX12_in 14 = .ok (.iconst 0, 1) := by decide +kernel
theorem dX12_in_15 : decode cX12_in 15 = .ok (.ireturn, 1) := by decide +kernel
abbrev rm_X12_in : Room := { frames := 0, cells := 0, slots := 0, locals := 0 }
def f_X12_in (x0 : Int32) (x1 : Int32) (x2 : Int32) (σ : St) : Int32 := (if x0 < x1 then 0 else (if x2 < x0 then 0 else 1))
section
variable {p : Program} {l : Launch} {e : Env} {s : State} {m : MethodId} {args : Array Value} {below : List Frame} {meth : Method} {c : Code} {g : XG}
set_option maxRecDepth 4000 in
theorem m_X12_in (x0 : Int32) (x1 : Int32) (x2 : Int32) (σ : St) {r : Int32} (h : f_X12_in x0 x1 x2 σ = r) : xM l KM g yX12_in cX12_in 3 (some .boolean) rm_X12_in [.int x0, .int x1, .int x2] σ (some (.int r)) σ := by
  refine xmet pn_X12 rfl (Nat.le_of_ble_eq_true rfl) (lv := [(0, .int x0), (1, .int x1), (2, .int x2)]) rfl (fun p e s m args below meth c ls C hW hl => ?_)
  have hx := C.1
  have hb := C.2.1
  unfold f_X12_in at h
  refine lv_iload_n hx hb dX12_in_0 rfl (lv_at hl 0 rfl) ?_
  refine lv_iload_n hx hb dX12_in_1 rfl (lv_at hl 1 rfl) ?_
  refine lv_icmp_lt (tgt := 14) hx hb dX12_in_2 (by decide) (fun c1 => ?_) (fun c1 => ?_)
  · have h := xit c1 h
    refine lv_iconst (v := 0) hx hb dX12_in_14 rfl ?_
    cases h
    exact xr_z C hW (by decide) dX12_in_15
  · have h := xif c1 h
    refine lv_iload_n hx hb dX12_in_5 rfl (lv_at hl 0 rfl) ?_
    refine lv_iload_n hx hb dX12_in_6 rfl (lv_at hl 2 rfl) ?_
    refine lv_icmp_gt (tgt := 14) hx hb dX12_in_7 (by decide) (fun c2 => ?_) (fun c2 => ?_)
    · have h := xit c2 h
      refine lv_iconst (v := 0) hx hb dX12_in_14 rfl ?_
      cases h
      exact xr_z C hW (by decide) dX12_in_15
    · have h := xif c2 h
      refine lv_iconst (v := 1) hx hb dX12_in_10 rfl ?_
      refine lv_goto (tgt := 15) hx hb dX12_in_11 (by decide) ?_
      cases h
      exact xr_z C hW (by decide) dX12_in_15
end
theorem dX12_greater_0 : decode cX12_greater 0 = .ok (.iload_n 0, 1) := by decide +kernel
theorem dX12_greater_1 : decode cX12_greater 1 = .ok (.iload_n 1, 1) := by decide +kernel
theorem dX12_greater_2 : decode cX12_greater 2 = .ok (.if_icmp .le 7, 3) := by decide +kernel
theorem dX12_greater_5 : decode cX12_greater 5 = .ok (.iload_n 0, 1) := by decide +kernel
theorem dX12_greater_6 : decode cX12_greater 6 = .ok (.goto 4, 3) := by decide +kernel
theorem dX12_greater_9 : decode cX12_greater 9 = .ok (.iload_n 1, 1) := by decide +kernel
theorem dX12_greater_10 : decode cX12_greater 10 = .ok (.ireturn, 1) := by decide +kernel
abbrev rm_X12_greater : Room := { frames := 0, cells := 0, slots := 0, locals := 0 }
def f_X12_greater (x0 : Int32) (x1 : Int32) (σ : St) : Int32 := (if x0 ≤ x1 then x1 else x0)
section
variable {p : Program} {l : Launch} {e : Env} {s : State} {m : MethodId} {args : Array Value} {below : List Frame} {meth : Method} {c : Code} {g : XG}
set_option maxRecDepth 4000 in
theorem m_X12_greater (x0 : Int32) (x1 : Int32) (σ : St) {r : Int32} (h : f_X12_greater x0 x1 σ = r) : xM l KM g yX12_greater cX12_greater 2 (some .int) rm_X12_greater [.int x0, .int x1] σ (some (.int r)) σ := by
  refine xmet pn_X12 rfl (Nat.le_of_ble_eq_true rfl) (lv := [(0, .int x0), (1, .int x1)]) rfl (fun p e s m args below meth c ls C hW hl => ?_)
  have hx := C.1
  have hb := C.2.1
  unfold f_X12_greater at h
  refine lv_iload_n hx hb dX12_greater_0 rfl (lv_at hl 0 rfl) ?_
  refine lv_iload_n hx hb dX12_greater_1 rfl (lv_at hl 1 rfl) ?_
  refine lv_icmp_le (tgt := 9) hx hb dX12_greater_2 (by decide) (fun c1 => ?_) (fun c1 => ?_)
  · have h := xit c1 h
    refine lv_iload_n hx hb dX12_greater_9 rfl (lv_at hl 1 rfl) ?_
    cases h
    exact xr_i C hW dX12_greater_10
  · have h := xif c1 h
    refine lv_iload_n hx hb dX12_greater_5 rfl (lv_at hl 0 rfl) ?_
    refine lv_goto (tgt := 10) hx hb dX12_greater_6 (by decide) ?_
    cases h
    exact xr_i C hW dX12_greater_10
end
theorem dX12_feed_0 : decode cX12_feed 0 = .ok (.aload_n 0, 1) := by decide +kernel
theorem dX12_feed_1 : decode cX12_feed 1 = .ok (.getfield 230, 3) := by decide +kernel
theorem dX12_feed_4 : decode cX12_feed 4 = .ok (.bipush 20, 2) := by decide +kernel
theorem dX12_feed_6 : decode cX12_feed 6 = .ok (.iadd, 1) := by decide +kernel
theorem dX12_feed_7 : decode cX12_feed 7 = .ok (.sipush 800, 3) := by decide +kernel
theorem dX12_feed_10 : decode cX12_feed 10 = .ok (.if_icmp .le 6, 3) := by decide +kernel
theorem dX12_feed_13 : decode cX12_feed 13 = .ok (.bipush (-3), 2) := by decide +kernel
theorem dX12_feed_15 : decode cX12_feed 15 = .ok (.ireturn, 1) := by decide +kernel
theorem dX12_feed_16 : decode cX12_feed 16 = .ok (.iconst 0, 1) := by decide +kernel
theorem dX12_feed_17 : decode cX12_feed 17 = .ok (.istore 6, 2) := by decide +kernel
theorem dX12_feed_19 : decode cX12_feed 19 = .ok (.iload 6, 2) := by decide +kernel
theorem dX12_feed_21 : decode cX12_feed 21 = .ok (.iconst 5, 1) := by decide +kernel
theorem dX12_feed_22 : decode cX12_feed 22 = .ok (.if_icmp .ge 93, 3) := by decide +kernel
theorem dX12_feed_25 : decode cX12_feed 25 = .ok (.iload 6, 2) := by decide +kernel
theorem dX12_feed_27 : decode cX12_feed 27 = .ok (.ifCond .ne 7, 3) := by decide +kernel
theorem dX12_feed_30 : decode cX12_feed 30 = .ok (.iload_n 1, 1) := by decide +kernel
theorem dX12_feed_31 : decode cX12_feed 31 = .ok (.goto 36, 3) := by decide +kernel
theorem dX12_feed_34 : decode cX12_feed 34 = .ok (.iload 6, 2) := by decide +kernel
theorem dX12_feed_36 : decode cX12_feed 36 = .ok (.iconst 1, 1) := by decide +kernel
theorem dX12_feed_37 : decode cX12_feed 37 = .ok (.if_icmp .ne 7, 3) := by decide +kernel
theorem dX12_feed_40 : decode cX12_feed 40 = .ok (.iload_n 2, 1) := by decide +kernel
theorem dX12_feed_41 : decode cX12_feed 41 = .ok (.goto 26, 3) := by decide +kernel
theorem dX12_feed_44 : decode cX12_feed 44 = .ok (.iload 6, 2) := by decide +kernel
theorem dX12_feed_46 : decode cX12_feed 46 = .ok (.iconst 2, 1) := by decide +kernel
theorem dX12_feed_47 : decode cX12_feed 47 = .ok (.if_icmp .ne 7, 3) := by decide +kernel
theorem dX12_feed_50 : decode cX12_feed 50 = .ok (.iload_n 3, 1) := by decide +kernel
theorem dX12_feed_51 : decode cX12_feed 51 = .ok (.goto 16, 3) := by decide +kernel
theorem dX12_feed_54 : decode cX12_feed 54 = .ok (.iload 6, 2) := by decide +kernel
theorem dX12_feed_56 : decode cX12_feed 56 = .ok (.iconst 3, 1) := by decide +kernel
theorem dX12_feed_57 : decode cX12_feed 57 = .ok (.if_icmp .ne 8, 3) := by decide +kernel
theorem dX12_feed_60 : decode cX12_feed 60 = .ok (.iload 4, 2) := by decide +kernel
theorem dX12_feed_62 : decode cX12_feed 62 = .ok (.goto 5, 3) := by decide +kernel
theorem dX12_feed_65 : decode cX12_feed 65 = .ok (.iload 5, 2) := by decide +kernel
theorem dX12_feed_67 : decode cX12_feed 67 = .ok (.istore 7, 2) := by decide +kernel
theorem dX12_feed_69 : decode cX12_feed 69 = .ok (.bipush 24, 2) := by decide +kernel
theorem dX12_feed_71 : decode cX12_feed 71 = .ok (.istore 8, 2) := by decide +kernel
theorem dX12_feed_73 : decode cX12_feed 73 = .ok (.iload 8, 2) := by decide +kernel
theorem dX12_feed_75 : decode cX12_feed 75 = .ok (.ifCond .lt 34, 3) := by decide +kernel
theorem dX12_feed_78 : decode cX12_feed 78 = .ok (.aload_n 0, 1) := by decide +kernel
theorem dX12_feed_79 : decode cX12_feed 79 = .ok (.getfield 7, 3) := by decide +kernel
theorem dX12_feed_82 : decode cX12_feed 82 = .ok (.aload_n 0, 1) := by decide +kernel
theorem dX12_feed_83 : decode cX12_feed 83 = .ok (.getfield 230, 3) := by decide +kernel
theorem dX12_feed_86 : decode cX12_feed 86 = .ok (.iload 7, 2) := by decide +kernel
theorem dX12_feed_88 : decode cX12_feed 88 = .ok (.iload 8, 2) := by decide +kernel
theorem dX12_feed_90 : decode cX12_feed 90 = .ok (.ishr, 1) := by decide +kernel
theorem dX12_feed_91 : decode cX12_feed 91 = .ok (.i2b, 1) := by decide +kernel
theorem dX12_feed_92 : decode cX12_feed 92 = .ok (.bastore, 1) := by decide +kernel
theorem dX12_feed_93 : decode cX12_feed 93 = .ok (.aload_n 0, 1) := by decide +kernel
theorem dX12_feed_94 : decode cX12_feed 94 = .ok (.dup, 1) := by decide +kernel
theorem dX12_feed_95 : decode cX12_feed 95 = .ok (.getfield 230, 3) := by decide +kernel
theorem dX12_feed_98 : decode cX12_feed 98 = .ok (.iconst 1, 1) := by decide +kernel
theorem dX12_feed_99 : decode cX12_feed 99 = .ok (.iadd, 1) := by decide +kernel
theorem dX12_feed_100 : decode cX12_feed 100 = .ok (.putfield 230, 3) := by decide +kernel
theorem dX12_feed_103 : decode cX12_feed 103 = .ok (.iinc 8 (-8), 3) := by decide +kernel
theorem dX12_feed_106 : decode cX12_feed 106 = .ok (.goto (-33), 3) := by decide +kernel
theorem dX12_feed_109 : decode cX12_feed 109 = .ok (.iinc 6 1, 3) := by decide +kernel
theorem dX12_feed_112 : decode cX12_feed 112 = .ok (.goto (-93), 3) := by decide +kernel
theorem dX12_feed_115 : decode cX12_feed 115 = .ok (.aload_n 0, 1) := by decide +kernel
theorem dX12_feed_116 : decode cX12_feed 116 = .ok (.getfield 230, 3) := by decide +kernel
theorem dX12_feed_119 : decode cX12_feed 119 = .ok (.ireturn, 1) := by decide +kernel
abbrev rm_X12_feed : Room := { frames := 0, cells := 0, slots := 0, locals := 0 }
def f_X12_feed_73 (N : Nat) (k19 : Int32 → Int32 → Int32 → Int32 → Int32 → Int32 → St → Option (Int32 × St)) : Nat → Int32 → Int32 → Int32 → Int32 → Int32 → Int32 → Int32 → Int32 → St → Option (Int32 × St)
  | 0, _, _, _, _, _, _, _, _, _ => none
  | n + 1, x1, x2, x3, x4, x5, x6, x7, x8, σ => (if x8 < 0 then k19 x1 x2 x3 x4 x5 (x6 + 1) σ else grd (ib (σ.1 1001 0) 800) (f_X12_feed_73 N k19 n x1 x2 x3 x4 x5 x6 x7 (x8 + (-8)) (si (si σ 1 (σ.1 1001 0).toNatClampNeg (((x7 >>> (x8 &&& 31)).toInt8.toInt32).toInt8.toInt32)) 1001 0 ((σ.1 1001 0) + 1))))
def f_X12_feed_19 (N : Nat) : Nat → Int32 → Int32 → Int32 → Int32 → Int32 → Int32 → St → Option (Int32 × St)
  | 0, _, _, _, _, _, _, _ => none
  | n + 1, x1, x2, x3, x4, x5, x6, σ => (if 5 ≤ x6 then some (σ.1 1001 0, σ) else (if x6 = 0 then f_X12_feed_73 N (f_X12_feed_19 N n) N x1 x2 x3 x4 x5 x6 x1 24 σ else (if x6 = 1 then f_X12_feed_73 N (f_X12_feed_19 N n) N x1 x2 x3 x4 x5 x6 x2 24 σ else (if x6 = 2 then f_X12_feed_73 N (f_X12_feed_19 N n) N x1 x2 x3 x4 x5 x6 x3 24 σ else (if x6 = 3 then f_X12_feed_73 N (f_X12_feed_19 N n) N x1 x2 x3 x4 x5 x6 x4 24 σ else f_X12_feed_73 N (f_X12_feed_19 N n) N x1 x2 x3 x4 x5 x6 x5 24 σ)))))
def f_X12_feed (N : Nat) (x1 : Int32) (x2 : Int32) (x3 : Int32) (x4 : Int32) (x5 : Int32) (σ : St) : Option (Int32 × St) := (if ((σ.1 1001 0) + 20) ≤ 800 then f_X12_feed_19 N N x1 x2 x3 x4 x5 0 σ else some ((-3), σ))
section
variable {p : Program} {l : Launch} {e : Env} {s : State} {m : MethodId} {args : Array Value} {below : List Frame} {meth : Method} {c : Code} {g : XG}
set_option maxRecDepth 4000 in
theorem w_X12_feed_73 (N : Nat) (k19 : Int32 → Int32 → Int32 → Int32 → Int32 → Int32 → St → Option (Int32 × St)) {r : Int32} {σ' : St} (C : xC KM g RX12 cX12_feed 9 (some .int) p s m args meth c) (hk19 : ∀ (x1 : Int32) (x2 : Int32) (x3 : Int32) (x4 : Int32) (x5 : Int32) (x6 : Int32) (σ : St) (H : Heap) (locs : List Loc) (ls : Array Slot), xW KM g s σ H locs → lv_has ls 9 [(0, .ref (g.q 0)), (1, .int x1), (2, .int x2), (3, .int x3), (4, .int x4), (5, .int x5), (6, .int x6)] → k19 x1 x2 x3 x4 x5 x6 σ = some (r, σ') → W p l e rm_X12_feed s m args below meth c H locs 0 0 (MQ below (xPost KM g (some (.int r)) σ') args s 0 0 (xA KM g.q)) (F0 m 19 ls [])) : ∀ (n : Nat), ∀ (x1 : Int32) (x2 : Int32) (x3 : Int32) (x4 : Int32) (x5 : Int32) (x6 : Int32) (x7 : Int32) (x8 : Int32) (σ : St) (H : Heap) (locs : List Loc) (ls : Array Slot), xW KM g s σ H locs → lv_has ls 9 [(0, .ref (g.q 0)), (1, .int x1), (2, .int x2), (3, .int x3), (4, .int x4), (5, .int x5), (6, .int x6), (7, .int x7), (8, .int x8)] → f_X12_feed_73 N k19 n x1 x2 x3 x4 x5 x6 x7 x8 σ = some (r, σ') → W p l e rm_X12_feed s m args below meth c H locs 0 0 (MQ below (xPost KM g (some (.int r)) σ') args s 0 0 (xA KM g.q)) (F0 m 73 ls []) := by
  have hx := C.1
  have hb := C.2.1
  intro n
  induction n with
  | zero => intro x1 x2 x3 x4 x5 x6 x7 x8 σ H locs ls hW hl h; rw [f_X12_feed_73] at h; cases h
  | succ n ih =>
    intro x1 x2 x3 x4 x5 x6 x7 x8 σ H locs ls hW hl h
    rw [f_X12_feed_73] at h
    refine lv_iload hx hb dX12_feed_73 (lv_at hl 8 rfl) ?_
    refine lv_if_lt (tgt := 109) hx hb dX12_feed_75 (by decide) (fun c7 => ?_) (fun c7 => ?_)
    · have h := xit c7 h
      refine lv_iinc (v := x6 + 1) (lv' := [(6, .int (x6 + 1)), (0, .ref (g.q 0)), (1, .int x1), (2, .int x2), (3, .int x3), (4, .int x4), (5, .int x5), (7, .int x7), (8, .int x8)]) hx hb dX12_feed_109 hl (k := 6) rfl rfl (Nat.le_of_ble_eq_true rfl) rfl (fun ls hl => ?_)
      refine lv_goto (tgt := 19) hx hb dX12_feed_112 (by decide) ?_
      exact hk19 x1 x2 x3 x4 x5 (x6 + 1) _ _ _ _ hW (lv_sub hl [1, 2, 3, 4, 5, 6, 0] rfl) h
    · have h := xif c7 h
      refine lv_aload_n hx hb dX12_feed_78 rfl (lv_at hl 0 rfl) ?_
      refine xg_r C hW fg_12_7 KM_0 rfl dX12_feed_79 ?_
      refine lv_aload_n hx hb dX12_feed_82 rfl (lv_at hl 0 rfl) ?_
      refine xg_i C hW fg_12_230 KM_0 rfl (v := 1001) rfl (x := σ.1 1001 0) rfl dX12_feed_83 ?_
      refine lv_iload hx hb dX12_feed_86 (lv_at hl 7 rfl) ?_
      refine lv_iload hx hb dX12_feed_88 (lv_at hl 8 rfl) ?_
      refine lv_ishr hx hb dX12_feed_90 ?_
      refine lv_i2b (v := (x7 >>> (x8 &&& 31)).toInt8.toInt32) hx hb dX12_feed_91 rfl ?_
      obtain ⟨g8, h⟩ := xgd h
      refine xs_b C hW KM_1 g8 dX12_feed_92 (fun H locs hW => ?_)
      refine lv_aload_n hx hb dX12_feed_93 rfl (lv_at hl 0 rfl) ?_
      refine lv_dup hx hb dX12_feed_94 rfl ?_
      refine xg_i C hW fg_12_230 KM_0 rfl (v := 1001) rfl (x := σ.1 1001 0) rfl dX12_feed_95 ?_
      refine lv_iconst (v := 1) hx hb dX12_feed_98 rfl ?_
      refine lv_iadd hx hb dX12_feed_99 ?_
      refine xp_i C hW fp_12_230 KM_0 rfl (v := 1001) rfl rfl rfl dX12_feed_100 (fun H locs hW => ?_)
      refine lv_iinc (v := x8 + (-8)) (lv' := [(8, .int (x8 + (-8))), (0, .ref (g.q 0)), (1, .int x1), (2, .int x2), (3, .int x3), (4, .int x4), (5, .int x5), (6, .int x6), (7, .int x7)]) hx hb dX12_feed_103 hl (k := 8) rfl rfl (Nat.le_of_ble_eq_true rfl) rfl (fun ls hl => ?_)
      refine lv_goto (tgt := 73) hx hb dX12_feed_106 (by decide) ?_
      exact ih x1 x2 x3 x4 x5 x6 x7 (x8 + (-8)) _ _ _ _ hW (lv_sub hl [1, 2, 3, 4, 5, 6, 7, 8, 0] rfl) h
set_option maxRecDepth 4000 in
theorem w_X12_feed_19 (N : Nat) {r : Int32} {σ' : St} (C : xC KM g RX12 cX12_feed 9 (some .int) p s m args meth c) : ∀ (n : Nat), ∀ (x1 : Int32) (x2 : Int32) (x3 : Int32) (x4 : Int32) (x5 : Int32) (x6 : Int32) (σ : St) (H : Heap) (locs : List Loc) (ls : Array Slot), xW KM g s σ H locs → lv_has ls 9 [(0, .ref (g.q 0)), (1, .int x1), (2, .int x2), (3, .int x3), (4, .int x4), (5, .int x5), (6, .int x6)] → f_X12_feed_19 N n x1 x2 x3 x4 x5 x6 σ = some (r, σ') → W p l e rm_X12_feed s m args below meth c H locs 0 0 (MQ below (xPost KM g (some (.int r)) σ') args s 0 0 (xA KM g.q)) (F0 m 19 ls []) := by
  have hx := C.1
  have hb := C.2.1
  intro n
  induction n with
  | zero => intro x1 x2 x3 x4 x5 x6 σ H locs ls hW hl h; rw [f_X12_feed_19] at h; cases h
  | succ n ih =>
    intro x1 x2 x3 x4 x5 x6 σ H locs ls hW hl h
    rw [f_X12_feed_19] at h
    refine lv_iload hx hb dX12_feed_19 (lv_at hl 6 rfl) ?_
    refine lv_iconst (v := 5) hx hb dX12_feed_21 rfl ?_
    refine lv_icmp_ge (tgt := 115) hx hb dX12_feed_22 (by decide) (fun c2 => ?_) (fun c2 => ?_)
    · have h := xit c2 h
      refine lv_aload_n hx hb dX12_feed_115 rfl (lv_at hl 0 rfl) ?_
      refine xg_i C hW fg_12_230 KM_0 rfl (v := 1001) rfl (x := σ.1 1001 0) rfl dX12_feed_116 ?_
      cases h
      exact xr_i C hW dX12_feed_119
    · have h := xif c2 h
      refine lv_iload hx hb dX12_feed_25 (lv_at hl 6 rfl) ?_
      refine lv_if_ne (tgt := 34) hx hb dX12_feed_27 (by decide) (fun c3 => ?_) (fun c3 => ?_)
      · have h := xif c3 h
        refine lv_iload hx hb dX12_feed_34 (lv_at hl 6 rfl) ?_
        refine lv_iconst (v := 1) hx hb dX12_feed_36 rfl ?_
        refine lv_icmp_ne (tgt := 44) hx hb dX12_feed_37 (by decide) (fun c4 => ?_) (fun c4 => ?_)
        · have h := xif c4 h
          refine lv_iload hx hb dX12_feed_44 (lv_at hl 6 rfl) ?_
          refine lv_iconst (v := 2) hx hb dX12_feed_46 rfl ?_
          refine lv_icmp_ne (tgt := 54) hx hb dX12_feed_47 (by decide) (fun c5 => ?_) (fun c5 => ?_)
          · have h := xif c5 h
            refine lv_iload hx hb dX12_feed_54 (lv_at hl 6 rfl) ?_
            refine lv_iconst (v := 3) hx hb dX12_feed_56 rfl ?_
            refine lv_icmp_ne (tgt := 65) hx hb dX12_feed_57 (by decide) (fun c6 => ?_) (fun c6 => ?_)
            · have h := xif c6 h
              refine lv_iload hx hb dX12_feed_65 (lv_at hl 5 rfl) ?_
              refine lv_istore (lv' := [(7, .int x5), (0, .ref (g.q 0)), (1, .int x1), (2, .int x2), (3, .int x3), (4, .int x4), (5, .int x5), (6, .int x6)]) hx hb dX12_feed_67 hl (Nat.le_of_ble_eq_true rfl) rfl (fun ls hl => ?_)
              refine lv_bipush (v := 24) hx hb dX12_feed_69 rfl ?_
              refine lv_istore (lv' := [(8, .int 24), (7, .int x5), (0, .ref (g.q 0)), (1, .int x1), (2, .int x2), (3, .int x3), (4, .int x4), (5, .int x5), (6, .int x6)]) hx hb dX12_feed_71 hl (Nat.le_of_ble_eq_true rfl) rfl (fun ls hl => ?_)
              exact w_X12_feed_73 N (f_X12_feed_19 N n) C ih N x1 x2 x3 x4 x5 x6 x5 24 _ _ _ _ hW (lv_sub hl [2, 3, 4, 5, 6, 7, 8, 1, 0] rfl) h
            · have h := xit c6 h
              refine lv_iload hx hb dX12_feed_60 (lv_at hl 4 rfl) ?_
              refine lv_goto (tgt := 67) hx hb dX12_feed_62 (by decide) ?_
              refine lv_istore (lv' := [(7, .int x4), (0, .ref (g.q 0)), (1, .int x1), (2, .int x2), (3, .int x3), (4, .int x4), (5, .int x5), (6, .int x6)]) hx hb dX12_feed_67 hl (Nat.le_of_ble_eq_true rfl) rfl (fun ls hl => ?_)
              refine lv_bipush (v := 24) hx hb dX12_feed_69 rfl ?_
              refine lv_istore (lv' := [(8, .int 24), (7, .int x4), (0, .ref (g.q 0)), (1, .int x1), (2, .int x2), (3, .int x3), (4, .int x4), (5, .int x5), (6, .int x6)]) hx hb dX12_feed_71 hl (Nat.le_of_ble_eq_true rfl) rfl (fun ls hl => ?_)
              exact w_X12_feed_73 N (f_X12_feed_19 N n) C ih N x1 x2 x3 x4 x5 x6 x4 24 _ _ _ _ hW (lv_sub hl [2, 3, 4, 5, 6, 7, 8, 1, 0] rfl) h
          · have h := xit c5 h
            refine lv_iload_n hx hb dX12_feed_50 rfl (lv_at hl 3 rfl) ?_
            refine lv_goto (tgt := 67) hx hb dX12_feed_51 (by decide) ?_
            refine lv_istore (lv' := [(7, .int x3), (0, .ref (g.q 0)), (1, .int x1), (2, .int x2), (3, .int x3), (4, .int x4), (5, .int x5), (6, .int x6)]) hx hb dX12_feed_67 hl (Nat.le_of_ble_eq_true rfl) rfl (fun ls hl => ?_)
            refine lv_bipush (v := 24) hx hb dX12_feed_69 rfl ?_
            refine lv_istore (lv' := [(8, .int 24), (7, .int x3), (0, .ref (g.q 0)), (1, .int x1), (2, .int x2), (3, .int x3), (4, .int x4), (5, .int x5), (6, .int x6)]) hx hb dX12_feed_71 hl (Nat.le_of_ble_eq_true rfl) rfl (fun ls hl => ?_)
            exact w_X12_feed_73 N (f_X12_feed_19 N n) C ih N x1 x2 x3 x4 x5 x6 x3 24 _ _ _ _ hW (lv_sub hl [2, 3, 4, 5, 6, 7, 8, 1, 0] rfl) h
        · have h := xit c4 h
          refine lv_iload_n hx hb dX12_feed_40 rfl (lv_at hl 2 rfl) ?_
          refine lv_goto (tgt := 67) hx hb dX12_feed_41 (by decide) ?_
          refine lv_istore (lv' := [(7, .int x2), (0, .ref (g.q 0)), (1, .int x1), (2, .int x2), (3, .int x3), (4, .int x4), (5, .int x5), (6, .int x6)]) hx hb dX12_feed_67 hl (Nat.le_of_ble_eq_true rfl) rfl (fun ls hl => ?_)
          refine lv_bipush (v := 24) hx hb dX12_feed_69 rfl ?_
          refine lv_istore (lv' := [(8, .int 24), (7, .int x2), (0, .ref (g.q 0)), (1, .int x1), (2, .int x2), (3, .int x3), (4, .int x4), (5, .int x5), (6, .int x6)]) hx hb dX12_feed_71 hl (Nat.le_of_ble_eq_true rfl) rfl (fun ls hl => ?_)
          exact w_X12_feed_73 N (f_X12_feed_19 N n) C ih N x1 x2 x3 x4 x5 x6 x2 24 _ _ _ _ hW (lv_sub hl [2, 3, 4, 5, 6, 7, 8, 1, 0] rfl) h
      · have h := xit c3 h
        refine lv_iload_n hx hb dX12_feed_30 rfl (lv_at hl 1 rfl) ?_
        refine lv_goto (tgt := 67) hx hb dX12_feed_31 (by decide) ?_
        refine lv_istore (lv' := [(7, .int x1), (0, .ref (g.q 0)), (1, .int x1), (2, .int x2), (3, .int x3), (4, .int x4), (5, .int x5), (6, .int x6)]) hx hb dX12_feed_67 hl (Nat.le_of_ble_eq_true rfl) rfl (fun ls hl => ?_)
        refine lv_bipush (v := 24) hx hb dX12_feed_69 rfl ?_
        refine lv_istore (lv' := [(8, .int 24), (7, .int x1), (0, .ref (g.q 0)), (1, .int x1), (2, .int x2), (3, .int x3), (4, .int x4), (5, .int x5), (6, .int x6)]) hx hb dX12_feed_71 hl (Nat.le_of_ble_eq_true rfl) rfl (fun ls hl => ?_)
        exact w_X12_feed_73 N (f_X12_feed_19 N n) C ih N x1 x2 x3 x4 x5 x6 x1 24 _ _ _ _ hW (lv_sub hl [2, 3, 4, 5, 6, 7, 8, 1, 0] rfl) h
set_option maxRecDepth 4000 in
theorem m_X12_feed (N : Nat) (x1 : Int32) (x2 : Int32) (x3 : Int32) (x4 : Int32) (x5 : Int32) (σ : St) {r : Int32} {σ' : St} (h : f_X12_feed N x1 x2 x3 x4 x5 σ = some (r, σ')) : xM l KM g yX12_feed cX12_feed 9 (some .int) rm_X12_feed [.ref (g.q 0), .int x1, .int x2, .int x3, .int x4, .int x5] σ (some (.int r)) σ' := by
  refine xmet pn_X12 rfl (Nat.le_of_ble_eq_true rfl) (lv := [(0, .ref (g.q 0)), (1, .int x1), (2, .int x2), (3, .int x3), (4, .int x4), (5, .int x5)]) rfl (fun p e s m args below meth c ls C hW hl => ?_)
  have hx := C.1
  have hb := C.2.1
  unfold f_X12_feed at h
  refine lv_aload_n hx hb dX12_feed_0 rfl (lv_at hl 0 rfl) ?_
  refine xg_i C hW fg_12_230 KM_0 rfl (v := 1001) rfl (x := σ.1 1001 0) rfl dX12_feed_1 ?_
  refine lv_bipush (v := 20) hx hb dX12_feed_4 rfl ?_
  refine lv_iadd hx hb dX12_feed_6 ?_
  refine lv_sipush (v := 800) hx hb dX12_feed_7 rfl ?_
  refine lv_icmp_le (tgt := 16) hx hb dX12_feed_10 (by decide) (fun c1 => ?_) (fun c1 => ?_)
  · have h := xit c1 h
    refine lv_iconst (v := 0) hx hb dX12_feed_16 rfl ?_
    refine lv_istore (lv' := [(6, .int 0), (0, .ref (g.q 0)), (1, .int x1), (2, .int x2), (3, .int x3), (4, .int x4), (5, .int x5)]) hx hb dX12_feed_17 hl (Nat.le_of_ble_eq_true rfl) rfl (fun ls hl => ?_)
    exact w_X12_feed_19 N C N x1 x2 x3 x4 x5 0 _ _ _ _ hW (lv_sub hl [1, 2, 3, 4, 5, 6, 0] rfl) h
  · have h := xif c1 h
    refine lv_bipush (v := (-3)) hx hb dX12_feed_13 rfl ?_
    cases h
    exact xr_i C hW dX12_feed_15
end
theorem dX12_end_0 : decode cX12_end 0 = .ok (.iload_n 1, 1) := by decide +kernel
theorem dX12_end_1 : decode cX12_end 1 = .ok (.ifCond .lt 11, 3) := by decide +kernel
theorem dX12_end_4 : decode cX12_end 4 = .ok (.iload_n 1, 1) := by decide +kernel
theorem dX12_end_5 : decode cX12_end 5 = .ok (.aload_n 0, 1) := by decide +kernel
theorem dX12_end_6 : decode cX12_end 6 = .ok (.getfield 230, 3) := by decide +kernel
theorem dX12_end_9 : decode cX12_end 9 = .ok (.if_icmp .le 5, 3) := by decide +kernel
theorem dX12_end_12 : decode cX12_end 12 = .ok (.iconst (-1), 1) := by decide +kernel
theorem dX12_end_13 : decode cX12_end 13 = .ok (.ireturn, 1) := by decide +kernel
theorem dX12_end_14 : decode cX12_end 14 = .ok (.aload_n 0, 1) := by decide +kernel
theorem dX12_end_15 : decode cX12_end 15 = .ok (.iload_n 1, 1) := by decide +kernel
theorem dX12_end_16 : decode cX12_end 16 = .ok (.putfield 230, 3) := by decide +kernel
theorem dX12_end_19 : decode cX12_end 19 = .ok (.iload_n 1, 1) := by decide +kernel
theorem dX12_end_20 : decode cX12_end 20 = .ok (.ireturn, 1) := by decide +kernel
abbrev rm_X12_end : Room := { frames := 0, cells := 0, slots := 0, locals := 0 }
def f_X12_end (x1 : Int32) (σ : St) : Option (Int32 × St) := (if x1 < 0 then some ((-1), σ) else (if x1 ≤ (σ.1 1001 0) then some (x1, (si σ 1001 0 x1)) else some ((-1), σ)))
section
variable {p : Program} {l : Launch} {e : Env} {s : State} {m : MethodId} {args : Array Value} {below : List Frame} {meth : Method} {c : Code} {g : XG}
set_option maxRecDepth 4000 in
theorem m_X12_end (x1 : Int32) (σ : St) {r : Int32} {σ' : St} (h : f_X12_end x1 σ = some (r, σ')) : xM l KM g yX12_end cX12_end 2 (some .int) rm_X12_end [.ref (g.q 0), .int x1] σ (some (.int r)) σ' := by
  refine xmet pn_X12 rfl (Nat.le_of_ble_eq_true rfl) (lv := [(0, .ref (g.q 0)), (1, .int x1)]) rfl (fun p e s m args below meth c ls C hW hl => ?_)
  have hx := C.1
  have hb := C.2.1
  unfold f_X12_end at h
  refine lv_iload_n hx hb dX12_end_0 rfl (lv_at hl 1 rfl) ?_
  refine lv_if_lt (tgt := 12) hx hb dX12_end_1 (by decide) (fun c1 => ?_) (fun c1 => ?_)
  · have h := xit c1 h
    refine lv_iconst (v := (-1)) hx hb dX12_end_12 rfl ?_
    cases h
    exact xr_i C hW dX12_end_13
  · have h := xif c1 h
    refine lv_iload_n hx hb dX12_end_4 rfl (lv_at hl 1 rfl) ?_
    refine lv_aload_n hx hb dX12_end_5 rfl (lv_at hl 0 rfl) ?_
    refine xg_i C hW fg_12_230 KM_0 rfl (v := 1001) rfl (x := σ.1 1001 0) rfl dX12_end_6 ?_
    refine lv_icmp_le (tgt := 14) hx hb dX12_end_9 (by decide) (fun c2 => ?_) (fun c2 => ?_)
    · have h := xit c2 h
      refine lv_aload_n hx hb dX12_end_14 rfl (lv_at hl 0 rfl) ?_
      refine lv_iload_n hx hb dX12_end_15 rfl (lv_at hl 1 rfl) ?_
      refine xp_i C hW fp_12_230 KM_0 rfl (v := 1001) rfl rfl rfl dX12_end_16 (fun H locs hW => ?_)
      refine lv_iload_n hx hb dX12_end_19 rfl (lv_at hl 1 rfl) ?_
      cases h
      exact xr_i C hW dX12_end_20
    · have h := xif c2 h
      refine lv_iconst (v := (-1)) hx hb dX12_end_12 rfl ?_
      cases h
      exact xr_i C hW dX12_end_13
end
theorem dX12_isDigit_0 : decode cX12_isDigit 0 = .ok (.iload_n 0, 1) := by decide +kernel
theorem dX12_isDigit_1 : decode cX12_isDigit 1 = .ok (.bipush 48, 2) := by decide +kernel
theorem dX12_isDigit_3 : decode cX12_isDigit 3 = .ok (.if_icmp .lt 13, 3) := by decide +kernel
theorem dX12_isDigit_6 : decode cX12_isDigit 6 = .ok (.iload_n 0, 1) := by decide +kernel
theorem dX12_isDigit_7 : decode cX12_isDigit 7 = .ok (.bipush 57, 2) := by decide +kernel
theorem dX12_isDigit_9 : decode cX12_isDigit 9 = .ok (.if_icmp .gt 7, 3) := by decide +kernel
theorem dX12_isDigit_12 : decode cX12_isDigit 12 = .ok (.iconst 1, 1) := by decide +kernel
theorem dX12_isDigit_13 : decode cX12_isDigit 13 = .ok (.goto 4, 3) := by decide +kernel
theorem dX12_isDigit_16 : decode cX12_isDigit 16 = .ok (.iconst 0, 1) := by decide +kernel
theorem dX12_isDigit_17 : decode cX12_isDigit 17 = .ok (.ireturn, 1) := by decide +kernel
abbrev rm_X12_isDigit : Room := { frames := 0, cells := 0, slots := 0, locals := 0 }
def f_X12_isDigit (x0 : Int32) (σ : St) : Int32 := (if x0 < 48 then 0 else (if 57 < x0 then 0 else 1))
section
variable {p : Program} {l : Launch} {e : Env} {s : State} {m : MethodId} {args : Array Value} {below : List Frame} {meth : Method} {c : Code} {g : XG}
set_option maxRecDepth 4000 in
theorem m_X12_isDigit (x0 : Int32) (σ : St) {r : Int32} (h : f_X12_isDigit x0 σ = r) : xM l KM g yX12_isDigit cX12_isDigit 1 (some .boolean) rm_X12_isDigit [.int x0] σ (some (.int r)) σ := by
  refine xmet pn_X12 rfl (Nat.le_of_ble_eq_true rfl) (lv := [(0, .int x0)]) rfl (fun p e s m args below meth c ls C hW hl => ?_)
  have hx := C.1
  have hb := C.2.1
  unfold f_X12_isDigit at h
  refine lv_iload_n hx hb dX12_isDigit_0 rfl (lv_at hl 0 rfl) ?_
  refine lv_bipush (v := 48) hx hb dX12_isDigit_1 rfl ?_
  refine lv_icmp_lt (tgt := 16) hx hb dX12_isDigit_3 (by decide) (fun c1 => ?_) (fun c1 => ?_)
  · have h := xit c1 h
    refine lv_iconst (v := 0) hx hb dX12_isDigit_16 rfl ?_
    cases h
    exact xr_z C hW (by decide) dX12_isDigit_17
  · have h := xif c1 h
    refine lv_iload_n hx hb dX12_isDigit_6 rfl (lv_at hl 0 rfl) ?_
    refine lv_bipush (v := 57) hx hb dX12_isDigit_7 rfl ?_
    refine lv_icmp_gt (tgt := 16) hx hb dX12_isDigit_9 (by decide) (fun c2 => ?_) (fun c2 => ?_)
    · have h := xit c2 h
      refine lv_iconst (v := 0) hx hb dX12_isDigit_16 rfl ?_
      cases h
      exact xr_z C hW (by decide) dX12_isDigit_17
    · have h := xif c2 h
      refine lv_iconst (v := 1) hx hb dX12_isDigit_12 rfl ?_
      refine lv_goto (tgt := 17) hx hb dX12_isDigit_13 (by decide) ?_
      cases h
      exact xr_z C hW (by decide) dX12_isDigit_17
end
theorem dX12_isSmall_0 : decode cX12_isSmall 0 = .ok (.iload_n 0, 1) := by decide +kernel
theorem dX12_isSmall_1 : decode cX12_isSmall 1 = .ok (.bipush 97, 2) := by decide +kernel
theorem dX12_isSmall_3 : decode cX12_isSmall 3 = .ok (.if_icmp .lt 13, 3) := by decide +kernel
theorem dX12_isSmall_6 : decode cX12_isSmall 6 = .ok (.iload_n 0, 1) := by decide +kernel
theorem dX12_isSmall_7 : decode cX12_isSmall 7 = .ok (.bipush 122, 2) := by decide +kernel
theorem dX12_isSmall_9 : decode cX12_isSmall 9 = .ok (.if_icmp .gt 7, 3) := by decide +kernel
theorem dX12_isSmall_12 : decode cX12_isSmall 12 = .ok (.iconst 1, 1) := by decide +kernel
theorem dX12_isSmall_13 : decode cX12_isSmall 13 = .ok (.goto 4, 3) := by decide +kernel
theorem dX12_isSmall_16 : decode cX12_isSmall 16 = .ok (.iconst 0, 1) := by decide +kernel
theorem dX12_isSmall_17 : decode cX12_isSmall 17 = .ok (.ireturn, 1) := by decide +kernel
abbrev rm_X12_isSmall : Room := { frames := 0, cells := 0, slots := 0, locals := 0 }
def f_X12_isSmall (x0 : Int32) (σ : St) : Int32 := (if x0 < 97 then 0 else (if 122 < x0 then 0 else 1))
section
variable {p : Program} {l : Launch} {e : Env} {s : State} {m : MethodId} {args : Array Value} {below : List Frame} {meth : Method} {c : Code} {g : XG}
set_option maxRecDepth 4000 in
theorem m_X12_isSmall (x0 : Int32) (σ : St) {r : Int32} (h : f_X12_isSmall x0 σ = r) : xM l KM g yX12_isSmall cX12_isSmall 1 (some .boolean) rm_X12_isSmall [.int x0] σ (some (.int r)) σ := by
  refine xmet pn_X12 rfl (Nat.le_of_ble_eq_true rfl) (lv := [(0, .int x0)]) rfl (fun p e s m args below meth c ls C hW hl => ?_)
  have hx := C.1
  have hb := C.2.1
  unfold f_X12_isSmall at h
  refine lv_iload_n hx hb dX12_isSmall_0 rfl (lv_at hl 0 rfl) ?_
  refine lv_bipush (v := 97) hx hb dX12_isSmall_1 rfl ?_
  refine lv_icmp_lt (tgt := 16) hx hb dX12_isSmall_3 (by decide) (fun c1 => ?_) (fun c1 => ?_)
  · have h := xit c1 h
    refine lv_iconst (v := 0) hx hb dX12_isSmall_16 rfl ?_
    cases h
    exact xr_z C hW (by decide) dX12_isSmall_17
  · have h := xif c1 h
    refine lv_iload_n hx hb dX12_isSmall_6 rfl (lv_at hl 0 rfl) ?_
    refine lv_bipush (v := 122) hx hb dX12_isSmall_7 rfl ?_
    refine lv_icmp_gt (tgt := 16) hx hb dX12_isSmall_9 (by decide) (fun c2 => ?_) (fun c2 => ?_)
    · have h := xit c2 h
      refine lv_iconst (v := 0) hx hb dX12_isSmall_16 rfl ?_
      cases h
      exact xr_z C hW (by decide) dX12_isSmall_17
    · have h := xif c2 h
      refine lv_iconst (v := 1) hx hb dX12_isSmall_12 rfl ?_
      refine lv_goto (tgt := 17) hx hb dX12_isSmall_13 (by decide) ?_
      cases h
      exact xr_z C hW (by decide) dX12_isSmall_17
end
theorem dX12_see_0 : decode cX12_see 0 = .ok (.iload_n 1, 1) := by decide +kernel
theorem dX12_see_1 : decode cX12_see 1 = .ok (.aload_n 0, 1) := by decide +kernel
theorem dX12_see_2 : decode cX12_see 2 = .ok (.getfield 233, 3) := by decide +kernel
theorem dX12_see_5 : decode cX12_see 5 = .ok (.if_icmp .ge 16, 3) := by decide +kernel
theorem dX12_see_8 : decode cX12_see 8 = .ok (.aload_n 0, 1) := by decide +kernel
theorem dX12_see_9 : decode cX12_see 9 = .ok (.getfield 7, 3) := by decide +kernel
theorem dX12_see_12 : decode cX12_see 12 = .ok (.iload_n 1, 1) := by decide +kernel
theorem dX12_see_13 : decode cX12_see 13 = .ok (.baload, 1) := by decide +kernel
theorem dX12_see_14 : decode cX12_see 14 = .ok (.sipush 255, 3) := by decide +kernel
theorem dX12_see_17 : decode cX12_see 17 = .ok (.iand, 1) := by decide +kernel
theorem dX12_see_18 : decode cX12_see 18 = .ok (.goto 4, 3) := by decide +kernel
theorem dX12_see_21 : decode cX12_see 21 = .ok (.iconst (-1), 1) := by decide +kernel
theorem dX12_see_22 : decode cX12_see 22 = .ok (.ireturn, 1) := by decide +kernel
abbrev rm_X12_see : Room := { frames := 0, cells := 0, slots := 0, locals := 0 }
def f_X12_see (x1 : Int32) (σ : St) : Option Int32 := (if (σ.1 1002 0) ≤ x1 then some ((-1)) else grd (ib x1 800) (some ((σ.1 1 x1.toNatClampNeg) &&& 255)))
section
variable {p : Program} {l : Launch} {e : Env} {s : State} {m : MethodId} {args : Array Value} {below : List Frame} {meth : Method} {c : Code} {g : XG}
set_option maxRecDepth 4000 in
theorem m_X12_see (x1 : Int32) (σ : St) {r : Int32} (h : f_X12_see x1 σ = some r) : xM l KM g yX12_see cX12_see 2 (some .int) rm_X12_see [.ref (g.q 0), .int x1] σ (some (.int r)) σ := by
  refine xmet pn_X12 rfl (Nat.le_of_ble_eq_true rfl) (lv := [(0, .ref (g.q 0)), (1, .int x1)]) rfl (fun p e s m args below meth c ls C hW hl => ?_)
  have hx := C.1
  have hb := C.2.1
  unfold f_X12_see at h
  refine lv_iload_n hx hb dX12_see_0 rfl (lv_at hl 1 rfl) ?_
  refine lv_aload_n hx hb dX12_see_1 rfl (lv_at hl 0 rfl) ?_
  refine xg_i C hW fg_12_233 KM_0 rfl (v := 1002) rfl (x := σ.1 1002 0) rfl dX12_see_2 ?_
  refine lv_icmp_ge (tgt := 21) hx hb dX12_see_5 (by decide) (fun c1 => ?_) (fun c1 => ?_)
  · have h := xit c1 h
    refine lv_iconst (v := (-1)) hx hb dX12_see_21 rfl ?_
    cases h
    exact xr_i C hW dX12_see_22
  · have h := xif c1 h
    refine lv_aload_n hx hb dX12_see_8 rfl (lv_at hl 0 rfl) ?_
    refine xg_r C hW fg_12_7 KM_0 rfl dX12_see_9 ?_
    refine lv_iload_n hx hb dX12_see_12 rfl (lv_at hl 1 rfl) ?_
    obtain ⟨g2, h⟩ := xgd h
    refine xa_b C hW KM_1 g2 (x := σ.1 1 x1.toNatClampNeg) rfl dX12_see_13 ?_
    refine lv_sipush (v := 255) hx hb dX12_see_14 rfl ?_
    refine lv_iand hx hb dX12_see_17 ?_
    refine lv_goto (tgt := 22) hx hb dX12_see_18 (by decide) ?_
    cases h
    exact xr_i C hW dX12_see_22
end
theorem dX12_keyAt_0 : decode cX12_keyAt 0 = .ok (.iconst 0, 1) := by decide +kernel
theorem dX12_keyAt_1 : decode cX12_keyAt 1 = .ok (.istore_n 3, 1) := by decide +kernel
theorem dX12_keyAt_2 : decode cX12_keyAt 2 = .ok (.iconst 0, 1) := by decide +kernel
theorem dX12_keyAt_3 : decode cX12_keyAt 3 = .ok (.istore 4, 2) := by decide +kernel
theorem dX12_keyAt_5 : decode cX12_keyAt 5 = .ok (.iconst 0, 1) := by decide +kernel
theorem dX12_keyAt_6 : decode cX12_keyAt 6 = .ok (.istore 5, 2) := by decide +kernel
theorem dX12_keyAt_8 : decode cX12_keyAt 8 = .ok (.iload 5, 2) := by decide +kernel
theorem dX12_keyAt_10 : decode cX12_keyAt 10 = .ok (.ldc 242, 2) := by decide +kernel
theorem dX12_keyAt_12 : decode cX12_keyAt 12 = .ok (.invokevirtual 244, 3) := by decide +kernel
theorem dX12_keyAt_15 : decode cX12_keyAt 15 = .ok (.if_icmp .ge 104, 3) := by decide +kernel
theorem dX12_keyAt_18 : decode cX12_keyAt 18 = .ok (.ldc 242, 2) := by decide +kernel
theorem dX12_keyAt_20 : decode cX12_keyAt 20 = .ok (.iload 5, 2) := by decide +kernel
theorem dX12_keyAt_22 : decode cX12_keyAt 22 = .ok (.invokevirtual 250, 3) := by decide +kernel
theorem dX12_keyAt_25 : decode cX12_keyAt 25 = .ok (.bipush 32, 2) := by decide +kernel
theorem dX12_keyAt_27 : decode cX12_keyAt 27 = .ok (.if_icmp .eq 6, 3) := by decide +kernel
theorem dX12_keyAt_30 : decode cX12_keyAt 30 = .ok (.goto 83, 3) := by decide +kernel
theorem dX12_keyAt_33 : decode cX12_keyAt 33 = .ok (.iload 5, 2) := by decide +kernel
theorem dX12_keyAt_35 : decode cX12_keyAt 35 = .ok (.iload 4, 2) := by decide +kernel
theorem dX12_keyAt_37 : decode cX12_keyAt 37 = .ok (.isub, 1) := by decide +kernel
theorem dX12_keyAt_38 : decode cX12_keyAt 38 = .ok (.iload_n 2, 1) := by decide +kernel
theorem dX12_keyAt_39 : decode cX12_keyAt 39 = .ok (.if_icmp .ne 7, 3) := by decide +kernel
theorem dX12_keyAt_42 : decode cX12_keyAt 42 = .ok (.iconst 1, 1) := by decide +kernel
theorem dX12_keyAt_43 : decode cX12_keyAt 43 = .ok (.goto 4, 3) := by decide +kernel
theorem dX12_keyAt_46 : decode cX12_keyAt 46 = .ok (.iconst 0, 1) := by decide +kernel
theorem dX12_keyAt_47 : decode cX12_keyAt 47 = .ok (.istore 6, 2) := by decide +kernel
theorem dX12_keyAt_49 : decode cX12_keyAt 49 = .ok (.iconst 0, 1) := by decide +kernel
theorem dX12_keyAt_50 : decode cX12_keyAt 50 = .ok (.istore 7, 2) := by decide +kernel
theorem dX12_keyAt_52 : decode cX12_keyAt 52 = .ok (.iload 7, 2) := by decide +kernel
theorem dX12_keyAt_54 : decode cX12_keyAt 54 = .ok (.iload_n 2, 1) := by decide +kernel
theorem dX12_keyAt_55 : decode cX12_keyAt 55 = .ok (.if_icmp .ge 42, 3) := by decide +kernel
theorem dX12_keyAt_58 : decode cX12_keyAt 58 = .ok (.iload 6, 2) := by decide +kernel
theorem dX12_keyAt_60 : decode cX12_keyAt 60 = .ok (.ifCond .eq 37, 3) := by decide +kernel
theorem dX12_keyAt_63 : decode cX12_keyAt 63 = .ok (.ldc 242, 2) := by decide +kernel
theorem dX12_keyAt_65 : decode cX12_keyAt 65 = .ok (.iload 4, 2) := by decide +kernel
theorem dX12_keyAt_67 : decode cX12_keyAt 67 = .ok (.iload 7, 2) := by decide +kernel
theorem dX12_keyAt_69 : decode cX12_keyAt 69 = .ok (.iadd, 1) := by decide +kernel
theorem dX12_keyAt_70 : decode cX12_keyAt 70 = .ok (.invokevirtual 250, 3) := by decide +kernel
theorem dX12_keyAt_73 : decode cX12_keyAt 73 = .ok (.aload_n 0, 1) := by decide +kernel
theorem dX12_keyAt_74 : decode cX12_keyAt 74 = .ok (.iload_n 1, 1) := by decide +kernel
theorem dX12_keyAt_75 : decode cX12_keyAt 75 = .ok (.iload 7, 2) := by decide +kernel
theorem dX12_keyAt_77 : decode cX12_keyAt 77 = .ok (.iadd, 1) := by decide +kernel
theorem dX12_keyAt_78 : decode cX12_keyAt 78 = .ok (.invokevirtual 254, 3) := by decide +kernel
theorem dX12_keyAt_81 : decode cX12_keyAt 81 = .ok (.if_icmp .ne 7, 3) := by decide +kernel
theorem dX12_keyAt_84 : decode cX12_keyAt 84 = .ok (.iconst 1, 1) := by decide +kernel
theorem dX12_keyAt_85 : decode cX12_keyAt 85 = .ok (.goto 4, 3) := by decide +kernel
theorem dX12_keyAt_88 : decode cX12_keyAt 88 = .ok (.iconst 0, 1) := by decide +kernel
theorem dX12_keyAt_89 : decode cX12_keyAt 89 = .ok (.istore 6, 2) := by decide +kernel
theorem dX12_keyAt_91 : decode cX12_keyAt 91 = .ok (.iinc 7 1, 3) := by decide +kernel
theorem dX12_keyAt_94 : decode cX12_keyAt 94 = .ok (.goto (-42), 3) := by decide +kernel
theorem dX12_keyAt_97 : decode cX12_keyAt 97 = .ok (.iload 6, 2) := by decide +kernel
theorem dX12_keyAt_99 : decode cX12_keyAt 99 = .ok (.ifCond .eq 5, 3) := by decide +kernel
theorem dX12_keyAt_102 : decode cX12_keyAt 102 = .ok (.iload_n 3, 1) := by decide +kernel
theorem dX12_keyAt_103 : decode cX12_keyAt 103 = .ok (.ireturn, 1) := by decide +kernel
theorem dX12_keyAt_104 : decode cX12_keyAt 104 = .ok (.iinc 3 1, 3) := by decide +kernel
theorem dX12_keyAt_107 : decode cX12_keyAt 107 = .ok (.iload 5, 2) := by decide +kernel
theorem dX12_keyAt_109 : decode cX12_keyAt 109 = .ok (.iconst 1, 1) := by decide +kernel
theorem dX12_keyAt_110 : decode cX12_keyAt 110 = .ok (.iadd, 1) := by decide +kernel
theorem dX12_keyAt_111 : decode cX12_keyAt 111 = .ok (.istore 4, 2) := by decide +kernel
theorem dX12_keyAt_113 : decode cX12_keyAt 113 = .ok (.iinc 5 1, 3) := by decide +kernel
theorem dX12_keyAt_116 : decode cX12_keyAt 116 = .ok (.goto (-108), 3) := by decide +kernel
theorem dX12_keyAt_119 : decode cX12_keyAt 119 = .ok (.iconst (-1), 1) := by decide +kernel
theorem dX12_keyAt_120 : decode cX12_keyAt 120 = .ok (.ireturn, 1) := by decide +kernel
abbrev rm_X12_keyAt : Room := { frames := 4, cells := 0, slots := 0, locals := 120 }
def f_X12_keyAt_97 (N : Nat) (k8 : Int32 → Int32 → Int32 → Int32 → Int32 → St → Option Int32) (x1 : Int32) (x2 : Int32) (x3 : Int32) (x5 : Int32) (x6 : Int32) (σ : St) : Option Int32 := (if x6 = 0 then k8 x1 x2 (x3 + 1) (x5 + 1) (x5 + 1) σ else some x3)
def f_X12_keyAt_52 (N : Nat) (k8 : Int32 → Int32 → Int32 → Int32 → Int32 → St → Option Int32) : Nat → Int32 → Int32 → Int32 → Int32 → Int32 → Int32 → Int32 → St → Option Int32
  | 0, _, _, _, _, _, _, _, _ => none
  | n + 1, x1, x2, x3, x4, x5, x6, x7, σ => (if x2 ≤ x7 then f_X12_keyAt_97 N k8 x1 x2 x3 x5 x6 σ else (if x6 = 0 then f_X12_keyAt_97 N k8 x1 x2 x3 x5 x6 σ else grd (ib (x4 + x7) (xtl.getD 8 0)) (bo (f_X12_see (x1 + x7) σ) (fun r8_ => (if ((xtb.getD 8 []).getD (x4 + x7).toNatClampNeg 0) = r8_ then f_X12_keyAt_52 N k8 n x1 x2 x3 x4 x5 1 (x7 + 1) σ else f_X12_keyAt_52 N k8 n x1 x2 x3 x4 x5 0 (x7 + 1) σ)))))
def f_X12_keyAt_8 (N : Nat) : Nat → Int32 → Int32 → Int32 → Int32 → Int32 → St → Option Int32
  | 0, _, _, _, _, _, _ => none
  | n + 1, x1, x2, x3, x4, x5, σ => (if (nI (xtl.getD 8 0)) ≤ x5 then some ((-1)) else grd (ib x5 (xtl.getD 8 0)) ((if ((xtb.getD 8 []).getD x5.toNatClampNeg 0) = 32 then (if (x5 - x4) = x2 then f_X12_keyAt_52 N (f_X12_keyAt_8 N n) N x1 x2 x3 x4 x5 1 0 σ else f_X12_keyAt_52 N (f_X12_keyAt_8 N n) N x1 x2 x3 x4 x5 0 0 σ) else f_X12_keyAt_8 N n x1 x2 x3 x4 (x5 + 1) σ)))
def f_X12_keyAt (N : Nat) (x1 : Int32) (x2 : Int32) (σ : St) : Option Int32 := f_X12_keyAt_8 N N x1 x2 0 0 0 σ
section
variable {p : Program} {l : Launch} {e : Env} {s : State} {m : MethodId} {args : Array Value} {below : List Frame} {meth : Method} {c : Code} {g : XG}
set_option maxRecDepth 4000 in
theorem w_X12_keyAt_97 (N : Nat) (k8 : Int32 → Int32 → Int32 → Int32 → Int32 → St → Option Int32) (σ : St) {r : Int32} (C : xC KM g RX12 cX12_keyAt 8 (some .int) p s m args meth c) (hk8 : ∀ (x1 : Int32) (x2 : Int32) (x3 : Int32) (x4 : Int32) (x5 : Int32) (H : Heap) (locs : List Loc) (ls : Array Slot), xW KM g s σ H locs → lv_has ls 8 [(0, .ref (g.q 0)), (1, .int x1), (2, .int x2), (3, .int x3), (4, .int x4), (5, .int x5)] → k8 x1 x2 x3 x4 x5 σ = some r → W p l e rm_X12_keyAt s m args below meth c H locs 0 0 (MQ below (xPost KM g (some (.int r)) σ) args s 0 0 (xA KM g.q)) (F0 m 8 ls [])) : ∀ (x1 : Int32) (x2 : Int32) (x3 : Int32) (x5 : Int32) (x6 : Int32) (H : Heap) (locs : List Loc) (ls : Array Slot), xW KM g s σ H locs → lv_has ls 8 [(0, .ref (g.q 0)), (1, .int x1), (2, .int x2), (3, .int x3), (5, .int x5), (6, .int x6)] → f_X12_keyAt_97 N k8 x1 x2 x3 x5 x6 σ = some r → W p l e rm_X12_keyAt s m args below meth c H locs 0 0 (MQ below (xPost KM g (some (.int r)) σ) args s 0 0 (xA KM g.q)) (F0 m 97 ls []) := by
  have hx := C.1
  have hb := C.2.1
  intro x1 x2 x3 x5 x6 H locs ls hW hl h
  unfold f_X12_keyAt_97 at h
  refine lv_iload hx hb dX12_keyAt_97 (lv_at hl 5 rfl) ?_
  refine lv_if_eq (tgt := 104) hx hb dX12_keyAt_99 (by decide) (fun c10 => ?_) (fun c10 => ?_)
  · have h := xit c10 h
    refine lv_iinc (v := x3 + 1) (lv' := [(3, .int (x3 + 1)), (0, .ref (g.q 0)), (1, .int x1), (2, .int x2), (5, .int x5), (6, .int x6)]) hx hb dX12_keyAt_104 hl (k := 3) rfl rfl (Nat.le_of_ble_eq_true rfl) rfl (fun ls hl => ?_)
    refine lv_iload hx hb dX12_keyAt_107 (lv_at hl 4 rfl) ?_
    refine lv_iconst (v := 1) hx hb dX12_keyAt_109 rfl ?_
    refine lv_iadd hx hb dX12_keyAt_110 ?_
    refine lv_istore (lv' := [(4, .int (x5 + 1)), (3, .int (x3 + 1)), (0, .ref (g.q 0)), (1, .int x1), (2, .int x2), (5, .int x5), (6, .int x6)]) hx hb dX12_keyAt_111 hl (Nat.le_of_ble_eq_true rfl) rfl (fun ls hl => ?_)
    refine lv_iinc (v := x5 + 1) (lv' := [(5, .int (x5 + 1)), (4, .int (x5 + 1)), (3, .int (x3 + 1)), (0, .ref (g.q 0)), (1, .int x1), (2, .int x2), (6, .int x6)]) hx hb dX12_keyAt_113 hl (k := 5) rfl rfl (Nat.le_of_ble_eq_true rfl) rfl (fun ls hl => ?_)
    refine lv_goto (tgt := 8) hx hb dX12_keyAt_116 (by decide) ?_
    exact hk8 x1 x2 (x3 + 1) (x5 + 1) (x5 + 1) _ _ _ hW (lv_sub hl [3, 4, 5, 2, 1, 0] rfl) h
  · have h := xif c10 h
    refine lv_iload_n hx hb dX12_keyAt_102 rfl (lv_at hl 3 rfl) ?_
    cases h
    exact xr_i C hW dX12_keyAt_103
set_option maxRecDepth 4000 in
theorem w_X12_keyAt_52 (N : Nat) (k8 : Int32 → Int32 → Int32 → Int32 → Int32 → St → Option Int32) (σ : St) {r : Int32} (C : xC KM g RX12 cX12_keyAt 8 (some .int) p s m args meth c) (hk8 : ∀ (x1 : Int32) (x2 : Int32) (x3 : Int32) (x4 : Int32) (x5 : Int32) (H : Heap) (locs : List Loc) (ls : Array Slot), xW KM g s σ H locs → lv_has ls 8 [(0, .ref (g.q 0)), (1, .int x1), (2, .int x2), (3, .int x3), (4, .int x4), (5, .int x5)] → k8 x1 x2 x3 x4 x5 σ = some r → W p l e rm_X12_keyAt s m args below meth c H locs 0 0 (MQ below (xPost KM g (some (.int r)) σ) args s 0 0 (xA KM g.q)) (F0 m 8 ls [])) : ∀ (n : Nat), ∀ (x1 : Int32) (x2 : Int32) (x3 : Int32) (x4 : Int32) (x5 : Int32) (x6 : Int32) (x7 : Int32) (H : Heap) (locs : List Loc) (ls : Array Slot), xW KM g s σ H locs → lv_has ls 8 [(0, .ref (g.q 0)), (1, .int x1), (2, .int x2), (3, .int x3), (4, .int x4), (5, .int x5), (6, .int x6), (7, .int x7)] → f_X12_keyAt_52 N k8 n x1 x2 x3 x4 x5 x6 x7 σ = some r → W p l e rm_X12_keyAt s m args below meth c H locs 0 0 (MQ below (xPost KM g (some (.int r)) σ) args s 0 0 (xA KM g.q)) (F0 m 52 ls []) := by
  have hx := C.1
  have hb := C.2.1
  intro n
  induction n with
  | zero => intro x1 x2 x3 x4 x5 x6 x7 H locs ls hW hl h; rw [f_X12_keyAt_52] at h; cases h
  | succ n ih =>
    intro x1 x2 x3 x4 x5 x6 x7 H locs ls hW hl h
    rw [f_X12_keyAt_52] at h
    refine lv_iload hx hb dX12_keyAt_52 (lv_at hl 7 rfl) ?_
    refine lv_iload_n hx hb dX12_keyAt_54 rfl (lv_at hl 2 rfl) ?_
    refine lv_icmp_ge (tgt := 97) hx hb dX12_keyAt_55 (by decide) (fun c5 => ?_) (fun c5 => ?_)
    · have h := xit c5 h
      exact w_X12_keyAt_97 N k8 σ C hk8 x1 x2 x3 x5 x6 _ _ _ hW (lv_sub hl [0, 1, 2, 3, 5, 6] rfl) h
    · have h := xif c5 h
      refine lv_iload hx hb dX12_keyAt_58 (lv_at hl 6 rfl) ?_
      refine lv_if_eq (tgt := 97) hx hb dX12_keyAt_60 (by decide) (fun c6 => ?_) (fun c6 => ?_)
      · have h := xit c6 h
        exact w_X12_keyAt_97 N k8 σ C hk8 x1 x2 x3 x5 x6 _ _ _ hW (lv_sub hl [0, 1, 2, 3, 5, 6] rfl) h
      · have h := xif c6 h
        refine xx_s (i := 8) C rfl dX12_keyAt_63 ?_
        refine lv_iload hx hb dX12_keyAt_65 (lv_at hl 4 rfl) ?_
        refine lv_iload hx hb dX12_keyAt_67 (lv_at hl 7 rfl) ?_
        refine lv_iadd hx hb dX12_keyAt_69 ?_
        obtain ⟨g7, h⟩ := xgd h
        refine xs_cha C hW (by decide) g7 ml_X12_250 (Nat.le_of_ble_eq_true rfl) (Nat.le_of_ble_eq_true rfl) hl.1 (Nat.le_of_ble_eq_true rfl) dX12_keyAt_70 (fun H locs hW => ?_)
        refine lv_aload_n hx hb dX12_keyAt_73 rfl (lv_at hl 0 rfl) ?_
        refine lv_iload_n hx hb dX12_keyAt_74 rfl (lv_at hl 1 rfl) ?_
        refine lv_iload hx hb dX12_keyAt_75 (lv_at hl 7 rfl) ?_
        refine lv_iadd hx hb dX12_keyAt_77 ?_
        obtain ⟨r8_, e8, h⟩ := xbo h
        refine xc_V (As := [.int (x1 + x7)]) (rest := [.int ((xtb.getD 8 []).getD (x4 + x7).toNatClampNeg 0)]) C hW (m_X12_see (x1 + x7) _ e8) mf_X12_see mv_X12_see ml_X12_254 ⟨rfl, rfl⟩ ⟨Nat.le_of_ble_eq_true rfl, Nat.le_of_ble_eq_true rfl⟩ KM_0 rfl hl.1 rfl rfl (Nat.le_of_ble_eq_true rfl) dX12_keyAt_78 (fun H locs hW => W.eq (g2 := F0 m 81 ls [.int r8_, .int ((xtb.getD 8 []).getD (x4 + x7).toNatClampNeg 0)]) rfl ?_)
        refine lv_icmp_ne (tgt := 88) hx hb dX12_keyAt_81 (by decide) (fun c9 => ?_) (fun c9 => ?_)
        · have h := xif c9 h
          refine lv_iconst (v := 0) hx hb dX12_keyAt_88 rfl ?_
          refine lv_istore (lv' := [(6, .int 0), (0, .ref (g.q 0)), (1, .int x1), (2, .int x2), (3, .int x3), (4, .int x4), (5, .int x5), (7, .int x7)]) hx hb dX12_keyAt_89 hl (Nat.le_of_ble_eq_true rfl) rfl (fun ls hl => ?_)
          refine lv_iinc (v := x7 + 1) (lv' := [(7, .int (x7 + 1)), (6, .int 0), (0, .ref (g.q 0)), (1, .int x1), (2, .int x2), (3, .int x3), (4, .int x4), (5, .int x5)]) hx hb dX12_keyAt_91 hl (k := 7) rfl rfl (Nat.le_of_ble_eq_true rfl) rfl (fun ls hl => ?_)
          refine lv_goto (tgt := 52) hx hb dX12_keyAt_94 (by decide) ?_
          exact ih x1 x2 x3 x4 x5 0 (x7 + 1) _ _ _ hW (lv_sub hl [2, 3, 4, 5, 6, 7, 1, 0] rfl) h
        · have h := xit c9 h
          refine lv_iconst (v := 1) hx hb dX12_keyAt_84 rfl ?_
          refine lv_goto (tgt := 89) hx hb dX12_keyAt_85 (by decide) ?_
          refine lv_istore (lv' := [(6, .int 1), (0, .ref (g.q 0)), (1, .int x1), (2, .int x2), (3, .int x3), (4, .int x4), (5, .int x5), (7, .int x7)]) hx hb dX12_keyAt_89 hl (Nat.le_of_ble_eq_true rfl) rfl (fun ls hl => ?_)
          refine lv_iinc (v := x7 + 1) (lv' := [(7, .int (x7 + 1)), (6, .int 1), (0, .ref (g.q 0)), (1, .int x1), (2, .int x2), (3, .int x3), (4, .int x4), (5, .int x5)]) hx hb dX12_keyAt_91 hl (k := 7) rfl rfl (Nat.le_of_ble_eq_true rfl) rfl (fun ls hl => ?_)
          refine lv_goto (tgt := 52) hx hb dX12_keyAt_94 (by decide) ?_
          exact ih x1 x2 x3 x4 x5 1 (x7 + 1) _ _ _ hW (lv_sub hl [2, 3, 4, 5, 6, 7, 1, 0] rfl) h
set_option maxRecDepth 4000 in
theorem w_X12_keyAt_8 (N : Nat) (σ : St) {r : Int32} (C : xC KM g RX12 cX12_keyAt 8 (some .int) p s m args meth c) : ∀ (n : Nat), ∀ (x1 : Int32) (x2 : Int32) (x3 : Int32) (x4 : Int32) (x5 : Int32) (H : Heap) (locs : List Loc) (ls : Array Slot), xW KM g s σ H locs → lv_has ls 8 [(0, .ref (g.q 0)), (1, .int x1), (2, .int x2), (3, .int x3), (4, .int x4), (5, .int x5)] → f_X12_keyAt_8 N n x1 x2 x3 x4 x5 σ = some r → W p l e rm_X12_keyAt s m args below meth c H locs 0 0 (MQ below (xPost KM g (some (.int r)) σ) args s 0 0 (xA KM g.q)) (F0 m 8 ls []) := by
  have hx := C.1
  have hb := C.2.1
  intro n
  induction n with
  | zero => intro x1 x2 x3 x4 x5 H locs ls hW hl h; rw [f_X12_keyAt_8] at h; cases h
  | succ n ih =>
    intro x1 x2 x3 x4 x5 H locs ls hW hl h
    rw [f_X12_keyAt_8] at h
    refine lv_iload hx hb dX12_keyAt_8 (lv_at hl 5 rfl) ?_
    refine xx_s (i := 8) C rfl dX12_keyAt_10 ?_
    refine xs_len C hW (by decide) ml_X12_244 (Nat.le_of_ble_eq_true rfl) (Nat.le_of_ble_eq_true rfl) hl.1 (Nat.le_of_ble_eq_true rfl) dX12_keyAt_12 (fun H locs hW => ?_)
    refine lv_icmp_ge (tgt := 119) hx hb dX12_keyAt_15 (by decide) (fun c1 => ?_) (fun c1 => ?_)
    · have h := xit c1 h
      refine lv_iconst (v := (-1)) hx hb dX12_keyAt_119 rfl ?_
      cases h
      exact xr_i C hW dX12_keyAt_120
    · have h := xif c1 h
      refine xx_s (i := 8) C rfl dX12_keyAt_18 ?_
      refine lv_iload hx hb dX12_keyAt_20 (lv_at hl 5 rfl) ?_
      obtain ⟨g2, h⟩ := xgd h
      refine xs_cha C hW (by decide) g2 ml_X12_250 (Nat.le_of_ble_eq_true rfl) (Nat.le_of_ble_eq_true rfl) hl.1 (Nat.le_of_ble_eq_true rfl) dX12_keyAt_22 (fun H locs hW => ?_)
      refine lv_bipush (v := 32) hx hb dX12_keyAt_25 rfl ?_
      refine lv_icmp_eq (tgt := 33) hx hb dX12_keyAt_27 (by decide) (fun c3 => ?_) (fun c3 => ?_)
      · have h := xit c3 h
        refine lv_iload hx hb dX12_keyAt_33 (lv_at hl 5 rfl) ?_
        refine lv_iload hx hb dX12_keyAt_35 (lv_at hl 4 rfl) ?_
        refine lv_isub hx hb dX12_keyAt_37 ?_
        refine lv_iload_n hx hb dX12_keyAt_38 rfl (lv_at hl 2 rfl) ?_
        refine lv_icmp_ne (tgt := 46) hx hb dX12_keyAt_39 (by decide) (fun c4 => ?_) (fun c4 => ?_)
        · have h := xif c4 h
          refine lv_iconst (v := 0) hx hb dX12_keyAt_46 rfl ?_
          refine lv_istore (lv' := [(6, .int 0), (0, .ref (g.q 0)), (1, .int x1), (2, .int x2), (3, .int x3), (4, .int x4), (5, .int x5)]) hx hb dX12_keyAt_47 hl (Nat.le_of_ble_eq_true rfl) rfl (fun ls hl => ?_)
          refine lv_iconst (v := 0) hx hb dX12_keyAt_49 rfl ?_
          refine lv_istore (lv' := [(7, .int 0), (6, .int 0), (0, .ref (g.q 0)), (1, .int x1), (2, .int x2), (3, .int x3), (4, .int x4), (5, .int x5)]) hx hb dX12_keyAt_50 hl (Nat.le_of_ble_eq_true rfl) rfl (fun ls hl => ?_)
          exact w_X12_keyAt_52 N (f_X12_keyAt_8 N n) σ C ih N x1 x2 x3 x4 x5 0 0 _ _ _ hW (lv_sub hl [2, 3, 4, 5, 6, 7, 1, 0] rfl) h
        · have h := xit c4 h
          refine lv_iconst (v := 1) hx hb dX12_keyAt_42 rfl ?_
          refine lv_goto (tgt := 47) hx hb dX12_keyAt_43 (by decide) ?_
          refine lv_istore (lv' := [(6, .int 1), (0, .ref (g.q 0)), (1, .int x1), (2, .int x2), (3, .int x3), (4, .int x4), (5, .int x5)]) hx hb dX12_keyAt_47 hl (Nat.le_of_ble_eq_true rfl) rfl (fun ls hl => ?_)
          refine lv_iconst (v := 0) hx hb dX12_keyAt_49 rfl ?_
          refine lv_istore (lv' := [(7, .int 0), (6, .int 1), (0, .ref (g.q 0)), (1, .int x1), (2, .int x2), (3, .int x3), (4, .int x4), (5, .int x5)]) hx hb dX12_keyAt_50 hl (Nat.le_of_ble_eq_true rfl) rfl (fun ls hl => ?_)
          exact w_X12_keyAt_52 N (f_X12_keyAt_8 N n) σ C ih N x1 x2 x3 x4 x5 1 0 _ _ _ hW (lv_sub hl [2, 3, 4, 5, 6, 7, 1, 0] rfl) h
      · have h := xif c3 h
        refine lv_goto (tgt := 113) hx hb dX12_keyAt_30 (by decide) ?_
        refine lv_iinc (v := x5 + 1) (lv' := [(5, .int (x5 + 1)), (0, .ref (g.q 0)), (1, .int x1), (2, .int x2), (3, .int x3), (4, .int x4)]) hx hb dX12_keyAt_113 hl (k := 5) rfl rfl (Nat.le_of_ble_eq_true rfl) rfl (fun ls hl => ?_)
        refine lv_goto (tgt := 8) hx hb dX12_keyAt_116 (by decide) ?_
        exact ih x1 x2 x3 x4 (x5 + 1) _ _ _ hW (lv_sub hl [1, 2, 3, 4, 5, 0] rfl) h
set_option maxRecDepth 4000 in
theorem m_X12_keyAt (N : Nat) (x1 : Int32) (x2 : Int32) (σ : St) {r : Int32} (h : f_X12_keyAt N x1 x2 σ = some r) : xM l KM g yX12_keyAt cX12_keyAt 8 (some .int) rm_X12_keyAt [.ref (g.q 0), .int x1, .int x2] σ (some (.int r)) σ := by
  refine xmet pn_X12 rfl (Nat.le_of_ble_eq_true rfl) (lv := [(0, .ref (g.q 0)), (1, .int x1), (2, .int x2)]) rfl (fun p e s m args below meth c ls C hW hl => ?_)
  have hx := C.1
  have hb := C.2.1
  unfold f_X12_keyAt at h
  refine lv_iconst (v := 0) hx hb dX12_keyAt_0 rfl ?_
  refine lv_istore_n (lv' := [(3, .int 0), (0, .ref (g.q 0)), (1, .int x1), (2, .int x2)]) hx hb dX12_keyAt_1 rfl hl (Nat.le_of_ble_eq_true rfl) rfl (fun ls hl => ?_)
  refine lv_iconst (v := 0) hx hb dX12_keyAt_2 rfl ?_
  refine lv_istore (lv' := [(4, .int 0), (3, .int 0), (0, .ref (g.q 0)), (1, .int x1), (2, .int x2)]) hx hb dX12_keyAt_3 hl (Nat.le_of_ble_eq_true rfl) rfl (fun ls hl => ?_)
  refine lv_iconst (v := 0) hx hb dX12_keyAt_5 rfl ?_
  refine lv_istore (lv' := [(5, .int 0), (4, .int 0), (3, .int 0), (0, .ref (g.q 0)), (1, .int x1), (2, .int x2)]) hx hb dX12_keyAt_6 hl (Nat.le_of_ble_eq_true rfl) rfl (fun ls hl => ?_)
  exact w_X12_keyAt_8 N σ C N x1 x2 0 0 0 _ _ _ hW (lv_sub hl [3, 4, 5, 2, 1, 0] rfl) h
end
