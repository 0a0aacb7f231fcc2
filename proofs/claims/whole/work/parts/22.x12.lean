theorem dX6_take_0 : decode cX6_take 0 = .ok (.aload_n 0, 1) := by decide +kernel
theorem dX6_take_1 : decode cX6_take 1 = .ok (.iconst 0, 1) := by decide +kernel
theorem dX6_take_2 : decode cX6_take 2 = .ok (.putfield 46, 3) := by decide +kernel
theorem dX6_take_5 : decode cX6_take 5 = .ok (.aload_n 0, 1) := by decide +kernel
theorem dX6_take_6 : decode cX6_take 6 = .ok (.iconst 0, 1) := by decide +kernel
theorem dX6_take_7 : decode cX6_take 7 = .ok (.putfield 54, 3) := by decide +kernel
theorem dX6_take_10 : decode cX6_take 10 = .ok (.getstatic 37, 3) := by decide +kernel
theorem dX6_take_13 : decode cX6_take 13 = .ok (.iconst 0, 1) := by decide +kernel
theorem dX6_take_14 : decode cX6_take 14 = .ok (.aload_n 0, 1) := by decide +kernel
theorem dX6_take_15 : decode cX6_take 15 = .ok (.getfield 34, 3) := by decide +kernel
theorem dX6_take_18 : decode cX6_take 18 = .ok (.iconst 0, 1) := by decide +kernel
theorem dX6_take_19 : decode cX6_take 19 = .ok (.iconst 4, 1) := by decide +kernel
theorem dX6_take_20 : decode cX6_take 20 = .ok (.invokestatic 40, 3) := by decide +kernel
theorem dX6_take_23 : decode cX6_take 23 = .ok (.iconst 0, 1) := by decide +kernel
theorem dX6_take_24 : decode cX6_take 24 = .ok (.istore_n 2, 1) := by decide +kernel
theorem dX6_take_25 : decode cX6_take 25 = .ok (.iload_n 2, 1) := by decide +kernel
theorem dX6_take_26 : decode cX6_take 26 = .ok (.sipush 800, 3) := by decide +kernel
theorem dX6_take_29 : decode cX6_take 29 = .ok (.if_icmp .gt 51, 3) := by decide +kernel
theorem dX6_take_32 : decode cX6_take 32 = .ok (.aload_n 1, 1) := by decide +kernel
theorem dX6_take_33 : decode cX6_take 33 = .ok (.invokevirtual 59, 3) := by decide +kernel
theorem dX6_take_36 : decode cX6_take 36 = .ok (.aload_n 1, 1) := by decide +kernel
theorem dX6_take_37 : decode cX6_take 37 = .ok (.getfield 62, 3) := by decide +kernel
theorem dX6_take_40 : decode cX6_take 40 = .ok (.ifCond .ne 5, 3) := by decide +kernel
theorem dX6_take_43 : decode cX6_take 43 = .ok (.iload_n 2, 1) := by decide +kernel
theorem dX6_take_44 : decode cX6_take 44 = .ok (.ireturn, 1) := by decide +kernel
theorem dX6_take_45 : decode cX6_take 45 = .ok (.aload_n 1, 1) := by decide +kernel
theorem dX6_take_46 : decode cX6_take 46 = .ok (.ldc 65, 2) := by decide +kernel
theorem dX6_take_48 : decode cX6_take 48 = .ok (.invokevirtual 67, 3) := by decide +kernel
theorem dX6_take_51 : decode cX6_take 51 = .ok (.ifCond .eq 11, 3) := by decide +kernel
theorem dX6_take_54 : decode cX6_take 54 = .ok (.aload_n 0, 1) := by decide +kernel
theorem dX6_take_55 : decode cX6_take 55 = .ok (.aload_n 1, 1) := by decide +kernel
theorem dX6_take_56 : decode cX6_take 56 = .ok (.invokevirtual 71, 3) := by decide +kernel
theorem dX6_take_59 : decode cX6_take 59 = .ok (.goto 8, 3) := by decide +kernel
theorem dX6_take_62 : decode cX6_take 62 = .ok (.aload_n 0, 1) := by decide +kernel
theorem dX6_take_63 : decode cX6_take 63 = .ok (.aload_n 1, 1) := by decide +kernel
theorem dX6_take_64 : decode cX6_take 64 = .ok (.invokevirtual 75, 3) := by decide +kernel
theorem dX6_take_67 : decode cX6_take 67 = .ok (.istore_n 3, 1) := by decide +kernel
theorem dX6_take_68 : decode cX6_take 68 = .ok (.iload_n 3, 1) := by decide +kernel
theorem dX6_take_69 : decode cX6_take 69 = .ok (.ifCond .ne 5, 3) := by decide +kernel
theorem dX6_take_72 : decode cX6_take 72 = .ok (.iconst (-1), 1) := by decide +kernel
theorem dX6_take_73 : decode cX6_take 73 = .ok (.ireturn, 1) := by decide +kernel
theorem dX6_take_74 : decode cX6_take 74 = .ok (.iinc 2 1, 3) := by decide +kernel
theorem dX6_take_77 : decode cX6_take 77 = .ok (.goto (-52), 3) := by decide +kernel
theorem dX6_take_80 : decode cX6_take 80 = .ok (.iconst (-1), 1) := by decide +kernel
theorem dX6_take_81 : decode cX6_take 81 = .ok (.ireturn, 1) := by decide +kernel
abbrev rm_X6_take : Room := { frames := 7, cells := 0, slots := 0, locals := 186 }
def f_X6_take_67 (o : Nat) (N : Nat) (k25 : Int32 → St → Option (Int32 × St)) (x2 : Int32) (t0 : Int32) (σ : St) : Option (Int32 × St) := (if t0 = 0 then some ((-1), σ) else k25 (x2 + 1) σ)
def f_X6_take_25 (o : Nat) (N : Nat) : Nat → Int32 → St → Option (Int32 × St)
  | 0, _, _ => none
  | n + 1, x2, σ => (if 800 < x2 then some ((-1), σ) else bo (f_X8_next N σ) (fun σ3 => (if (σ3.1 4803 0) = 0 then some (x2, σ3) else bo (f_X8_isWord 0 N σ3) (fun r5_ => (if r5_ = 0 then bd (f_X6_takeRule o N σ3) (fun r7_ σ7 => f_X6_take_67 o N (f_X6_take_25 o N n) x2 r7_ σ7) else bd (f_X6_takeSign o N σ3) (fun r8_ σ8 => f_X6_take_67 o N (f_X6_take_25 o N n) x2 r8_ σ8))))))
def f_X6_take (o : Nat) (N : Nat) (σ : St) : Option (Int32 × St) := grd (cpb 0 0 4 4 4) (f_X6_take_25 o N N 0 (sr (si (si σ (1000 + 200 * o + 0) 0 0) (1000 + 200 * o + 9) 0 0) (8 * o + 8 - 6) (va_cpy (fun j => st_0.getD j 0) ((si (si σ (1000 + 200 * o + 0) 0 0) (1000 + 200 * o + 9) 0 0).1 (8 * o + 8 - 6)) 0 0 4)))
section
variable {p : Program} {l : Launch} {e : Env} {s : State} {m : MethodId} {args : Array Value} {below : List Frame} {meth : Method} {c : Code} {g : XG}
set_option maxRecDepth 4000 in
theorem w_X6_take_67 (o : Nat) (ho : o = 1 ∨ o = 2) (N : Nat) (k25 : Int32 → St → Option (Int32 × St)) {r : Int32} {σ' : St} (C : xC KX g RX6 cX6_take 4 (some .int) p s m args meth c) (hk25 : ∀ (x2 : Int32) (σ : St) (H : Heap) (locs : List Loc) (ls : Array Slot), xW KX g s σ H locs → lv_has ls 4 [(0, .ref (g.q o)), (1, .ref (g.q 19)), (2, .int x2)] → k25 x2 σ = some (r, σ') → W p l e rm_X6_take s m args below meth c H locs 0 0 (MQ below (xPost KX g (some (.int r)) σ') args s 0 0 (xA KX g.q)) (F0 m 25 ls [])) : ∀ (x2 : Int32) (t0 : Int32) (σ : St) (H : Heap) (locs : List Loc) (ls : Array Slot), xW KX g s σ H locs → lv_has ls 4 [(0, .ref (g.q o)), (1, .ref (g.q 19)), (2, .int x2)] → f_X6_take_67 o N k25 x2 t0 σ = some (r, σ') → W p l e rm_X6_take s m args below meth c H locs 0 0 (MQ below (xPost KX g (some (.int r)) σ') args s 0 0 (xA KX g.q)) (F0 m 67 ls [.int t0]) := by
  have hx := C.1
  have hb := C.2.1
  intro x2 t0 σ H locs ls hW hl h
  unfold f_X6_take_67 at h
  refine lv_istore_n (lv' := [(3, .int t0), (0, .ref (g.q o)), (1, .ref (g.q 19)), (2, .int x2)]) hx hb dX6_take_67 rfl hl (Nat.le_of_ble_eq_true rfl) rfl (fun ls hl => ?_)
  refine lv_iload_n hx hb dX6_take_68 rfl (lv_at hl 0 rfl) ?_
  refine lv_if_ne (tgt := 74) hx hb dX6_take_69 (by decide) (fun c9 => ?_) (fun c9 => ?_)
  · have h := xif c9 h
    refine lv_iinc (v := x2 + 1) (lv' := [(2, .int (x2 + 1)), (3, .int t0), (0, .ref (g.q o)), (1, .ref (g.q 19))]) hx hb dX6_take_74 hl (k := 3) rfl rfl (Nat.le_of_ble_eq_true rfl) rfl (fun ls hl => ?_)
    refine lv_goto (tgt := 25) hx hb dX6_take_77 (by decide) ?_
    exact hk25 (x2 + 1) _ _ _ _ hW (lv_sub hl [2, 3, 0] rfl) h
  · have h := xit c9 h
    refine lv_iconst (v := (-1)) hx hb dX6_take_72 rfl ?_
    cases h
    exact xr_i C hW dX6_take_73
set_option maxRecDepth 4000 in
theorem w_X6_take_25 (o : Nat) (ho : o = 1 ∨ o = 2) (N : Nat) {r : Int32} {σ' : St} (C : xC KX g RX6 cX6_take 4 (some .int) p s m args meth c) : ∀ (n : Nat), ∀ (x2 : Int32) (σ : St) (H : Heap) (locs : List Loc) (ls : Array Slot), xW KX g s σ H locs → lv_has ls 4 [(0, .ref (g.q o)), (1, .ref (g.q 19)), (2, .int x2)] → f_X6_take_25 o N n x2 σ = some (r, σ') → W p l e rm_X6_take s m args below meth c H locs 0 0 (MQ below (xPost KX g (some (.int r)) σ') args s 0 0 (xA KX g.q)) (F0 m 25 ls []) := by
  have hx := C.1
  have hb := C.2.1
  intro n
  induction n with
  | zero => intro x2 σ H locs ls hW hl h; rw [f_X6_take_25] at h; cases h
  | succ n ih =>
    intro x2 σ H locs ls hW hl h
    rw [f_X6_take_25] at h
    refine lv_iload_n hx hb dX6_take_25 rfl (lv_at hl 2 rfl) ?_
    refine lv_sipush (v := 800) hx hb dX6_take_26 rfl ?_
    refine lv_icmp_gt (tgt := 80) hx hb dX6_take_29 (by decide) (fun c2 => ?_) (fun c2 => ?_)
    · have h := xit c2 h
      refine lv_iconst (v := (-1)) hx hb dX6_take_80 rfl ?_
      cases h
      exact xr_i C hW dX6_take_81
    · have h := xif c2 h
      refine lv_aload_n hx hb dX6_take_32 rfl (lv_at hl 1 rfl) ?_
      obtain ⟨σ3, e3, h⟩ := xbo h
      refine xc_V (As := []) (rest := []) C hW (m_X8_next N _ e3) mf_X8_next mv_X8_next ml_X6_59 ⟨rfl, rfl⟩ ⟨Nat.le_of_ble_eq_true rfl, Nat.le_of_ble_eq_true rfl⟩ KX_19 rfl hl.1 rfl rfl (Nat.le_of_ble_eq_true rfl) dX6_take_33 (fun H locs hW => W.eq (g2 := F0 m 36 ls []) rfl ?_)
      refine lv_aload_n hx hb dX6_take_36 rfl (lv_at hl 1 rfl) ?_
      refine xg_i C hW fg_6_62 KX_19 rfl (v := 4803) rfl (x := σ3.1 4803 0) rfl dX6_take_37 ?_
      refine lv_if_ne (tgt := 45) hx hb dX6_take_40 (by decide) (fun c4 => ?_) (fun c4 => ?_)
      · have h := xif c4 h
        refine lv_aload_n hx hb dX6_take_45 rfl (lv_at hl 1 rfl) ?_
        refine xx_s (i := 0) C rfl dX6_take_46 ?_
        obtain ⟨r5_, e5, h⟩ := xbo h
        refine xc_V (As := [.ref (g.aK 0)]) (rest := []) C hW (m_X8_isWord 0 (by decide) N _ e5) mf_X8_isWord mv_X8_isWord ml_X6_67 ⟨rfl, rfl⟩ ⟨Nat.le_of_ble_eq_true rfl, Nat.le_of_ble_eq_true rfl⟩ KX_19 rfl hl.1 rfl rfl (Nat.le_of_ble_eq_true rfl) dX6_take_48 (fun H locs hW => W.eq (g2 := F0 m 51 ls [.int r5_]) rfl ?_)
        refine lv_if_eq (tgt := 62) hx hb dX6_take_51 (by decide) (fun c6 => ?_) (fun c6 => ?_)
        · have h := xit c6 h
          refine lv_aload_n hx hb dX6_take_62 rfl (lv_at hl 0 rfl) ?_
          refine lv_aload_n hx hb dX6_take_63 rfl (lv_at hl 1 rfl) ?_
          obtain ⟨r7_, σ7, e7, h⟩ := xbd h
          refine xc_V (As := [.ref (g.q 19)]) (rest := []) C hW (m_X6_takeRule o ho N _ e7) mf_X6_takeRule mv_X6_takeRule ml_X6_75 ⟨rfl, rfl⟩ ⟨Nat.le_of_ble_eq_true rfl, Nat.le_of_ble_eq_true rfl⟩ (KX_sl ho) rfl hl.1 rfl rfl (Nat.le_of_ble_eq_true rfl) dX6_take_64 (fun H locs hW => W.eq (g2 := F0 m 67 ls [.int r7_]) rfl ?_)
          exact w_X6_take_67 o ho N (f_X6_take_25 o N n) C ih x2 r7_ _ _ _ _ hW (lv_sub hl [0, 1, 2] rfl) h
        · have h := xif c6 h
          refine lv_aload_n hx hb dX6_take_54 rfl (lv_at hl 0 rfl) ?_
          refine lv_aload_n hx hb dX6_take_55 rfl (lv_at hl 1 rfl) ?_
          obtain ⟨r8_, σ8, e8, h⟩ := xbd h
          refine xc_V (As := [.ref (g.q 19)]) (rest := []) C hW (m_X6_takeSign o ho N _ e8) mf_X6_takeSign mv_X6_takeSign ml_X6_71 ⟨rfl, rfl⟩ ⟨Nat.le_of_ble_eq_true rfl, Nat.le_of_ble_eq_true rfl⟩ (KX_sl ho) rfl hl.1 rfl rfl (Nat.le_of_ble_eq_true rfl) dX6_take_56 (fun H locs hW => W.eq (g2 := F0 m 59 ls [.int r8_]) rfl ?_)
          refine lv_goto (tgt := 67) hx hb dX6_take_59 (by decide) ?_
          exact w_X6_take_67 o ho N (f_X6_take_25 o N n) C ih x2 r8_ _ _ _ _ hW (lv_sub hl [0, 1, 2] rfl) h
      · have h := xit c4 h
        refine lv_iload_n hx hb dX6_take_43 rfl (lv_at hl 2 rfl) ?_
        cases h
        exact xr_i C hW dX6_take_44
set_option maxRecDepth 4000 in
theorem m_X6_take (o : Nat) (ho : o = 1 ∨ o = 2) (N : Nat) (σ : St) {r : Int32} {σ' : St} (h : f_X6_take o N σ = some (r, σ')) : xM l KX g yX6_take cX6_take 4 (some .int) rm_X6_take [.ref (g.q o), .ref (g.q 19)] σ (some (.int r)) σ' := by
  refine xmet pn_X6 rfl (Nat.le_of_ble_eq_true rfl) (lv := [(0, .ref (g.q o)), (1, .ref (g.q 19))]) rfl (fun p e s m args below meth c ls C hW hl => ?_)
  have hx := C.1
  have hb := C.2.1
  unfold f_X6_take at h
  refine lv_aload_n hx hb dX6_take_0 rfl (lv_at hl 0 rfl) ?_
  refine lv_iconst (v := 0) hx hb dX6_take_1 rfl ?_
  refine xp_i C hW fp_6_46 (KX_sl ho) rfl (v := (1000 + 200 * o + 0)) rfl rfl rfl dX6_take_2 (fun H locs hW => ?_)
  refine lv_aload_n hx hb dX6_take_5 rfl (lv_at hl 0 rfl) ?_
  refine lv_iconst (v := 0) hx hb dX6_take_6 rfl ?_
  refine xp_i C hW fp_6_54 (KX_sl ho) rfl (v := (1000 + 200 * o + 9)) rfl rfl rfl dX6_take_7 (fun H locs hW => ?_)
  refine xt_r (i := 0) C hW xst_0 fs_X6_37 dX6_take_10 ?_
  refine lv_iconst (v := 0) hx hb dX6_take_13 rfl ?_
  refine lv_aload_n hx hb dX6_take_14 rfl (lv_at hl 0 rfl) ?_
  refine xg_r C hW fg_6_34 (KX_sl ho) rfl dX6_take_15 ?_
  refine lv_iconst (v := 0) hx hb dX6_take_18 rfl ?_
  refine lv_iconst (v := 4) hx hb dX6_take_19 rfl ?_
  obtain ⟨g1, h⟩ := xgd h
  refine xcp_t C hW xst_0 (KX_sl_8 ho) g1 ml_X6_40 (Nat.le_of_ble_eq_true rfl) (Nat.le_of_ble_eq_true rfl) hl.1 (Nat.le_of_ble_eq_true rfl) dX6_take_20 (fun H locs hW => ?_)
  refine lv_iconst (v := 0) hx hb dX6_take_23 rfl ?_
  refine lv_istore_n (lv' := [(2, .int 0), (0, .ref (g.q o)), (1, .ref (g.q 19))]) hx hb dX6_take_24 rfl hl (Nat.le_of_ble_eq_true rfl) rfl (fun ls hl => ?_)
  exact w_X6_take_25 o ho N C N 0 _ _ _ _ hW (lv_sub hl [1, 2, 0] rfl) h
end
theorem dX7_endsFromAny_0 : decode cX7_endsFromAny 0 = .ok (.iconst 0, 1) := by decide +kernel
theorem dX7_endsFromAny_1 : decode cX7_endsFromAny 1 = .ok (.istore 4, 2) := by decide +kernel
theorem dX7_endsFromAny_3 : decode cX7_endsFromAny 3 = .ok (.iconst 0, 1) := by decide +kernel
theorem dX7_endsFromAny_4 : decode cX7_endsFromAny 4 = .ok (.istore 5, 2) := by decide +kernel
theorem dX7_endsFromAny_6 : decode cX7_endsFromAny 6 = .ok (.iload 5, 2) := by decide +kernel
theorem dX7_endsFromAny_8 : decode cX7_endsFromAny 8 = .ok (.iload_n 2, 1) := by decide +kernel
theorem dX7_endsFromAny_9 : decode cX7_endsFromAny 9 = .ok (.if_icmp .ge 32, 3) := by decide +kernel
theorem dX7_endsFromAny_12 : decode cX7_endsFromAny 12 = .ok (.iload_n 3, 1) := by decide +kernel
theorem dX7_endsFromAny_13 : decode cX7_endsFromAny 13 = .ok (.iload 5, 2) := by decide +kernel
theorem dX7_endsFromAny_15 : decode cX7_endsFromAny 15 = .ok (.iushr, 1) := by decide +kernel
theorem dX7_endsFromAny_16 : decode cX7_endsFromAny 16 = .ok (.iconst 1, 1) := by decide +kernel
theorem dX7_endsFromAny_17 : decode cX7_endsFromAny 17 = .ok (.iand, 1) := by decide +kernel
theorem dX7_endsFromAny_18 : decode cX7_endsFromAny 18 = .ok (.iconst 1, 1) := by decide +kernel
theorem dX7_endsFromAny_19 : decode cX7_endsFromAny 19 = .ok (.if_icmp .ne 16, 3) := by decide +kernel
theorem dX7_endsFromAny_22 : decode cX7_endsFromAny 22 = .ok (.iload 4, 2) := by decide +kernel
theorem dX7_endsFromAny_24 : decode cX7_endsFromAny 24 = .ok (.aload_n 0, 1) := by decide +kernel
theorem dX7_endsFromAny_25 : decode cX7_endsFromAny 25 = .ok (.aload_n 1, 1) := by decide +kernel
theorem dX7_endsFromAny_26 : decode cX7_endsFromAny 26 = .ok (.iload_n 2, 1) := by decide +kernel
theorem dX7_endsFromAny_27 : decode cX7_endsFromAny 27 = .ok (.iload 5, 2) := by decide +kernel
theorem dX7_endsFromAny_29 : decode cX7_endsFromAny 29 = .ok (.invokevirtual 98, 3) := by decide +kernel
theorem dX7_endsFromAny_32 : decode cX7_endsFromAny 32 = .ok (.ior, 1) := by decide +kernel
theorem dX7_endsFromAny_33 : decode cX7_endsFromAny 33 = .ok (.istore 4, 2) := by decide +kernel
theorem dX7_endsFromAny_35 : decode cX7_endsFromAny 35 = .ok (.iinc 5 1, 3) := by decide +kernel
theorem dX7_endsFromAny_38 : decode cX7_endsFromAny 38 = .ok (.goto (-32), 3) := by decide +kernel
theorem dX7_endsFromAny_41 : decode cX7_endsFromAny 41 = .ok (.iload 4, 2) := by decide +kernel
theorem dX7_endsFromAny_43 : decode cX7_endsFromAny 43 = .ok (.ireturn, 1) := by decide +kernel
abbrev rm_X7_endsFromAny : Room := { frames := 5, cells := 0, slots := 0, locals := 119 }
def f_X7_endsFromAny_6 (r1 rn1 : Nat) (N : Nat) : Nat → Int32 → Int32 → Int32 → Int32 → St → Option Int32
  | 0, _, _, _, _, _ => none
  | n + 1, x2, x3, x4, x5, σ => (if x2 ≤ x5 then some x4 else (if ((ushr x3 x5) &&& 1) = 1 then bo (f_X7_endsFrom r1 rn1 N x2 x5 σ) (fun r3_ => f_X7_endsFromAny_6 r1 rn1 N n x2 x3 (x4 ||| r3_) (x5 + 1) σ) else f_X7_endsFromAny_6 r1 rn1 N n x2 x3 x4 (x5 + 1) σ))
def f_X7_endsFromAny (r1 rn1 : Nat) (N : Nat) (x2 : Int32) (x3 : Int32) (σ : St) : Option Int32 := f_X7_endsFromAny_6 r1 rn1 N N x2 x3 0 0 σ
section
variable {p : Program} {l : Launch} {e : Env} {s : State} {m : MethodId} {args : Array Value} {below : List Frame} {meth : Method} {c : Code} {g : XG}
set_option maxRecDepth 4000 in
theorem w_X7_endsFromAny_6 (r1 rn1 : Nat) (hr1 : KX[r1]? = some (.inr (0, rn1))) (N : Nat) (σ : St) {r : Int32} (C : xC KX g RX7 cX7_endsFromAny 6 (some .int) p s m args meth c) : ∀ (n : Nat), ∀ (x2 : Int32) (x3 : Int32) (x4 : Int32) (x5 : Int32) (H : Heap) (locs : List Loc) (ls : Array Slot), xW KX g s σ H locs → lv_has ls 6 [(0, .ref (g.q 38)), (1, .ref (g.q r1)), (2, .int x2), (3, .int x3), (4, .int x4), (5, .int x5)] → f_X7_endsFromAny_6 r1 rn1 N n x2 x3 x4 x5 σ = some r → W p l e rm_X7_endsFromAny s m args below meth c H locs 0 0 (MQ below (xPost KX g (some (.int r)) σ) args s 0 0 (xA KX g.q)) (F0 m 6 ls []) := by
  have hx := C.1
  have hb := C.2.1
  intro n
  induction n with
  | zero => intro x2 x3 x4 x5 H locs ls hW hl h; rw [f_X7_endsFromAny_6] at h; cases h
  | succ n ih =>
    intro x2 x3 x4 x5 H locs ls hW hl h
    rw [f_X7_endsFromAny_6] at h
    refine lv_iload hx hb dX7_endsFromAny_6 (lv_at hl 5 rfl) ?_
    refine lv_iload_n hx hb dX7_endsFromAny_8 rfl (lv_at hl 2 rfl) ?_
    refine lv_icmp_ge (tgt := 41) hx hb dX7_endsFromAny_9 (by decide) (fun c1 => ?_) (fun c1 => ?_)
    · have h := xit c1 h
      refine lv_iload hx hb dX7_endsFromAny_41 (lv_at hl 4 rfl) ?_
      cases h
      exact xr_i C hW dX7_endsFromAny_43
    · have h := xif c1 h
      refine lv_iload_n hx hb dX7_endsFromAny_12 rfl (lv_at hl 3 rfl) ?_
      refine lv_iload hx hb dX7_endsFromAny_13 (lv_at hl 5 rfl) ?_
      refine lv_iushr (v := ushr x3 x5) hx hb dX7_endsFromAny_15 rfl ?_
      refine lv_iconst (v := 1) hx hb dX7_endsFromAny_16 rfl ?_
      refine lv_iand hx hb dX7_endsFromAny_17 ?_
      refine lv_iconst (v := 1) hx hb dX7_endsFromAny_18 rfl ?_
      refine lv_icmp_ne (tgt := 35) hx hb dX7_endsFromAny_19 (by decide) (fun c2 => ?_) (fun c2 => ?_)
      · have h := xif c2 h
        refine lv_iinc (v := x5 + 1) (lv' := [(5, .int (x5 + 1)), (0, .ref (g.q 38)), (1, .ref (g.q r1)), (2, .int x2), (3, .int x3), (4, .int x4)]) hx hb dX7_endsFromAny_35 hl (k := 5) rfl rfl (Nat.le_of_ble_eq_true rfl) rfl (fun ls hl => ?_)
        refine lv_goto (tgt := 6) hx hb dX7_endsFromAny_38 (by decide) ?_
        exact ih x2 x3 x4 (x5 + 1) _ _ _ hW (lv_sub hl [1, 2, 3, 4, 5, 0] rfl) h
      · have h := xit c2 h
        refine lv_iload hx hb dX7_endsFromAny_22 (lv_at hl 4 rfl) ?_
        refine lv_aload_n hx hb dX7_endsFromAny_24 rfl (lv_at hl 0 rfl) ?_
        refine lv_aload_n hx hb dX7_endsFromAny_25 rfl (lv_at hl 1 rfl) ?_
        refine lv_iload_n hx hb dX7_endsFromAny_26 rfl (lv_at hl 2 rfl) ?_
        refine lv_iload hx hb dX7_endsFromAny_27 (lv_at hl 5 rfl) ?_
        obtain ⟨r3_, e3, h⟩ := xbo h
        refine xc_V (As := [.ref (g.q r1), .int x2, .int x5]) (rest := [.int x4]) C hW (m_X7_endsFrom r1 rn1 hr1 N x2 x5 _ e3) mf_X7_endsFrom mv_X7_endsFrom ml_X7_98 ⟨rfl, rfl⟩ ⟨Nat.le_of_ble_eq_true rfl, Nat.le_of_ble_eq_true rfl⟩ KX_38 rfl hl.1 rfl rfl (Nat.le_of_ble_eq_true rfl) dX7_endsFromAny_29 (fun H locs hW => W.eq (g2 := F0 m 32 ls [.int r3_, .int x4]) rfl ?_)
        refine lv_ior hx hb dX7_endsFromAny_32 ?_
        refine lv_istore (lv' := [(4, .int (x4 ||| r3_)), (0, .ref (g.q 38)), (1, .ref (g.q r1)), (2, .int x2), (3, .int x3), (5, .int x5)]) hx hb dX7_endsFromAny_33 hl (Nat.le_of_ble_eq_true rfl) rfl (fun ls hl => ?_)
        refine lv_iinc (v := x5 + 1) (lv' := [(5, .int (x5 + 1)), (4, .int (x4 ||| r3_)), (0, .ref (g.q 38)), (1, .ref (g.q r1)), (2, .int x2), (3, .int x3)]) hx hb dX7_endsFromAny_35 hl (k := 5) rfl rfl (Nat.le_of_ble_eq_true rfl) rfl (fun ls hl => ?_)
        refine lv_goto (tgt := 6) hx hb dX7_endsFromAny_38 (by decide) ?_
        exact ih x2 x3 (x4 ||| r3_) (x5 + 1) _ _ _ hW (lv_sub hl [2, 3, 4, 5, 1, 0] rfl) h
set_option maxRecDepth 4000 in
theorem m_X7_endsFromAny (r1 rn1 : Nat) (hr1 : KX[r1]? = some (.inr (0, rn1))) (N : Nat) (x2 : Int32) (x3 : Int32) (σ : St) {r : Int32} (h : f_X7_endsFromAny r1 rn1 N x2 x3 σ = some r) : xM l KX g yX7_endsFromAny cX7_endsFromAny 6 (some .int) rm_X7_endsFromAny [.ref (g.q 38), .ref (g.q r1), .int x2, .int x3] σ (some (.int r)) σ := by
  refine xmet pn_X7 rfl (Nat.le_of_ble_eq_true rfl) (lv := [(0, .ref (g.q 38)), (1, .ref (g.q r1)), (2, .int x2), (3, .int x3)]) rfl (fun p e s m args below meth c ls C hW hl => ?_)
  have hx := C.1
  have hb := C.2.1
  unfold f_X7_endsFromAny at h
  refine lv_iconst (v := 0) hx hb dX7_endsFromAny_0 rfl ?_
  refine lv_istore (lv' := [(4, .int 0), (0, .ref (g.q 38)), (1, .ref (g.q r1)), (2, .int x2), (3, .int x3)]) hx hb dX7_endsFromAny_1 hl (Nat.le_of_ble_eq_true rfl) rfl (fun ls hl => ?_)
  refine lv_iconst (v := 0) hx hb dX7_endsFromAny_3 rfl ?_
  refine lv_istore (lv' := [(5, .int 0), (4, .int 0), (0, .ref (g.q 38)), (1, .ref (g.q r1)), (2, .int x2), (3, .int x3)]) hx hb dX7_endsFromAny_4 hl (Nat.le_of_ble_eq_true rfl) rfl (fun ls hl => ?_)
  exact w_X7_endsFromAny_6 r1 rn1 hr1 N σ C N x2 x3 0 0 _ _ _ hW (lv_sub hl [2, 3, 4, 5, 1, 0] rfl) h
end
theorem dX8_put_0 : decode cX8_put 0 = .ok (.bipush 24, 2) := by decide +kernel
theorem dX8_put_2 : decode cX8_put 2 = .ok (.istore_n 2, 1) := by decide +kernel
theorem dX8_put_3 : decode cX8_put 3 = .ok (.iload_n 2, 1) := by decide +kernel
theorem dX8_put_4 : decode cX8_put 4 = .ok (.ifCond .lt 42, 3) := by decide +kernel
theorem dX8_put_7 : decode cX8_put 7 = .ok (.aload_n 0, 1) := by decide +kernel
theorem dX8_put_8 : decode cX8_put 8 = .ok (.getfield 19, 3) := by decide +kernel
theorem dX8_put_11 : decode cX8_put 11 = .ok (.sipush 800, 3) := by decide +kernel
theorem dX8_put_14 : decode cX8_put 14 = .ok (.if_icmp .ge 26, 3) := by decide +kernel
theorem dX8_put_17 : decode cX8_put 17 = .ok (.aload_n 0, 1) := by decide +kernel
theorem dX8_put_18 : decode cX8_put 18 = .ok (.getfield 11, 3) := by decide +kernel
theorem dX8_put_21 : decode cX8_put 21 = .ok (.aload_n 0, 1) := by decide +kernel
theorem dX8_put_22 : decode cX8_put 22 = .ok (.getfield 19, 3) := by decide +kernel
theorem dX8_put_25 : decode cX8_put 25 = .ok (.iload_n 1, 1) := by decide +kernel
theorem dX8_put_26 : decode cX8_put 26 = .ok (.iload_n 2, 1) := by decide +kernel
theorem dX8_put_27 : decode cX8_put 27 = .ok (.iushr, 1) := by decide +kernel
theorem dX8_put_28 : decode cX8_put 28 = .ok (.i2b, 1) := by decide +kernel
theorem dX8_put_29 : decode cX8_put 29 = .ok (.bastore, 1) := by decide +kernel
theorem dX8_put_30 : decode cX8_put 30 = .ok (.aload_n 0, 1) := by decide +kernel
theorem dX8_put_31 : decode cX8_put 31 = .ok (.dup, 1) := by decide +kernel
theorem dX8_put_32 : decode cX8_put 32 = .ok (.getfield 19, 3) := by decide +kernel
theorem dX8_put_35 : decode cX8_put 35 = .ok (.iconst 1, 1) := by decide +kernel
theorem dX8_put_36 : decode cX8_put 36 = .ok (.iadd, 1) := by decide +kernel
theorem dX8_put_37 : decode cX8_put 37 = .ok (.putfield 19, 3) := by decide +kernel
theorem dX8_put_40 : decode cX8_put 40 = .ok (.iinc 2 (-8), 3) := by decide +kernel
theorem dX8_put_43 : decode cX8_put 43 = .ok (.goto (-40), 3) := by decide +kernel
theorem dX8_put_46 : decode cX8_put 46 = .ok (.return_, 1) := by decide +kernel
abbrev rm_X8_put : Room := { frames := 0, cells := 0, slots := 0, locals := 0 }
def f_X8_put_3 (N : Nat) : Nat → Int32 → Int32 → St → Option St
  | 0, _, _, _ => none
  | n + 1, x1, x2, σ => (if x2 < 0 then some σ else (if 800 ≤ (σ.1 4801 0) then f_X8_put_3 N n x1 (x2 + (-8)) σ else grd (ib (σ.1 4801 0) 800) (f_X8_put_3 N n x1 (x2 + (-8)) (si (si σ 20 (σ.1 4801 0).toNatClampNeg (((ushr x1 x2).toInt8.toInt32).toInt8.toInt32)) 4801 0 ((σ.1 4801 0) + 1)))))
def f_X8_put (N : Nat) (x1 : Int32) (σ : St) : Option St := f_X8_put_3 N N x1 24 σ
section
variable {p : Program} {l : Launch} {e : Env} {s : State} {m : MethodId} {args : Array Value} {below : List Frame} {meth : Method} {c : Code} {g : XG}
set_option maxRecDepth 4000 in
theorem w_X8_put_3 (N : Nat) {σ' : St} (C : xC KX g RX8 cX8_put 3 none p s m args meth c) : ∀ (n : Nat), ∀ (x1 : Int32) (x2 : Int32) (σ : St) (H : Heap) (locs : List Loc) (ls : Array Slot), xW KX g s σ H locs → lv_has ls 3 [(0, .ref (g.q 19)), (1, .int x1), (2, .int x2)] → f_X8_put_3 N n x1 x2 σ = some σ' → W p l e rm_X8_put s m args below meth c H locs 0 0 (MQ below (xPost KX g none σ') args s 0 0 (xA KX g.q)) (F0 m 3 ls []) := by
  have hx := C.1
  have hb := C.2.1
  intro n
  induction n with
  | zero => intro x1 x2 σ H locs ls hW hl h; rw [f_X8_put_3] at h; cases h
  | succ n ih =>
    intro x1 x2 σ H locs ls hW hl h
    rw [f_X8_put_3] at h
    refine lv_iload_n hx hb dX8_put_3 rfl (lv_at hl 2 rfl) ?_
    refine lv_if_lt (tgt := 46) hx hb dX8_put_4 (by decide) (fun c1 => ?_) (fun c1 => ?_)
    · have h := xit c1 h
      cases h
      exact xr_v C hW dX8_put_46
    · have h := xif c1 h
      refine lv_aload_n hx hb dX8_put_7 rfl (lv_at hl 0 rfl) ?_
      refine xg_i C hW fg_8_19 KX_19 rfl (v := 4801) rfl (x := σ.1 4801 0) rfl dX8_put_8 ?_
      refine lv_sipush (v := 800) hx hb dX8_put_11 rfl ?_
      refine lv_icmp_ge (tgt := 40) hx hb dX8_put_14 (by decide) (fun c2 => ?_) (fun c2 => ?_)
      · have h := xit c2 h
        refine lv_iinc (v := x2 + (-8)) (lv' := [(2, .int (x2 + (-8))), (0, .ref (g.q 19)), (1, .int x1)]) hx hb dX8_put_40 hl (k := 2) rfl rfl (Nat.le_of_ble_eq_true rfl) rfl (fun ls hl => ?_)
        refine lv_goto (tgt := 3) hx hb dX8_put_43 (by decide) ?_
        exact ih x1 (x2 + (-8)) _ _ _ _ hW (lv_sub hl [1, 2, 0] rfl) h
      · have h := xif c2 h
        refine lv_aload_n hx hb dX8_put_17 rfl (lv_at hl 0 rfl) ?_
        refine xg_r C hW fg_8_11 KX_19 rfl dX8_put_18 ?_
        refine lv_aload_n hx hb dX8_put_21 rfl (lv_at hl 0 rfl) ?_
        refine xg_i C hW fg_8_19 KX_19 rfl (v := 4801) rfl (x := σ.1 4801 0) rfl dX8_put_22 ?_
        refine lv_iload_n hx hb dX8_put_25 rfl (lv_at hl 1 rfl) ?_
        refine lv_iload_n hx hb dX8_put_26 rfl (lv_at hl 2 rfl) ?_
        refine lv_iushr (v := ushr x1 x2) hx hb dX8_put_27 rfl ?_
        refine lv_i2b (v := (ushr x1 x2).toInt8.toInt32) hx hb dX8_put_28 rfl ?_
        obtain ⟨g3, h⟩ := xgd h
        refine xs_b C hW KX_20 g3 dX8_put_29 (fun H locs hW => ?_)
        refine lv_aload_n hx hb dX8_put_30 rfl (lv_at hl 0 rfl) ?_
        refine lv_dup hx hb dX8_put_31 rfl ?_
        refine xg_i C hW fg_8_19 KX_19 rfl (v := 4801) rfl (x := σ.1 4801 0) rfl dX8_put_32 ?_
        refine lv_iconst (v := 1) hx hb dX8_put_35 rfl ?_
        refine lv_iadd hx hb dX8_put_36 ?_
        refine xp_i C hW fp_8_19 KX_19 rfl (v := 4801) rfl rfl rfl dX8_put_37 (fun H locs hW => ?_)
        refine lv_iinc (v := x2 + (-8)) (lv' := [(2, .int (x2 + (-8))), (0, .ref (g.q 19)), (1, .int x1)]) hx hb dX8_put_40 hl (k := 2) rfl rfl (Nat.le_of_ble_eq_true rfl) rfl (fun ls hl => ?_)
        refine lv_goto (tgt := 3) hx hb dX8_put_43 (by decide) ?_
        exact ih x1 (x2 + (-8)) _ _ _ _ hW (lv_sub hl [1, 2, 0] rfl) h
set_option maxRecDepth 4000 in
theorem m_X8_put (N : Nat) (x1 : Int32) (σ : St) {σ' : St} (h : f_X8_put N x1 σ = some σ') : xM l KX g yX8_put cX8_put 3 none rm_X8_put [.ref (g.q 19), .int x1] σ none σ' := by
  refine xmet pn_X8 rfl (Nat.le_of_ble_eq_true rfl) (lv := [(0, .ref (g.q 19)), (1, .int x1)]) rfl (fun p e s m args below meth c ls C hW hl => ?_)
  have hx := C.1
  have hb := C.2.1
  unfold f_X8_put at h
  refine lv_bipush (v := 24) hx hb dX8_put_0 rfl ?_
  refine lv_istore_n (lv' := [(2, .int 24), (0, .ref (g.q 19)), (1, .int x1)]) hx hb dX8_put_2 rfl hl (Nat.le_of_ble_eq_true rfl) rfl (fun ls hl => ?_)
  exact w_X8_put_3 N C N x1 24 _ _ _ _ hW (lv_sub hl [1, 2, 0] rfl) h
end
theorem dX8_rewind_0 : decode cX8_rewind 0 = .ok (.aload_n 0, 1) := by decide +kernel
theorem dX8_rewind_1 : decode cX8_rewind 1 = .ok (.iconst 0, 1) := by decide +kernel
theorem dX8_rewind_2 : decode cX8_rewind 2 = .ok (.putfield 22, 3) := by decide +kernel
theorem dX8_rewind_5 : decode cX8_rewind 5 = .ok (.return_, 1) := by decide +kernel
abbrev rm_X8_rewind : Room := { frames := 0, cells := 0, slots := 0, locals := 0 }
def f_X8_rewind (σ : St) : Option St := some ((si σ 4802 0 0))
section
variable {p : Program} {l : Launch} {e : Env} {s : State} {m : MethodId} {args : Array Value} {below : List Frame} {meth : Method} {c : Code} {g : XG}
set_option maxRecDepth 4000 in
theorem m_X8_rewind (σ : St) {σ' : St} (h : f_X8_rewind σ = some σ') : xM l KX g yX8_rewind cX8_rewind 1 none rm_X8_rewind [.ref (g.q 19)] σ none σ' := by
  refine xmet pn_X8 rfl (Nat.le_of_ble_eq_true rfl) (lv := [(0, .ref (g.q 19))]) rfl (fun p e s m args below meth c ls C hW hl => ?_)
  have hx := C.1
  have hb := C.2.1
  unfold f_X8_rewind at h
  refine lv_aload_n hx hb dX8_rewind_0 rfl (lv_at hl 0 rfl) ?_
  refine lv_iconst (v := 0) hx hb dX8_rewind_1 rfl ?_
  refine xp_i C hW fp_8_22 KX_19 rfl (v := 4802) rfl rfl rfl dX8_rewind_2 (fun H locs hW => ?_)
  cases h
  exact xr_v C hW dX8_rewind_5
end
theorem dX8_drain_0 : decode cX8_drain 0 = .ok (.aload_n 0, 1) := by decide +kernel
theorem dX8_drain_1 : decode cX8_drain 1 = .ok (.iconst 0, 1) := by decide +kernel
theorem dX8_drain_2 : decode cX8_drain 2 = .ok (.putfield 19, 3) := by decide +kernel
theorem dX8_drain_5 : decode cX8_drain 5 = .ok (.return_, 1) := by decide +kernel
abbrev rm_X8_drain : Room := { frames := 0, cells := 0, slots := 0, locals := 0 }
def f_X8_drain (σ : St) : Option St := some ((si σ 4801 0 0))
section
variable {p : Program} {l : Launch} {e : Env} {s : State} {m : MethodId} {args : Array Value} {below : List Frame} {meth : Method} {c : Code} {g : XG}
set_option maxRecDepth 4000 in
theorem m_X8_drain (σ : St) {σ' : St} (h : f_X8_drain σ = some σ') : xM l KX g yX8_drain cX8_drain 1 none rm_X8_drain [.ref (g.q 19)] σ none σ' := by
  refine xmet pn_X8 rfl (Nat.le_of_ble_eq_true rfl) (lv := [(0, .ref (g.q 19))]) rfl (fun p e s m args below meth c ls C hW hl => ?_)
  have hx := C.1
  have hb := C.2.1
  unfold f_X8_drain at h
  refine lv_aload_n hx hb dX8_drain_0 rfl (lv_at hl 0 rfl) ?_
  refine lv_iconst (v := 0) hx hb dX8_drain_1 rfl ?_
  refine xp_i C hW fp_8_19 KX_19 rfl (v := 4801) rfl rfl rfl dX8_drain_2 (fun H locs hW => ?_)
  cases h
  exact xr_v C hW dX8_drain_5
end
theorem dX8_forgetFault_0 : decode cX8_forgetFault 0 = .ok (.aload_n 0, 1) := by decide +kernel
theorem dX8_forgetFault_1 : decode cX8_forgetFault 1 = .ok (.iconst 0, 1) := by decide +kernel
theorem dX8_forgetFault_2 : decode cX8_forgetFault 2 = .ok (.putfield 25, 3) := by decide +kernel
theorem dX8_forgetFault_5 : decode cX8_forgetFault 5 = .ok (.aload_n 0, 1) := by decide +kernel
theorem dX8_forgetFault_6 : decode cX8_forgetFault 6 = .ok (.iconst (-1), 1) := by decide +kernel
theorem dX8_forgetFault_7 : decode cX8_forgetFault 7 = .ok (.putfield 15, 3) := by decide +kernel
theorem dX8_forgetFault_10 : decode cX8_forgetFault 10 = .ok (.return_, 1) := by decide +kernel
abbrev rm_X8_forgetFault : Room := { frames := 0, cells := 0, slots := 0, locals := 0 }
def f_X8_forgetFault (σ : St) : Option St := some ((si (si σ 4811 0 0) 4812 0 ((-1))))
section
variable {p : Program} {l : Launch} {e : Env} {s : State} {m : MethodId} {args : Array Value} {below : List Frame} {meth : Method} {c : Code} {g : XG}
set_option maxRecDepth 4000 in
theorem m_X8_forgetFault (σ : St) {σ' : St} (h : f_X8_forgetFault σ = some σ') : xM l KX g yX8_forgetFault cX8_forgetFault 1 none rm_X8_forgetFault [.ref (g.q 19)] σ none σ' := by
  refine xmet pn_X8 rfl (Nat.le_of_ble_eq_true rfl) (lv := [(0, .ref (g.q 19))]) rfl (fun p e s m args below meth c ls C hW hl => ?_)
  have hx := C.1
  have hb := C.2.1
  unfold f_X8_forgetFault at h
  refine lv_aload_n hx hb dX8_forgetFault_0 rfl (lv_at hl 0 rfl) ?_
  refine lv_iconst (v := 0) hx hb dX8_forgetFault_1 rfl ?_
  refine xp_i C hW fp_8_25 KX_19 rfl (v := 4811) rfl rfl rfl dX8_forgetFault_2 (fun H locs hW => ?_)
  refine lv_aload_n hx hb dX8_forgetFault_5 rfl (lv_at hl 0 rfl) ?_
  refine lv_iconst (v := (-1)) hx hb dX8_forgetFault_6 rfl ?_
  refine xp_i C hW fp_8_15 KX_19 rfl (v := 4812) rfl rfl rfl dX8_forgetFault_7 (fun H locs hW => ?_)
  cases h
  exact xr_v C hW dX8_forgetFault_10
end
theorem dX9_has_0 : decode cX9_has 0 = .ok (.iload_n 1, 1) := by decide +kernel
theorem dX9_has_1 : decode cX9_has 1 = .ok (.ifCond .lt 15, 3) := by decide +kernel
theorem dX9_has_4 : decode cX9_has 4 = .ok (.iload_n 1, 1) := by decide +kernel
theorem dX9_has_5 : decode cX9_has 5 = .ok (.aload_n 0, 1) := by decide +kernel
theorem dX9_has_6 : decode cX9_has 6 = .ok (.getfield 25, 3) := by decide +kernel
theorem dX9_has_9 : decode cX9_has 9 = .ok (.if_icmp .ge 7, 3) := by decide +kernel
theorem dX9_has_12 : decode cX9_has 12 = .ok (.iconst 1, 1) := by decide +kernel
theorem dX9_has_13 : decode cX9_has 13 = .ok (.goto 4, 3) := by decide +kernel
theorem dX9_has_16 : decode cX9_has 16 = .ok (.iconst 0, 1) := by decide +kernel
theorem dX9_has_17 : decode cX9_has 17 = .ok (.ireturn, 1) := by decide +kernel
abbrev rm_X9_has : Room := { frames := 0, cells := 0, slots := 0, locals := 0 }
def f_X9_has (x1 : Int32) (σ : St) : Int32 := (if x1 < 0 then 0 else (if (σ.1 7600 0) ≤ x1 then 0 else 1))
section
variable {p : Program} {l : Launch} {e : Env} {s : State} {m : MethodId} {args : Array Value} {below : List Frame} {meth : Method} {c : Code} {g : XG}
set_option maxRecDepth 4000 in
theorem m_X9_has (x1 : Int32) (σ : St) {r : Int32} (h : f_X9_has x1 σ = r) : xM l KX g yX9_has cX9_has 2 (some .boolean) rm_X9_has [.ref (g.q 33), .int x1] σ (some (.int r)) σ := by
  refine xmet pn_X9 rfl (Nat.le_of_ble_eq_true rfl) (lv := [(0, .ref (g.q 33)), (1, .int x1)]) rfl (fun p e s m args below meth c ls C hW hl => ?_)
  have hx := C.1
  have hb := C.2.1
  unfold f_X9_has at h
  refine lv_iload_n hx hb dX9_has_0 rfl (lv_at hl 1 rfl) ?_
  refine lv_if_lt (tgt := 16) hx hb dX9_has_1 (by decide) (fun c1 => ?_) (fun c1 => ?_)
  · have h := xit c1 h
    refine lv_iconst (v := 0) hx hb dX9_has_16 rfl ?_
    cases h
    exact xr_z C hW (by decide) dX9_has_17
  · have h := xif c1 h
    refine lv_iload_n hx hb dX9_has_4 rfl (lv_at hl 1 rfl) ?_
    refine lv_aload_n hx hb dX9_has_5 rfl (lv_at hl 0 rfl) ?_
    refine xg_i C hW fg_9_25 KX_33 rfl (v := 7600) rfl (x := σ.1 7600 0) rfl dX9_has_6 ?_
    refine lv_icmp_ge (tgt := 16) hx hb dX9_has_9 (by decide) (fun c2 => ?_) (fun c2 => ?_)
    · have h := xit c2 h
      refine lv_iconst (v := 0) hx hb dX9_has_16 rfl ?_
      cases h
      exact xr_z C hW (by decide) dX9_has_17
    · have h := xif c2 h
      refine lv_iconst (v := 1) hx hb dX9_has_12 rfl ?_
      refine lv_goto (tgt := 17) hx hb dX9_has_13 (by decide) ?_
      cases h
      exact xr_z C hW (by decide) dX9_has_17
end
theorem dX9_isNamed_0 : decode cX9_isNamed 0 = .ok (.iconst 0, 1) := by decide +kernel
theorem dX9_isNamed_1 : decode cX9_isNamed 1 = .ok (.istore_n 3, 1) := by decide +kernel
theorem dX9_isNamed_2 : decode cX9_isNamed 2 = .ok (.iload_n 3, 1) := by decide +kernel
theorem dX9_isNamed_3 : decode cX9_isNamed 3 = .ok (.aload_n 0, 1) := by decide +kernel
theorem dX9_isNamed_4 : decode cX9_isNamed 4 = .ok (.getfield 25, 3) := by decide +kernel
theorem dX9_isNamed_7 : decode cX9_isNamed 7 = .ok (.if_icmp .ge 22, 3) := by decide +kernel
theorem dX9_isNamed_10 : decode cX9_isNamed 10 = .ok (.aload_n 0, 1) := by decide +kernel
theorem dX9_isNamed_11 : decode cX9_isNamed 11 = .ok (.getfield 11, 3) := by decide +kernel
theorem dX9_isNamed_14 : decode cX9_isNamed 14 = .ok (.iload_n 3, 1) := by decide +kernel
theorem dX9_isNamed_15 : decode cX9_isNamed 15 = .ok (.laload, 1) := by decide +kernel
theorem dX9_isNamed_16 : decode cX9_isNamed 16 = .ok (.lload_n 1, 1) := by decide +kernel
theorem dX9_isNamed_17 : decode cX9_isNamed 17 = .ok (.lcmp, 1) := by decide +kernel
theorem dX9_isNamed_18 : decode cX9_isNamed 18 = .ok (.ifCond .ne 5, 3) := by decide +kernel
theorem dX9_isNamed_21 : decode cX9_isNamed 21 = .ok (.iconst 1, 1) := by decide +kernel
theorem dX9_isNamed_22 : decode cX9_isNamed 22 = .ok (.ireturn, 1) := by decide +kernel
theorem dX9_isNamed_23 : decode cX9_isNamed 23 = .ok (.iinc 3 1, 3) := by decide +kernel
theorem dX9_isNamed_26 : decode cX9_isNamed 26 = .ok (.goto (-24), 3) := by decide +kernel
theorem dX9_isNamed_29 : decode cX9_isNamed 29 = .ok (.iconst 0, 1) := by decide +kernel
theorem dX9_isNamed_30 : decode cX9_isNamed 30 = .ok (.ireturn, 1) := by decide +kernel
abbrev rm_X9_isNamed : Room := { frames := 0, cells := 0, slots := 0, locals := 0 }
def f_X9_isNamed_2 (N : Nat) : Nat → Int64 → Int32 → St → Option Int32
  | 0, _, _, _ => none
  | n + 1, x1, x3, σ => (if (σ.1 7600 0) ≤ x3 then some 0 else grd (ib x3 40) ((if (lg_cmp (σ.2 34 x3.toNatClampNeg) x1) = 0 then some 1 else f_X9_isNamed_2 N n x1 (x3 + 1) σ)))
def f_X9_isNamed (N : Nat) (x1 : Int64) (σ : St) : Option Int32 := f_X9_isNamed_2 N N x1 0 σ
section
variable {p : Program} {l : Launch} {e : Env} {s : State} {m : MethodId} {args : Array Value} {below : List Frame} {meth : Method} {c : Code} {g : XG}
set_option maxRecDepth 4000 in
theorem w_X9_isNamed_2 (N : Nat) (σ : St) {r : Int32} (C : xC KX g RX9 cX9_isNamed 4 (some .boolean) p s m args meth c) : ∀ (n : Nat), ∀ (x1 : Int64) (x3 : Int32) (H : Heap) (locs : List Loc) (ls : Array Slot), xW KX g s σ H locs → lv_has ls 4 [(0, .ref (g.q 33)), (1, .long x1), (3, .int x3)] → f_X9_isNamed_2 N n x1 x3 σ = some r → W p l e rm_X9_isNamed s m args below meth c H locs 0 0 (MQ below (xPost KX g (some (.int r)) σ) args s 0 0 (xA KX g.q)) (F0 m 2 ls []) := by
  have hx := C.1
  have hb := C.2.1
  intro n
  induction n with
  | zero => intro x1 x3 H locs ls hW hl h; rw [f_X9_isNamed_2] at h; cases h
  | succ n ih =>
    intro x1 x3 H locs ls hW hl h
    rw [f_X9_isNamed_2] at h
    refine lv_iload_n hx hb dX9_isNamed_2 rfl (lv_at hl 2 rfl) ?_
    refine lv_aload_n hx hb dX9_isNamed_3 rfl (lv_at hl 0 rfl) ?_
    refine xg_i C hW fg_9_25 KX_33 rfl (v := 7600) rfl (x := σ.1 7600 0) rfl dX9_isNamed_4 ?_
    refine lv_icmp_ge (tgt := 29) hx hb dX9_isNamed_7 (by decide) (fun c1 => ?_) (fun c1 => ?_)
    · have h := xit c1 h
      refine lv_iconst (v := 0) hx hb dX9_isNamed_29 rfl ?_
      cases h
      exact xr_z C hW (by decide) dX9_isNamed_30
    · have h := xif c1 h
      refine lv_aload_n hx hb dX9_isNamed_10 rfl (lv_at hl 0 rfl) ?_
      refine xg_r C hW fg_9_11 KX_33 rfl dX9_isNamed_11 ?_
      refine lv_iload_n hx hb dX9_isNamed_14 rfl (lv_at hl 2 rfl) ?_
      obtain ⟨g2, h⟩ := xgd h
      refine xa_l C hW KX_34 g2 (x := σ.2 34 x3.toNatClampNeg) rfl dX9_isNamed_15 ?_
      refine lv_lload_n hx hb dX9_isNamed_16 rfl (lv_at hl 1 rfl) ?_
      refine W.lcmp hx hb dX9_isNamed_17 ?_
      refine lv_if_ne (tgt := 23) hx hb dX9_isNamed_18 (by decide) (fun c3 => ?_) (fun c3 => ?_)
      · have h := xif c3 h
        refine lv_iinc (v := x3 + 1) (lv' := [(3, .int (x3 + 1)), (0, .ref (g.q 33)), (1, .long x1)]) hx hb dX9_isNamed_23 hl (k := 2) rfl rfl (Nat.le_of_ble_eq_true rfl) rfl (fun ls hl => ?_)
        refine lv_goto (tgt := 2) hx hb dX9_isNamed_26 (by decide) ?_
        exact ih x1 (x3 + 1) _ _ _ hW (lv_sub hl [1, 2, 0] rfl) h
      · have h := xit c3 h
        refine lv_iconst (v := 1) hx hb dX9_isNamed_21 rfl ?_
        cases h
        exact xr_z C hW (by decide) dX9_isNamed_22
set_option maxRecDepth 4000 in
theorem m_X9_isNamed (N : Nat) (x1 : Int64) (σ : St) {r : Int32} (h : f_X9_isNamed N x1 σ = some r) : xM l KX g yX9_isNamed cX9_isNamed 4 (some .boolean) rm_X9_isNamed [.ref (g.q 33), .long x1] σ (some (.int r)) σ := by
  refine xmet pn_X9 rfl (Nat.le_of_ble_eq_true rfl) (lv := [(0, .ref (g.q 33)), (1, .long x1)]) rfl (fun p e s m args below meth c ls C hW hl => ?_)
  have hx := C.1
  have hb := C.2.1
  unfold f_X9_isNamed at h
  refine lv_iconst (v := 0) hx hb dX9_isNamed_0 rfl ?_
  refine lv_istore_n (lv' := [(3, .int 0), (0, .ref (g.q 33)), (1, .long x1)]) hx hb dX9_isNamed_1 rfl hl (Nat.le_of_ble_eq_true rfl) rfl (fun ls hl => ?_)
  exact w_X9_isNamed_2 N σ C N x1 0 _ _ _ hW (lv_sub hl [1, 2, 0] rfl) h
end
theorem dX9_put_0 : decode cX9_put 0 = .ok (.aload_n 0, 1) := by decide +kernel
theorem dX9_put_1 : decode cX9_put 1 = .ok (.getfield 11, 3) := by decide +kernel
theorem dX9_put_4 : decode cX9_put 4 = .ok (.aload_n 0, 1) := by decide +kernel
theorem dX9_put_5 : decode cX9_put 5 = .ok (.getfield 25, 3) := by decide +kernel
theorem dX9_put_8 : decode cX9_put 8 = .ok (.lload_n 1, 1) := by decide +kernel
theorem dX9_put_9 : decode cX9_put 9 = .ok (.lastore, 1) := by decide +kernel
theorem dX9_put_10 : decode cX9_put 10 = .ok (.aload_n 0, 1) := by decide +kernel
theorem dX9_put_11 : decode cX9_put 11 = .ok (.getfield 15, 3) := by decide +kernel
theorem dX9_put_14 : decode cX9_put 14 = .ok (.aload_n 0, 1) := by decide +kernel
theorem dX9_put_15 : decode cX9_put 15 = .ok (.getfield 25, 3) := by decide +kernel
theorem dX9_put_18 : decode cX9_put 18 = .ok (.iload_n 3, 1) := by decide +kernel
theorem dX9_put_19 : decode cX9_put 19 = .ok (.iastore, 1) := by decide +kernel
theorem dX9_put_20 : decode cX9_put 20 = .ok (.aload_n 0, 1) := by decide +kernel
theorem dX9_put_21 : decode cX9_put 21 = .ok (.getfield 19, 3) := by decide +kernel
theorem dX9_put_24 : decode cX9_put 24 = .ok (.aload_n 0, 1) := by decide +kernel
theorem dX9_put_25 : decode cX9_put 25 = .ok (.getfield 25, 3) := by decide +kernel
theorem dX9_put_28 : decode cX9_put 28 = .ok (.iload 4, 2) := by decide +kernel
theorem dX9_put_30 : decode cX9_put 30 = .ok (.iastore, 1) := by decide +kernel
theorem dX9_put_31 : decode cX9_put 31 = .ok (.aload_n 0, 1) := by decide +kernel
theorem dX9_put_32 : decode cX9_put 32 = .ok (.getfield 22, 3) := by decide +kernel
theorem dX9_put_35 : decode cX9_put 35 = .ok (.aload_n 0, 1) := by decide +kernel
theorem dX9_put_36 : decode cX9_put 36 = .ok (.getfield 25, 3) := by decide +kernel
theorem dX9_put_39 : decode cX9_put 39 = .ok (.lload 5, 2) := by decide +kernel
theorem dX9_put_41 : decode cX9_put 41 = .ok (.lastore, 1) := by decide +kernel
theorem dX9_put_42 : decode cX9_put 42 = .ok (.aload_n 0, 1) := by decide +kernel
theorem dX9_put_43 : decode cX9_put 43 = .ok (.dup, 1) := by decide +kernel
theorem dX9_put_44 : decode cX9_put 44 = .ok (.getfield 25, 3) := by decide +kernel
theorem dX9_put_47 : decode cX9_put 47 = .ok (.iconst 1, 1) := by decide +kernel
theorem dX9_put_48 : decode cX9_put 48 = .ok (.iadd, 1) := by decide +kernel
theorem dX9_put_49 : decode cX9_put 49 = .ok (.putfield 25, 3) := by decide +kernel
theorem dX9_put_52 : decode cX9_put 52 = .ok (.aload_n 0, 1) := by decide +kernel
theorem dX9_put_53 : decode cX9_put 53 = .ok (.getfield 25, 3) := by decide +kernel
theorem dX9_put_56 : decode cX9_put 56 = .ok (.iconst 1, 1) := by decide +kernel
theorem dX9_put_57 : decode cX9_put 57 = .ok (.isub, 1) := by decide +kernel
theorem dX9_put_58 : decode cX9_put 58 = .ok (.ireturn, 1) := by decide +kernel
abbrev rm_X9_put : Room := { frames := 0, cells := 0, slots := 0, locals := 0 }
def f_X9_put (x1 : Int64) (x3 : Int32) (x4 : Int32) (x5 : Int64) (σ : St) : Option (Int32 × St) := grd (ib (σ.1 7600 0) 40) (grd (ib (σ.1 7600 0) 40) (grd (ib (σ.1 7600 0) 40) (grd (ib (σ.1 7600 0) 40) (some (((σ.1 7600 0) + 1) - 1, (si (sl (si (si (sl σ 34 (σ.1 7600 0).toNatClampNeg x1) 35 (σ.1 7600 0).toNatClampNeg x3) 36 (σ.1 7600 0).toNatClampNeg x4) 37 (σ.1 7600 0).toNatClampNeg x5) 7600 0 ((σ.1 7600 0) + 1)))))))
section
variable {p : Program} {l : Launch} {e : Env} {s : State} {m : MethodId} {args : Array Value} {below : List Frame} {meth : Method} {c : Code} {g : XG}
set_option maxRecDepth 4000 in
theorem m_X9_put (x1 : Int64) (x3 : Int32) (x4 : Int32) (x5 : Int64) (σ : St) {r : Int32} {σ' : St} (h : f_X9_put x1 x3 x4 x5 σ = some (r, σ')) : xM l KX g yX9_put cX9_put 7 (some .int) rm_X9_put [.ref (g.q 33), .long x1, .int x3, .int x4, .long x5] σ (some (.int r)) σ' := by
  refine xmet pn_X9 rfl (Nat.le_of_ble_eq_true rfl) (lv := [(0, .ref (g.q 33)), (1, .long x1), (3, .int x3), (4, .int x4), (5, .long x5)]) rfl (fun p e s m args below meth c ls C hW hl => ?_)
  have hx := C.1
  have hb := C.2.1
  unfold f_X9_put at h
  refine lv_aload_n hx hb dX9_put_0 rfl (lv_at hl 0 rfl) ?_
  refine xg_r C hW fg_9_11 KX_33 rfl dX9_put_1 ?_
  refine lv_aload_n hx hb dX9_put_4 rfl (lv_at hl 0 rfl) ?_
  refine xg_i C hW fg_9_25 KX_33 rfl (v := 7600) rfl (x := σ.1 7600 0) rfl dX9_put_5 ?_
  refine lv_lload_n hx hb dX9_put_8 rfl (lv_at hl 1 rfl) ?_
  obtain ⟨g1, h⟩ := xgd h
  refine xs_l C hW KX_34 g1 dX9_put_9 (fun H locs hW => ?_)
  refine lv_aload_n hx hb dX9_put_10 rfl (lv_at hl 0 rfl) ?_
  refine xg_r C hW fg_9_15 KX_33 rfl dX9_put_11 ?_
  refine lv_aload_n hx hb dX9_put_14 rfl (lv_at hl 0 rfl) ?_
  refine xg_i C hW fg_9_25 KX_33 rfl (v := 7600) rfl (x := σ.1 7600 0) rfl dX9_put_15 ?_
  refine lv_iload_n hx hb dX9_put_18 rfl (lv_at hl 2 rfl) ?_
  obtain ⟨g2, h⟩ := xgd h
  refine xs_i C hW KX_35 g2 dX9_put_19 (fun H locs hW => ?_)
  refine lv_aload_n hx hb dX9_put_20 rfl (lv_at hl 0 rfl) ?_
  refine xg_r C hW fg_9_19 KX_33 rfl dX9_put_21 ?_
  refine lv_aload_n hx hb dX9_put_24 rfl (lv_at hl 0 rfl) ?_
  refine xg_i C hW fg_9_25 KX_33 rfl (v := 7600) rfl (x := σ.1 7600 0) rfl dX9_put_25 ?_
  refine lv_iload hx hb dX9_put_28 (lv_at hl 3 rfl) ?_
  obtain ⟨g3, h⟩ := xgd h
  refine xs_i C hW KX_36 g3 dX9_put_30 (fun H locs hW => ?_)
  refine lv_aload_n hx hb dX9_put_31 rfl (lv_at hl 0 rfl) ?_
  refine xg_r C hW fg_9_22 KX_33 rfl dX9_put_32 ?_
  refine lv_aload_n hx hb dX9_put_35 rfl (lv_at hl 0 rfl) ?_
  refine xg_i C hW fg_9_25 KX_33 rfl (v := 7600) rfl (x := σ.1 7600 0) rfl dX9_put_36 ?_
  refine lv_lload hx hb dX9_put_39 (lv_at hl 4 rfl) ?_
  obtain ⟨g4, h⟩ := xgd h
  refine xs_l C hW KX_37 g4 dX9_put_41 (fun H locs hW => ?_)
  refine lv_aload_n hx hb dX9_put_42 rfl (lv_at hl 0 rfl) ?_
  refine lv_dup hx hb dX9_put_43 rfl ?_
  refine xg_i C hW fg_9_25 KX_33 rfl (v := 7600) rfl (x := σ.1 7600 0) rfl dX9_put_44 ?_
  refine lv_iconst (v := 1) hx hb dX9_put_47 rfl ?_
  refine lv_iadd hx hb dX9_put_48 ?_
  refine xp_i C hW fp_9_25 KX_33 rfl (v := 7600) rfl rfl rfl dX9_put_49 (fun H locs hW => ?_)
  refine lv_aload_n hx hb dX9_put_52 rfl (lv_at hl 0 rfl) ?_
  refine xg_i C hW fg_9_25 KX_33 rfl (v := 7600) rfl (x := (σ.1 7600 0) + 1) rfl dX9_put_53 ?_
  refine lv_iconst (v := 1) hx hb dX9_put_56 rfl ?_
  refine lv_isub hx hb dX9_put_57 ?_
  cases h
  exact xr_i C hW dX9_put_58
end
theorem dX9_take_0 : decode cX9_take 0 = .ok (.aload_n 1, 1) := by decide +kernel
theorem dX9_take_1 : decode cX9_take 1 = .ok (.invokevirtual 29, 3) := by decide +kernel
theorem dX9_take_4 : decode cX9_take 4 = .ok (.aload_n 1, 1) := by decide +kernel
theorem dX9_take_5 : decode cX9_take 5 = .ok (.getfield 34, 3) := by decide +kernel
theorem dX9_take_8 : decode cX9_take 8 = .ok (.iconst 1, 1) := by decide +kernel
theorem dX9_take_9 : decode cX9_take 9 = .ok (.if_icmp .eq 5, 3) := by decide +kernel
theorem dX9_take_12 : decode cX9_take 12 = .ok (.iconst (-1), 1) := by decide +kernel
theorem dX9_take_13 : decode cX9_take 13 = .ok (.ireturn, 1) := by decide +kernel
theorem dX9_take_14 : decode cX9_take 14 = .ok (.aload_n 1, 1) := by decide +kernel
theorem dX9_take_15 : decode cX9_take 15 = .ok (.getfield 37, 3) := by decide +kernel
theorem dX9_take_18 : decode cX9_take 18 = .ok (.lstore_n 2, 1) := by decide +kernel
theorem dX9_take_19 : decode cX9_take 19 = .ok (.aload_n 1, 1) := by decide +kernel
theorem dX9_take_20 : decode cX9_take 20 = .ok (.invokevirtual 29, 3) := by decide +kernel
theorem dX9_take_23 : decode cX9_take 23 = .ok (.aload_n 1, 1) := by decide +kernel
theorem dX9_take_24 : decode cX9_take 24 = .ok (.bipush 8, 2) := by decide +kernel
theorem dX9_take_26 : decode cX9_take 26 = .ok (.invokevirtual 41, 3) := by decide +kernel
theorem dX9_take_29 : decode cX9_take 29 = .ok (.ifCond .ne 5, 3) := by decide +kernel
theorem dX9_take_32 : decode cX9_take 32 = .ok (.iconst (-1), 1) := by decide +kernel
theorem dX9_take_33 : decode cX9_take 33 = .ok (.ireturn, 1) := by decide +kernel
theorem dX9_take_34 : decode cX9_take 34 = .ok (.aload_n 1, 1) := by decide +kernel
theorem dX9_take_35 : decode cX9_take 35 = .ok (.getfield 45, 3) := by decide +kernel
theorem dX9_take_38 : decode cX9_take 38 = .ok (.istore 4, 2) := by decide +kernel
theorem dX9_take_40 : decode cX9_take 40 = .ok (.aload_n 1, 1) := by decide +kernel
theorem dX9_take_41 : decode cX9_take 41 = .ok (.getfield 48, 3) := by decide +kernel
theorem dX9_take_44 : decode cX9_take 44 = .ok (.istore 5, 2) := by decide +kernel
theorem dX9_take_46 : decode cX9_take 46 = .ok (.lconst 0, 1) := by decide +kernel
theorem dX9_take_47 : decode cX9_take 47 = .ok (.lstore 6, 2) := by decide +kernel
theorem dX9_take_49 : decode cX9_take 49 = .ok (.aload_n 1, 1) := by decide +kernel
theorem dX9_take_50 : decode cX9_take 50 = .ok (.invokevirtual 29, 3) := by decide +kernel
theorem dX9_take_53 : decode cX9_take 53 = .ok (.aload_n 1, 1) := by decide +kernel
theorem dX9_take_54 : decode cX9_take 54 = .ok (.getfield 34, 3) := by decide +kernel
theorem dX9_take_57 : decode cX9_take 57 = .ok (.iconst 1, 1) := by decide +kernel
theorem dX9_take_58 : decode cX9_take 58 = .ok (.if_icmp .ne 13, 3) := by decide +kernel
theorem dX9_take_61 : decode cX9_take 61 = .ok (.aload_n 1, 1) := by decide +kernel
theorem dX9_take_62 : decode cX9_take 62 = .ok (.getfield 37, 3) := by decide +kernel
theorem dX9_take_65 : decode cX9_take 65 = .ok (.lstore 6, 2) := by decide +kernel
theorem dX9_take_67 : decode cX9_take 67 = .ok (.aload_n 1, 1) := by decide +kernel
theorem dX9_take_68 : decode cX9_take 68 = .ok (.invokevirtual 29, 3) := by decide +kernel
theorem dX9_take_71 : decode cX9_take 71 = .ok (.aload_n 1, 1) := by decide +kernel
theorem dX9_take_72 : decode cX9_take 72 = .ok (.getfield 34, 3) := by decide +kernel
theorem dX9_take_75 : decode cX9_take 75 = .ok (.ifCond .eq 5, 3) := by decide +kernel
theorem dX9_take_78 : decode cX9_take 78 = .ok (.iconst (-1), 1) := by decide +kernel
theorem dX9_take_79 : decode cX9_take 79 = .ok (.ireturn, 1) := by decide +kernel
theorem dX9_take_80 : decode cX9_take 80 = .ok (.aload_n 0, 1) := by decide +kernel
theorem dX9_take_81 : decode cX9_take 81 = .ok (.lload_n 2, 1) := by decide +kernel
theorem dX9_take_82 : decode cX9_take 82 = .ok (.invokevirtual 51, 3) := by decide +kernel
theorem dX9_take_85 : decode cX9_take 85 = .ok (.ifCond .eq 6, 3) := by decide +kernel
theorem dX9_take_88 : decode cX9_take 88 = .ok (.bipush (-4), 2) := by decide +kernel
theorem dX9_take_90 : decode cX9_take 90 = .ok (.ireturn, 1) := by decide +kernel
theorem dX9_take_91 : decode cX9_take 91 = .ok (.aload_n 0, 1) := by decide +kernel
theorem dX9_take_92 : decode cX9_take 92 = .ok (.getfield 25, 3) := by decide +kernel
theorem dX9_take_95 : decode cX9_take 95 = .ok (.bipush 40, 2) := by decide +kernel
theorem dX9_take_97 : decode cX9_take 97 = .ok (.if_icmp .lt 8, 3) := by decide +kernel
theorem dX9_take_100 : decode cX9_take 100 = .ok (.bipush (-3), 2) := by decide +kernel
theorem dX9_take_102 : decode cX9_take 102 = .ok (.goto 14, 3) := by decide +kernel
theorem dX9_take_105 : decode cX9_take 105 = .ok (.aload_n 0, 1) := by decide +kernel
theorem dX9_take_106 : decode cX9_take 106 = .ok (.lload_n 2, 1) := by decide +kernel
theorem dX9_take_107 : decode cX9_take 107 = .ok (.iload 4, 2) := by decide +kernel
theorem dX9_take_109 : decode cX9_take 109 = .ok (.iload 5, 2) := by decide +kernel
theorem dX9_take_111 : decode cX9_take 111 = .ok (.lload 6, 2) := by decide +kernel
theorem dX9_take_113 : decode cX9_take 113 = .ok (.invokevirtual 55, 3) := by decide +kernel
theorem dX9_take_116 : decode cX9_take 116 = .ok (.ireturn, 1) := by decide +kernel
abbrev rm_X9_take : Room := { frames := 3, cells := 0, slots := 0, locals := 61 }
def f_X9_take_71 (N : Nat) (x2 : Int64) (x4 : Int32) (x5 : Int32) (x6 : Int64) (σ : St) : Option (Int32 × St) := (if (σ.1 4803 0) = 0 then bo (f_X9_isNamed N x2 σ) (fun r9_ => (if r9_ = 0 then (if (σ.1 7600 0) < 40 then bd (f_X9_put x2 x4 x5 x6 σ) (fun r12_ σ12 => some (r12_, σ12)) else some ((-3), σ)) else some ((-4), σ))) else some ((-1), σ))
def f_X9_take (N : Nat) (σ : St) : Option (Int32 × St) := bo (f_X8_next N σ) (fun σ1 => (if (σ1.1 4803 0) = 1 then bo (f_X8_next N σ1) (fun σ3 => (if (f_X8_isRow 8 σ3) = 0 then some ((-1), σ3) else bo (f_X8_next N σ3) (fun σ5 => (if (σ5.1 4803 0) = 1 then bo (f_X8_next N σ5) (fun σ7 => f_X9_take_71 N (σ1.2 4806 0) (σ3.1 4807 0) (σ3.1 4805 0) (σ5.2 4806 0) σ7) else f_X9_take_71 N (σ1.2 4806 0) (σ3.1 4807 0) (σ3.1 4805 0) 0 σ5)))) else some ((-1), σ1)))
section
variable {p : Program} {l : Launch} {e : Env} {s : State} {m : MethodId} {args : Array Value} {below : List Frame} {meth : Method} {c : Code} {g : XG}
set_option maxRecDepth 4000 in
theorem w_X9_take_71 (N : Nat) {r : Int32} {σ' : St} (C : xC KX g RX9 cX9_take 8 (some .int) p s m args meth c) : ∀ (x2 : Int64) (x4 : Int32) (x5 : Int32) (x6 : Int64) (σ : St) (H : Heap) (locs : List Loc) (ls : Array Slot), xW KX g s σ H locs → lv_has ls 8 [(0, .ref (g.q 33)), (1, .ref (g.q 19)), (2, .long x2), (4, .int x4), (5, .int x5), (6, .long x6)] → f_X9_take_71 N x2 x4 x5 x6 σ = some (r, σ') → W p l e rm_X9_take s m args below meth c H locs 0 0 (MQ below (xPost KX g (some (.int r)) σ') args s 0 0 (xA KX g.q)) (F0 m 71 ls []) := by
  have hx := C.1
  have hb := C.2.1
  intro x2 x4 x5 x6 σ H locs ls hW hl h
  unfold f_X9_take_71 at h
  refine lv_aload_n hx hb dX9_take_71 rfl (lv_at hl 1 rfl) ?_
  refine xg_i C hW fg_9_34 KX_19 rfl (v := 4803) rfl (x := σ.1 4803 0) rfl dX9_take_72 ?_
  refine lv_if_eq (tgt := 80) hx hb dX9_take_75 (by decide) (fun c8 => ?_) (fun c8 => ?_)
  · have h := xit c8 h
    refine lv_aload_n hx hb dX9_take_80 rfl (lv_at hl 0 rfl) ?_
    refine lv_lload_n hx hb dX9_take_81 rfl (lv_at hl 2 rfl) ?_
    obtain ⟨r9_, e9, h⟩ := xbo h
    refine xc_V (As := [.long x2]) (rest := []) C hW (m_X9_isNamed N x2 _ e9) mf_X9_isNamed mv_X9_isNamed ml_X9_51 ⟨rfl, rfl⟩ ⟨Nat.le_of_ble_eq_true rfl, Nat.le_of_ble_eq_true rfl⟩ KX_33 rfl hl.1 rfl rfl (Nat.le_of_ble_eq_true rfl) dX9_take_82 (fun H locs hW => W.eq (g2 := F0 m 85 ls [.int r9_]) rfl ?_)
    refine lv_if_eq (tgt := 91) hx hb dX9_take_85 (by decide) (fun c10 => ?_) (fun c10 => ?_)
    · have h := xit c10 h
      refine lv_aload_n hx hb dX9_take_91 rfl (lv_at hl 0 rfl) ?_
      refine xg_i C hW fg_9_25 KX_33 rfl (v := 7600) rfl (x := σ.1 7600 0) rfl dX9_take_92 ?_
      refine lv_bipush (v := 40) hx hb dX9_take_95 rfl ?_
      refine lv_icmp_lt (tgt := 105) hx hb dX9_take_97 (by decide) (fun c11 => ?_) (fun c11 => ?_)
      · have h := xit c11 h
        refine lv_aload_n hx hb dX9_take_105 rfl (lv_at hl 0 rfl) ?_
        refine lv_lload_n hx hb dX9_take_106 rfl (lv_at hl 2 rfl) ?_
        refine lv_iload hx hb dX9_take_107 (lv_at hl 3 rfl) ?_
        refine lv_iload hx hb dX9_take_109 (lv_at hl 4 rfl) ?_
        refine lv_lload hx hb dX9_take_111 (lv_at hl 5 rfl) ?_
        obtain ⟨r12_, σ12, e12, h⟩ := xbd h
        refine xc_V (As := [.long x2, .int x4, .int x5, .long x6]) (rest := []) C hW (m_X9_put x2 x4 x5 x6 _ e12) mf_X9_put mv_X9_put ml_X9_55 ⟨rfl, rfl⟩ ⟨Nat.le_of_ble_eq_true rfl, Nat.le_of_ble_eq_true rfl⟩ KX_33 rfl hl.1 rfl rfl (Nat.le_of_ble_eq_true rfl) dX9_take_113 (fun H locs hW => W.eq (g2 := F0 m 116 ls [.int r12_]) rfl ?_)
        cases h
        exact xr_i C hW dX9_take_116
      · have h := xif c11 h
        refine lv_bipush (v := (-3)) hx hb dX9_take_100 rfl ?_
        refine lv_goto (tgt := 116) hx hb dX9_take_102 (by decide) ?_
        cases h
        exact xr_i C hW dX9_take_116
    · have h := xif c10 h
      refine lv_bipush (v := (-4)) hx hb dX9_take_88 rfl ?_
      cases h
      exact xr_i C hW dX9_take_90
  · have h := xif c8 h
    refine lv_iconst (v := (-1)) hx hb dX9_take_78 rfl ?_
    cases h
    exact xr_i C hW dX9_take_79
set_option maxRecDepth 4000 in
theorem m_X9_take (N : Nat) (σ : St) {r : Int32} {σ' : St} (h : f_X9_take N σ = some (r, σ')) : xM l KX g yX9_take cX9_take 8 (some .int) rm_X9_take [.ref (g.q 33), .ref (g.q 19)] σ (some (.int r)) σ' := by
  refine xmet pn_X9 rfl (Nat.le_of_ble_eq_true rfl) (lv := [(0, .ref (g.q 33)), (1, .ref (g.q 19))]) rfl (fun p e s m args below meth c ls C hW hl => ?_)
  have hx := C.1
  have hb := C.2.1
  unfold f_X9_take at h
  refine lv_aload_n hx hb dX9_take_0 rfl (lv_at hl 1 rfl) ?_
  obtain ⟨σ1, e1, h⟩ := xbo h
  refine xc_V (As := []) (rest := []) C hW (m_X8_next N _ e1) mf_X8_next mv_X8_next ml_X9_29 ⟨rfl, rfl⟩ ⟨Nat.le_of_ble_eq_true rfl, Nat.le_of_ble_eq_true rfl⟩ KX_19 rfl hl.1 rfl rfl (Nat.le_of_ble_eq_true rfl) dX9_take_1 (fun H locs hW => W.eq (g2 := F0 m 4 ls []) rfl ?_)
  refine lv_aload_n hx hb dX9_take_4 rfl (lv_at hl 1 rfl) ?_
  refine xg_i C hW fg_9_34 KX_19 rfl (v := 4803) rfl (x := σ1.1 4803 0) rfl dX9_take_5 ?_
  refine lv_iconst (v := 1) hx hb dX9_take_8 rfl ?_
  refine lv_icmp_eq (tgt := 14) hx hb dX9_take_9 (by decide) (fun c2 => ?_) (fun c2 => ?_)
  · have h := xit c2 h
    refine lv_aload_n hx hb dX9_take_14 rfl (lv_at hl 1 rfl) ?_
    refine xg_l C hW fg_9_37 KX_19 rfl (v := 4806) rfl (x := σ1.2 4806 0) rfl dX9_take_15 ?_
    refine lv_lstore_n (lv' := [(2, .long (σ1.2 4806 0)), (0, .ref (g.q 33)), (1, .ref (g.q 19))]) hx hb dX9_take_18 rfl hl (Nat.le_of_ble_eq_true rfl) rfl (fun ls hl => ?_)
    refine lv_aload_n hx hb dX9_take_19 rfl (lv_at hl 2 rfl) ?_
    obtain ⟨σ3, e3, h⟩ := xbo h
    refine xc_V (As := []) (rest := []) C hW (m_X8_next N _ e3) mf_X8_next mv_X8_next ml_X9_29 ⟨rfl, rfl⟩ ⟨Nat.le_of_ble_eq_true rfl, Nat.le_of_ble_eq_true rfl⟩ KX_19 rfl hl.1 rfl rfl (Nat.le_of_ble_eq_true rfl) dX9_take_20 (fun H locs hW => W.eq (g2 := F0 m 23 ls []) rfl ?_)
    refine lv_aload_n hx hb dX9_take_23 rfl (lv_at hl 2 rfl) ?_
    refine lv_bipush (v := 8) hx hb dX9_take_24 rfl ?_
    refine xc_V (As := [.int 8]) (rest := []) C hW (m_X8_isRow 8 _ rfl) mf_X8_isRow mv_X8_isRow ml_X9_41 ⟨rfl, rfl⟩ ⟨Nat.le_of_ble_eq_true rfl, Nat.le_of_ble_eq_true rfl⟩ KX_19 rfl hl.1 rfl rfl (Nat.le_of_ble_eq_true rfl) dX9_take_26 (fun H locs hW => W.eq (g2 := F0 m 29 ls [.int (f_X8_isRow 8 σ3)]) rfl ?_)
    refine lv_if_ne (tgt := 34) hx hb dX9_take_29 (by decide) (fun c4 => ?_) (fun c4 => ?_)
    · have h := xif c4 h
      refine lv_aload_n hx hb dX9_take_34 rfl (lv_at hl 2 rfl) ?_
      refine xg_i C hW fg_9_45 KX_19 rfl (v := 4807) rfl (x := σ3.1 4807 0) rfl dX9_take_35 ?_
      refine lv_istore (lv' := [(4, .int (σ3.1 4807 0)), (2, .long (σ1.2 4806 0)), (0, .ref (g.q 33)), (1, .ref (g.q 19))]) hx hb dX9_take_38 hl (Nat.le_of_ble_eq_true rfl) rfl (fun ls hl => ?_)
      refine lv_aload_n hx hb dX9_take_40 rfl (lv_at hl 3 rfl) ?_
      refine xg_i C hW fg_9_48 KX_19 rfl (v := 4805) rfl (x := σ3.1 4805 0) rfl dX9_take_41 ?_
      refine lv_istore (lv' := [(5, .int (σ3.1 4805 0)), (4, .int (σ3.1 4807 0)), (2, .long (σ1.2 4806 0)), (0, .ref (g.q 33)), (1, .ref (g.q 19))]) hx hb dX9_take_44 hl (Nat.le_of_ble_eq_true rfl) rfl (fun ls hl => ?_)
      refine lv_lconst (v := 0) hx hb dX9_take_46 rfl ?_
      refine lv_lstore (lv' := [(6, .long 0), (5, .int (σ3.1 4805 0)), (4, .int (σ3.1 4807 0)), (2, .long (σ1.2 4806 0)), (0, .ref (g.q 33)), (1, .ref (g.q 19))]) hx hb dX9_take_47 hl (Nat.le_of_ble_eq_true rfl) rfl (fun ls hl => ?_)
      refine lv_aload_n hx hb dX9_take_49 rfl (lv_at hl 5 rfl) ?_
      obtain ⟨σ5, e5, h⟩ := xbo h
      refine xc_V (As := []) (rest := []) C hW (m_X8_next N _ e5) mf_X8_next mv_X8_next ml_X9_29 ⟨rfl, rfl⟩ ⟨Nat.le_of_ble_eq_true rfl, Nat.le_of_ble_eq_true rfl⟩ KX_19 rfl hl.1 rfl rfl (Nat.le_of_ble_eq_true rfl) dX9_take_50 (fun H locs hW => W.eq (g2 := F0 m 53 ls []) rfl ?_)
      refine lv_aload_n hx hb dX9_take_53 rfl (lv_at hl 5 rfl) ?_
      refine xg_i C hW fg_9_34 KX_19 rfl (v := 4803) rfl (x := σ5.1 4803 0) rfl dX9_take_54 ?_
      refine lv_iconst (v := 1) hx hb dX9_take_57 rfl ?_
      refine lv_icmp_ne (tgt := 71) hx hb dX9_take_58 (by decide) (fun c6 => ?_) (fun c6 => ?_)
      · have h := xif c6 h
        exact w_X9_take_71 N C (σ1.2 4806 0) (σ3.1 4807 0) (σ3.1 4805 0) 0 _ _ _ _ hW (lv_sub hl [4, 5, 3, 2, 1, 0] rfl) h
      · have h := xit c6 h
        refine lv_aload_n hx hb dX9_take_61 rfl (lv_at hl 5 rfl) ?_
        refine xg_l C hW fg_9_37 KX_19 rfl (v := 4806) rfl (x := σ5.2 4806 0) rfl dX9_take_62 ?_
        refine lv_lstore (lv' := [(6, .long (σ5.2 4806 0)), (5, .int (σ3.1 4805 0)), (4, .int (σ3.1 4807 0)), (2, .long (σ1.2 4806 0)), (0, .ref (g.q 33)), (1, .ref (g.q 19))]) hx hb dX9_take_65 hl (Nat.le_of_ble_eq_true rfl) rfl (fun ls hl => ?_)
        refine lv_aload_n hx hb dX9_take_67 rfl (lv_at hl 5 rfl) ?_
        obtain ⟨σ7, e7, h⟩ := xbo h
        refine xc_V (As := []) (rest := []) C hW (m_X8_next N _ e7) mf_X8_next mv_X8_next ml_X9_29 ⟨rfl, rfl⟩ ⟨Nat.le_of_ble_eq_true rfl, Nat.le_of_ble_eq_true rfl⟩ KX_19 rfl hl.1 rfl rfl (Nat.le_of_ble_eq_true rfl) dX9_take_68 (fun H locs hW => W.eq (g2 := F0 m 71 ls []) rfl ?_)
        exact w_X9_take_71 N C (σ1.2 4806 0) (σ3.1 4807 0) (σ3.1 4805 0) (σ5.2 4806 0) _ _ _ _ hW (lv_sub hl [4, 5, 3, 2, 1, 0] rfl) h
    · have h := xit c4 h
      refine lv_iconst (v := (-1)) hx hb dX9_take_32 rfl ?_
      cases h
      exact xr_i C hW dX9_take_33
  · have h := xif c2 h
    refine lv_iconst (v := (-1)) hx hb dX9_take_12 rfl ?_
    cases h
    exact xr_i C hW dX9_take_13
end
theorem dX10_forget_0 : decode cX10_forget 0 = .ok (.aload_n 0, 1) := by decide +kernel
theorem dX10_forget_1 : decode cX10_forget 1 = .ok (.iconst 0, 1) := by decide +kernel
theorem dX10_forget_2 : decode cX10_forget 2 = .ok (.putfield 27, 3) := by decide +kernel
theorem dX10_forget_5 : decode cX10_forget 5 = .ok (.aload_n 0, 1) := by decide +kernel
theorem dX10_forget_6 : decode cX10_forget 6 = .ok (.iconst 0, 1) := by decide +kernel
theorem dX10_forget_7 : decode cX10_forget 7 = .ok (.putfield 31, 3) := by decide +kernel
theorem dX10_forget_10 : decode cX10_forget 10 = .ok (.return_, 1) := by decide +kernel
abbrev rm_X10_forget : Room := { frames := 0, cells := 0, slots := 0, locals := 0 }
def f_X10_forget (σ : St) : Option St := some ((si (si σ 15600 0 0) 15601 0 0))
section
variable {p : Program} {l : Launch} {e : Env} {s : State} {m : MethodId} {args : Array Value} {below : List Frame} {meth : Method} {c : Code} {g : XG}
set_option maxRecDepth 4000 in
theorem m_X10_forget (σ : St) {σ' : St} (h : f_X10_forget σ = some σ') : xM l KX g yX10_forget cX10_forget 1 none rm_X10_forget [.ref (g.q 73)] σ none σ' := by
  refine xmet pn_X10 rfl (Nat.le_of_ble_eq_true rfl) (lv := [(0, .ref (g.q 73))]) rfl (fun p e s m args below meth c ls C hW hl => ?_)
  have hx := C.1
  have hb := C.2.1
  unfold f_X10_forget at h
  refine lv_aload_n hx hb dX10_forget_0 rfl (lv_at hl 0 rfl) ?_
  refine lv_iconst (v := 0) hx hb dX10_forget_1 rfl ?_
  refine xp_i C hW fp_10_27 KX_73 rfl (v := 15600) rfl rfl rfl dX10_forget_2 (fun H locs hW => ?_)
  refine lv_aload_n hx hb dX10_forget_5 rfl (lv_at hl 0 rfl) ?_
  refine lv_iconst (v := 0) hx hb dX10_forget_6 rfl ?_
  refine xp_i C hW fp_10_31 KX_73 rfl (v := 15601) rfl rfl rfl dX10_forget_7 (fun H locs hW => ?_)
  cases h
  exact xr_v C hW dX10_forget_10
end
theorem dX10_put_0 : decode cX10_put 0 = .ok (.aload_n 0, 1) := by decide +kernel
theorem dX10_put_1 : decode cX10_put 1 = .ok (.getfield 27, 3) := by decide +kernel
theorem dX10_put_4 : decode cX10_put 4 = .ok (.bipush 60, 2) := by decide +kernel
theorem dX10_put_6 : decode cX10_put 6 = .ok (.if_icmp .lt 4, 3) := by decide +kernel
theorem dX10_put_9 : decode cX10_put 9 = .ok (.return_, 1) := by decide +kernel
theorem dX10_put_10 : decode cX10_put 10 = .ok (.aload_n 0, 1) := by decide +kernel
theorem dX10_put_11 : decode cX10_put 11 = .ok (.getfield 11, 3) := by decide +kernel
theorem dX10_put_14 : decode cX10_put 14 = .ok (.aload_n 0, 1) := by decide +kernel
theorem dX10_put_15 : decode cX10_put 15 = .ok (.getfield 27, 3) := by decide +kernel
theorem dX10_put_18 : decode cX10_put 18 = .ok (.iload_n 1, 1) := by decide +kernel
theorem dX10_put_19 : decode cX10_put 19 = .ok (.iastore, 1) := by decide +kernel
theorem dX10_put_20 : decode cX10_put 20 = .ok (.aload_n 0, 1) := by decide +kernel
theorem dX10_put_21 : decode cX10_put 21 = .ok (.getfield 15, 3) := by decide +kernel
theorem dX10_put_24 : decode cX10_put 24 = .ok (.aload_n 0, 1) := by decide +kernel
theorem dX10_put_25 : decode cX10_put 25 = .ok (.getfield 27, 3) := by decide +kernel
theorem dX10_put_28 : decode cX10_put 28 = .ok (.iload_n 2, 1) := by decide +kernel
theorem dX10_put_29 : decode cX10_put 29 = .ok (.iastore, 1) := by decide +kernel
theorem dX10_put_30 : decode cX10_put 30 = .ok (.aload_n 0, 1) := by decide +kernel
theorem dX10_put_31 : decode cX10_put 31 = .ok (.getfield 18, 3) := by decide +kernel
theorem dX10_put_34 : decode cX10_put 34 = .ok (.aload_n 0, 1) := by decide +kernel
theorem dX10_put_35 : decode cX10_put 35 = .ok (.getfield 27, 3) := by decide +kernel
theorem dX10_put_38 : decode cX10_put 38 = .ok (.iload_n 3, 1) := by decide +kernel
theorem dX10_put_39 : decode cX10_put 39 = .ok (.iastore, 1) := by decide +kernel
theorem dX10_put_40 : decode cX10_put 40 = .ok (.aload_n 0, 1) := by decide +kernel
theorem dX10_put_41 : decode cX10_put 41 = .ok (.iload_n 3, 1) := by decide +kernel
theorem dX10_put_42 : decode cX10_put 42 = .ok (.putfield 31, 3) := by decide +kernel
theorem dX10_put_45 : decode cX10_put 45 = .ok (.aload_n 0, 1) := by decide +kernel
theorem dX10_put_46 : decode cX10_put 46 = .ok (.dup, 1) := by decide +kernel
theorem dX10_put_47 : decode cX10_put 47 = .ok (.getfield 27, 3) := by decide +kernel
theorem dX10_put_50 : decode cX10_put 50 = .ok (.iconst 1, 1) := by decide +kernel
theorem dX10_put_51 : decode cX10_put 51 = .ok (.iadd, 1) := by decide +kernel
theorem dX10_put_52 : decode cX10_put 52 = .ok (.putfield 27, 3) := by decide +kernel
theorem dX10_put_55 : decode cX10_put 55 = .ok (.return_, 1) := by decide +kernel
abbrev rm_X10_put : Room := { frames := 0, cells := 0, slots := 0, locals := 0 }
def f_X10_put (x1 : Int32) (x2 : Int32) (x3 : Int32) (σ : St) : Option St := (if (σ.1 15600 0) < 60 then grd (ib (σ.1 15600 0) 60) (grd (ib (σ.1 15600 0) 60) (grd (ib (σ.1 15600 0) 60) (some ((si (si (si (si (si σ 74 (σ.1 15600 0).toNatClampNeg x1) 75 (σ.1 15600 0).toNatClampNeg x2) 76 (σ.1 15600 0).toNatClampNeg x3) 15601 0 x3) 15600 0 ((σ.1 15600 0) + 1)))))) else some σ)
section
variable {p : Program} {l : Launch} {e : Env} {s : State} {m : MethodId} {args : Array Value} {below : List Frame} {meth : Method} {c : Code} {g : XG}
set_option maxRecDepth 4000 in
theorem m_X10_put (x1 : Int32) (x2 : Int32) (x3 : Int32) (σ : St) {σ' : St} (h : f_X10_put x1 x2 x3 σ = some σ') : xM l KX g yX10_put cX10_put 4 none rm_X10_put [.ref (g.q 73), .int x1, .int x2, .int x3] σ none σ' := by
  refine xmet pn_X10 rfl (Nat.le_of_ble_eq_true rfl) (lv := [(0, .ref (g.q 73)), (1, .int x1), (2, .int x2), (3, .int x3)]) rfl (fun p e s m args below meth c ls C hW hl => ?_)
  have hx := C.1
  have hb := C.2.1
  unfold f_X10_put at h
  refine lv_aload_n hx hb dX10_put_0 rfl (lv_at hl 0 rfl) ?_
  refine xg_i C hW fg_10_27 KX_73 rfl (v := 15600) rfl (x := σ.1 15600 0) rfl dX10_put_1 ?_
  refine lv_bipush (v := 60) hx hb dX10_put_4 rfl ?_
  refine lv_icmp_lt (tgt := 10) hx hb dX10_put_6 (by decide) (fun c1 => ?_) (fun c1 => ?_)
  · have h := xit c1 h
    refine lv_aload_n hx hb dX10_put_10 rfl (lv_at hl 0 rfl) ?_
    refine xg_r C hW fg_10_11 KX_73 rfl dX10_put_11 ?_
    refine lv_aload_n hx hb dX10_put_14 rfl (lv_at hl 0 rfl) ?_
    refine xg_i C hW fg_10_27 KX_73 rfl (v := 15600) rfl (x := σ.1 15600 0) rfl dX10_put_15 ?_
    refine lv_iload_n hx hb dX10_put_18 rfl (lv_at hl 1 rfl) ?_
    obtain ⟨g2, h⟩ := xgd h
    refine xs_i C hW KX_74 g2 dX10_put_19 (fun H locs hW => ?_)
    refine lv_aload_n hx hb dX10_put_20 rfl (lv_at hl 0 rfl) ?_
    refine xg_r C hW fg_10_15 KX_73 rfl dX10_put_21 ?_
    refine lv_aload_n hx hb dX10_put_24 rfl (lv_at hl 0 rfl) ?_
    refine xg_i C hW fg_10_27 KX_73 rfl (v := 15600) rfl (x := σ.1 15600 0) rfl dX10_put_25 ?_
    refine lv_iload_n hx hb dX10_put_28 rfl (lv_at hl 2 rfl) ?_
    obtain ⟨g3, h⟩ := xgd h
    refine xs_i C hW KX_75 g3 dX10_put_29 (fun H locs hW => ?_)
    refine lv_aload_n hx hb dX10_put_30 rfl (lv_at hl 0 rfl) ?_
    refine xg_r C hW fg_10_18 KX_73 rfl dX10_put_31 ?_
    refine lv_aload_n hx hb dX10_put_34 rfl (lv_at hl 0 rfl) ?_
    refine xg_i C hW fg_10_27 KX_73 rfl (v := 15600) rfl (x := σ.1 15600 0) rfl dX10_put_35 ?_
    refine lv_iload_n hx hb dX10_put_38 rfl (lv_at hl 3 rfl) ?_
    obtain ⟨g4, h⟩ := xgd h
    refine xs_i C hW KX_76 g4 dX10_put_39 (fun H locs hW => ?_)
    refine lv_aload_n hx hb dX10_put_40 rfl (lv_at hl 0 rfl) ?_
    refine lv_iload_n hx hb dX10_put_41 rfl (lv_at hl 3 rfl) ?_
    refine xp_i C hW fp_10_31 KX_73 rfl (v := 15601) rfl rfl rfl dX10_put_42 (fun H locs hW => ?_)
    refine lv_aload_n hx hb dX10_put_45 rfl (lv_at hl 0 rfl) ?_
    refine lv_dup hx hb dX10_put_46 rfl ?_
    refine xg_i C hW fg_10_27 KX_73 rfl (v := 15600) rfl (x := σ.1 15600 0) rfl dX10_put_47 ?_
    refine lv_iconst (v := 1) hx hb dX10_put_50 rfl ?_
    refine lv_iadd hx hb dX10_put_51 ?_
    refine xp_i C hW fp_10_27 KX_73 rfl (v := 15600) rfl rfl rfl dX10_put_52 (fun H locs hW => ?_)
    cases h
    exact xr_v C hW dX10_put_55
  · have h := xif c1 h
    cases h
    exact xr_v C hW dX10_put_9
end
theorem dX10_putSounds_0 : decode cX10_putSounds 0 = .ok (.aload_n 0, 1) := by decide +kernel
theorem dX10_putSounds_1 : decode cX10_putSounds 1 = .ok (.getfield 27, 3) := by decide +kernel
theorem dX10_putSounds_4 : decode cX10_putSounds 4 = .ok (.ifCond .le 27, 3) := by decide +kernel
theorem dX10_putSounds_7 : decode cX10_putSounds 7 = .ok (.aload_n 0, 1) := by decide +kernel
theorem dX10_putSounds_8 : decode cX10_putSounds 8 = .ok (.getfield 21, 3) := by decide +kernel
theorem dX10_putSounds_11 : decode cX10_putSounds 11 = .ok (.aload_n 0, 1) := by decide +kernel
theorem dX10_putSounds_12 : decode cX10_putSounds 12 = .ok (.getfield 27, 3) := by decide +kernel
theorem dX10_putSounds_15 : decode cX10_putSounds 15 = .ok (.iconst 1, 1) := by decide +kernel
theorem dX10_putSounds_16 : decode cX10_putSounds 16 = .ok (.isub, 1) := by decide +kernel
theorem dX10_putSounds_17 : decode cX10_putSounds 17 = .ok (.iload_n 1, 1) := by decide +kernel
theorem dX10_putSounds_18 : decode cX10_putSounds 18 = .ok (.iastore, 1) := by decide +kernel
theorem dX10_putSounds_19 : decode cX10_putSounds 19 = .ok (.aload_n 0, 1) := by decide +kernel
theorem dX10_putSounds_20 : decode cX10_putSounds 20 = .ok (.getfield 24, 3) := by decide +kernel
theorem dX10_putSounds_23 : decode cX10_putSounds 23 = .ok (.aload_n 0, 1) := by decide +kernel
theorem dX10_putSounds_24 : decode cX10_putSounds 24 = .ok (.getfield 27, 3) := by decide +kernel
theorem dX10_putSounds_27 : decode cX10_putSounds 27 = .ok (.iconst 1, 1) := by decide +kernel
theorem dX10_putSounds_28 : decode cX10_putSounds 28 = .ok (.isub, 1) := by decide +kernel
theorem dX10_putSounds_29 : decode cX10_putSounds 29 = .ok (.iload_n 2, 1) := by decide +kernel
theorem dX10_putSounds_30 : decode cX10_putSounds 30 = .ok (.iastore, 1) := by decide +kernel
theorem dX10_putSounds_31 : decode cX10_putSounds 31 = .ok (.return_, 1) := by decide +kernel
abbrev rm_X10_putSounds : Room := { frames := 0, cells := 0, slots := 0, locals := 0 }
def f_X10_putSounds (x1 : Int32) (x2 : Int32) (σ : St) : Option St := (if (σ.1 15600 0) ≤ 0 then some σ else grd (ib ((σ.1 15600 0) - 1) 60) (grd (ib ((σ.1 15600 0) - 1) 60) (some ((si (si σ 77 ((σ.1 15600 0) - 1).toNatClampNeg x1) 78 ((σ.1 15600 0) - 1).toNatClampNeg x2)))))
section
variable {p : Program} {l : Launch} {e : Env} {s : State} {m : MethodId} {args : Array Value} {below : List Frame} {meth : Method} {c : Code} {g : XG}
set_option maxRecDepth 4000 in
theorem m_X10_putSounds (x1 : Int32) (x2 : Int32) (σ : St) {σ' : St} (h : f_X10_putSounds x1 x2 σ = some σ') : xM l KX g yX10_putSounds cX10_putSounds 3 none rm_X10_putSounds [.ref (g.q 73), .int x1, .int x2] σ none σ' := by
  refine xmet pn_X10 rfl (Nat.le_of_ble_eq_true rfl) (lv := [(0, .ref (g.q 73)), (1, .int x1), (2, .int x2)]) rfl (fun p e s m args below meth c ls C hW hl => ?_)
  have hx := C.1
  have hb := C.2.1
  unfold f_X10_putSounds at h
  refine lv_aload_n hx hb dX10_putSounds_0 rfl (lv_at hl 0 rfl) ?_
  refine xg_i C hW fg_10_27 KX_73 rfl (v := 15600) rfl (x := σ.1 15600 0) rfl dX10_putSounds_1 ?_
  refine lv_if_le (tgt := 31) hx hb dX10_putSounds_4 (by decide) (fun c1 => ?_) (fun c1 => ?_)
  · have h := xit c1 h
    cases h
    exact xr_v C hW dX10_putSounds_31
  · have h := xif c1 h
    refine lv_aload_n hx hb dX10_putSounds_7 rfl (lv_at hl 0 rfl) ?_
    refine xg_r C hW fg_10_21 KX_73 rfl dX10_putSounds_8 ?_
    refine lv_aload_n hx hb dX10_putSounds_11 rfl (lv_at hl 0 rfl) ?_
    refine xg_i C hW fg_10_27 KX_73 rfl (v := 15600) rfl (x := σ.1 15600 0) rfl dX10_putSounds_12 ?_
    refine lv_iconst (v := 1) hx hb dX10_putSounds_15 rfl ?_
    refine lv_isub hx hb dX10_putSounds_16 ?_
    refine lv_iload_n hx hb dX10_putSounds_17 rfl (lv_at hl 1 rfl) ?_
    obtain ⟨g2, h⟩ := xgd h
    refine xs_i C hW KX_77 g2 dX10_putSounds_18 (fun H locs hW => ?_)
    refine lv_aload_n hx hb dX10_putSounds_19 rfl (lv_at hl 0 rfl) ?_
    refine xg_r C hW fg_10_24 KX_73 rfl dX10_putSounds_20 ?_
    refine lv_aload_n hx hb dX10_putSounds_23 rfl (lv_at hl 0 rfl) ?_
    refine xg_i C hW fg_10_27 KX_73 rfl (v := 15600) rfl (x := σ.1 15600 0) rfl dX10_putSounds_24 ?_
    refine lv_iconst (v := 1) hx hb dX10_putSounds_27 rfl ?_
    refine lv_isub hx hb dX10_putSounds_28 ?_
    refine lv_iload_n hx hb dX10_putSounds_29 rfl (lv_at hl 2 rfl) ?_
    obtain ⟨g3, h⟩ := xgd h
    refine xs_i C hW KX_78 g3 dX10_putSounds_30 (fun H locs hW => ?_)
    cases h
    exact xr_v C hW dX10_putSounds_31
end
theorem dX10_latestFor_0 : decode cX10_latestFor 0 = .ok (.iconst (-1), 1) := by decide +kernel
theorem dX10_latestFor_1 : decode cX10_latestFor 1 = .ok (.istore 4, 2) := by decide +kernel
theorem dX10_latestFor_3 : decode cX10_latestFor 3 = .ok (.iconst 0, 1) := by decide +kernel
theorem dX10_latestFor_4 : decode cX10_latestFor 4 = .ok (.istore 5, 2) := by decide +kernel
theorem dX10_latestFor_6 : decode cX10_latestFor 6 = .ok (.iload 5, 2) := by decide +kernel
theorem dX10_latestFor_8 : decode cX10_latestFor 8 = .ok (.aload_n 0, 1) := by decide +kernel
theorem dX10_latestFor_9 : decode cX10_latestFor 9 = .ok (.getfield 27, 3) := by decide +kernel
theorem dX10_latestFor_12 : decode cX10_latestFor 12 = .ok (.if_icmp .ge 80, 3) := by decide +kernel
theorem dX10_latestFor_15 : decode cX10_latestFor 15 = .ok (.aload_n 0, 1) := by decide +kernel
theorem dX10_latestFor_16 : decode cX10_latestFor 16 = .ok (.getfield 11, 3) := by decide +kernel
theorem dX10_latestFor_19 : decode cX10_latestFor 19 = .ok (.iload 5, 2) := by decide +kernel
theorem dX10_latestFor_21 : decode cX10_latestFor 21 = .ok (.iaload, 1) := by decide +kernel
theorem dX10_latestFor_22 : decode cX10_latestFor 22 = .ok (.iload_n 1, 1) := by decide +kernel
theorem dX10_latestFor_23 : decode cX10_latestFor 23 = .ok (.if_icmp .ne 29, 3) := by decide +kernel
theorem dX10_latestFor_26 : decode cX10_latestFor 26 = .ok (.aload_n 0, 1) := by decide +kernel
theorem dX10_latestFor_27 : decode cX10_latestFor 27 = .ok (.getfield 18, 3) := by decide +kernel
theorem dX10_latestFor_30 : decode cX10_latestFor 30 = .ok (.iload 5, 2) := by decide +kernel
theorem dX10_latestFor_32 : decode cX10_latestFor 32 = .ok (.iaload, 1) := by decide +kernel
theorem dX10_latestFor_33 : decode cX10_latestFor 33 = .ok (.iload_n 3, 1) := by decide +kernel
theorem dX10_latestFor_34 : decode cX10_latestFor 34 = .ok (.if_icmp .gt 18, 3) := by decide +kernel
theorem dX10_latestFor_37 : decode cX10_latestFor 37 = .ok (.aload_n 0, 1) := by decide +kernel
theorem dX10_latestFor_38 : decode cX10_latestFor 38 = .ok (.getfield 15, 3) := by decide +kernel
theorem dX10_latestFor_41 : decode cX10_latestFor 41 = .ok (.iload 5, 2) := by decide +kernel
theorem dX10_latestFor_43 : decode cX10_latestFor 43 = .ok (.iaload, 1) := by decide +kernel
theorem dX10_latestFor_44 : decode cX10_latestFor 44 = .ok (.iload_n 2, 1) := by decide +kernel
theorem dX10_latestFor_45 : decode cX10_latestFor 45 = .ok (.if_icmp .gt 7, 3) := by decide +kernel
theorem dX10_latestFor_48 : decode cX10_latestFor 48 = .ok (.iconst 1, 1) := by decide +kernel
theorem dX10_latestFor_49 : decode cX10_latestFor 49 = .ok (.goto 4, 3) := by decide +kernel
theorem dX10_latestFor_52 : decode cX10_latestFor 52 = .ok (.iconst 0, 1) := by decide +kernel
theorem dX10_latestFor_53 : decode cX10_latestFor 53 = .ok (.istore 6, 2) := by decide +kernel
theorem dX10_latestFor_55 : decode cX10_latestFor 55 = .ok (.iload 6, 2) := by decide +kernel
theorem dX10_latestFor_57 : decode cX10_latestFor 57 = .ok (.ifCond .eq 29, 3) := by decide +kernel
theorem dX10_latestFor_60 : decode cX10_latestFor 60 = .ok (.iload 4, 2) := by decide +kernel
theorem dX10_latestFor_62 : decode cX10_latestFor 62 = .ok (.ifCond .lt 20, 3) := by decide +kernel
theorem dX10_latestFor_65 : decode cX10_latestFor 65 = .ok (.aload_n 0, 1) := by decide +kernel
theorem dX10_latestFor_66 : decode cX10_latestFor 66 = .ok (.getfield 15, 3) := by decide +kernel
theorem dX10_latestFor_69 : decode cX10_latestFor 69 = .ok (.iload 5, 2) := by decide +kernel
theorem dX10_latestFor_71 : decode cX10_latestFor 71 = .ok (.iaload, 1) := by decide +kernel
theorem dX10_latestFor_72 : decode cX10_latestFor 72 = .ok (.aload_n 0, 1) := by decide +kernel
theorem dX10_latestFor_73 : decode cX10_latestFor 73 = .ok (.getfield 15, 3) := by decide +kernel
theorem dX10_latestFor_76 : decode cX10_latestFor 76 = .ok (.iload 4, 2) := by decide +kernel
theorem dX10_latestFor_78 : decode cX10_latestFor 78 = .ok (.iaload, 1) := by decide +kernel
theorem dX10_latestFor_79 : decode cX10_latestFor 79 = .ok (.if_icmp .lt 7, 3) := by decide +kernel
theorem dX10_latestFor_82 : decode cX10_latestFor 82 = .ok (.iload 5, 2) := by decide +kernel
theorem dX10_latestFor_84 : decode cX10_latestFor 84 = .ok (.istore 4, 2) := by decide +kernel
theorem dX10_latestFor_86 : decode cX10_latestFor 86 = .ok (.iinc 5 1, 3) := by decide +kernel
theorem dX10_latestFor_89 : decode cX10_latestFor 89 = .ok (.goto (-83), 3) := by decide +kernel
theorem dX10_latestFor_92 : decode cX10_latestFor 92 = .ok (.iload 4, 2) := by decide +kernel
theorem dX10_latestFor_94 : decode cX10_latestFor 94 = .ok (.ireturn, 1) := by decide +kernel
abbrev rm_X10_latestFor : Room := { frames := 0, cells := 0, slots := 0, locals := 0 }
def f_X10_latestFor_53 (N : Nat) (k6 : Int32 → Int32 → Int32 → Int32 → Int32 → St → Option Int32) (x1 : Int32) (x2 : Int32) (x3 : Int32) (x4 : Int32) (x5 : Int32) (t0 : Int32) (σ : St) : Option Int32 := (if t0 = 0 then k6 x1 x2 x3 x4 (x5 + 1) σ else (if x4 < 0 then k6 x1 x2 x3 x5 (x5 + 1) σ else grd (ib x5 60) (grd (ib x4 60) ((if (σ.1 75 x5.toNatClampNeg) < (σ.1 75 x4.toNatClampNeg) then k6 x1 x2 x3 x4 (x5 + 1) σ else k6 x1 x2 x3 x5 (x5 + 1) σ)))))
def f_X10_latestFor_6 (N : Nat) : Nat → Int32 → Int32 → Int32 → Int32 → Int32 → St → Option Int32
  | 0, _, _, _, _, _, _ => none
  | n + 1, x1, x2, x3, x4, x5, σ => (if (σ.1 15600 0) ≤ x5 then some x4 else grd (ib x5 60) ((if (σ.1 74 x5.toNatClampNeg) = x1 then grd (ib x5 60) ((if x3 < (σ.1 76 x5.toNatClampNeg) then f_X10_latestFor_53 N (f_X10_latestFor_6 N n) x1 x2 x3 x4 x5 0 σ else grd (ib x5 60) ((if x2 < (σ.1 75 x5.toNatClampNeg) then f_X10_latestFor_53 N (f_X10_latestFor_6 N n) x1 x2 x3 x4 x5 0 σ else f_X10_latestFor_53 N (f_X10_latestFor_6 N n) x1 x2 x3 x4 x5 1 σ)))) else f_X10_latestFor_53 N (f_X10_latestFor_6 N n) x1 x2 x3 x4 x5 0 σ)))
def f_X10_latestFor (N : Nat) (x1 : Int32) (x2 : Int32) (x3 : Int32) (σ : St) : Option Int32 := f_X10_latestFor_6 N N x1 x2 x3 ((-1)) 0 σ
section
variable {p : Program} {l : Launch} {e : Env} {s : State} {m : MethodId} {args : Array Value} {below : List Frame} {meth : Method} {c : Code} {g : XG}
set_option maxRecDepth 4000 in
theorem w_X10_latestFor_53 (N : Nat) (k6 : Int32 → Int32 → Int32 → Int32 → Int32 → St → Option Int32) (σ : St) {r : Int32} (C : xC KX g RX10 cX10_latestFor 7 (some .int) p s m args meth c) (hk6 : ∀ (x1 : Int32) (x2 : Int32) (x3 : Int32) (x4 : Int32) (x5 : Int32) (H : Heap) (locs : List Loc) (ls : Array Slot), xW KX g s σ H locs → lv_has ls 7 [(0, .ref (g.q 73)), (1, .int x1), (2, .int x2), (3, .int x3), (4, .int x4), (5, .int x5)] → k6 x1 x2 x3 x4 x5 σ = some r → W p l e rm_X10_latestFor s m args below meth c H locs 0 0 (MQ below (xPost KX g (some (.int r)) σ) args s 0 0 (xA KX g.q)) (F0 m 6 ls [])) : ∀ (x1 : Int32) (x2 : Int32) (x3 : Int32) (x4 : Int32) (x5 : Int32) (t0 : Int32) (H : Heap) (locs : List Loc) (ls : Array Slot), xW KX g s σ H locs → lv_has ls 7 [(0, .ref (g.q 73)), (1, .int x1), (2, .int x2), (3, .int x3), (4, .int x4), (5, .int x5)] → f_X10_latestFor_53 N k6 x1 x2 x3 x4 x5 t0 σ = some r → W p l e rm_X10_latestFor s m args below meth c H locs 0 0 (MQ below (xPost KX g (some (.int r)) σ) args s 0 0 (xA KX g.q)) (F0 m 53 ls [.int t0]) := by
  have hx := C.1
  have hb := C.2.1
  intro x1 x2 x3 x4 x5 t0 H locs ls hW hl h
  unfold f_X10_latestFor_53 at h
  refine lv_istore (lv' := [(6, .int t0), (0, .ref (g.q 73)), (1, .int x1), (2, .int x2), (3, .int x3), (4, .int x4), (5, .int x5)]) hx hb dX10_latestFor_53 hl (Nat.le_of_ble_eq_true rfl) rfl (fun ls hl => ?_)
  refine lv_iload hx hb dX10_latestFor_55 (lv_at hl 0 rfl) ?_
  refine lv_if_eq (tgt := 86) hx hb dX10_latestFor_57 (by decide) (fun c8 => ?_) (fun c8 => ?_)
  · have h := xit c8 h
    refine lv_iinc (v := x5 + 1) (lv' := [(5, .int (x5 + 1)), (6, .int t0), (0, .ref (g.q 73)), (1, .int x1), (2, .int x2), (3, .int x3), (4, .int x4)]) hx hb dX10_latestFor_86 hl (k := 6) rfl rfl (Nat.le_of_ble_eq_true rfl) rfl (fun ls hl => ?_)
    refine lv_goto (tgt := 6) hx hb dX10_latestFor_89 (by decide) ?_
    exact hk6 x1 x2 x3 x4 (x5 + 1) _ _ _ hW (lv_sub hl [2, 3, 4, 5, 6, 0] rfl) h
  · have h := xif c8 h
    refine lv_iload hx hb dX10_latestFor_60 (lv_at hl 5 rfl) ?_
    refine lv_if_lt (tgt := 82) hx hb dX10_latestFor_62 (by decide) (fun c9 => ?_) (fun c9 => ?_)
    · have h := xit c9 h
      refine lv_iload hx hb dX10_latestFor_82 (lv_at hl 6 rfl) ?_
      refine lv_istore (lv' := [(4, .int x5), (6, .int t0), (0, .ref (g.q 73)), (1, .int x1), (2, .int x2), (3, .int x3), (5, .int x5)]) hx hb dX10_latestFor_84 hl (Nat.le_of_ble_eq_true rfl) rfl (fun ls hl => ?_)
      refine lv_iinc (v := x5 + 1) (lv' := [(5, .int (x5 + 1)), (4, .int x5), (6, .int t0), (0, .ref (g.q 73)), (1, .int x1), (2, .int x2), (3, .int x3)]) hx hb dX10_latestFor_86 hl (k := 6) rfl rfl (Nat.le_of_ble_eq_true rfl) rfl (fun ls hl => ?_)
      refine lv_goto (tgt := 6) hx hb dX10_latestFor_89 (by decide) ?_
      exact hk6 x1 x2 x3 x5 (x5 + 1) _ _ _ hW (lv_sub hl [3, 4, 5, 6, 1, 0] rfl) h
    · have h := xif c9 h
      refine lv_aload_n hx hb dX10_latestFor_65 rfl (lv_at hl 1 rfl) ?_
      refine xg_r C hW fg_10_15 KX_73 rfl dX10_latestFor_66 ?_
      refine lv_iload hx hb dX10_latestFor_69 (lv_at hl 6 rfl) ?_
      obtain ⟨g10, h⟩ := xgd h
      refine xa_i C hW KX_75 g10 (x := σ.1 75 x5.toNatClampNeg) rfl dX10_latestFor_71 ?_
      refine lv_aload_n hx hb dX10_latestFor_72 rfl (lv_at hl 1 rfl) ?_
      refine xg_r C hW fg_10_15 KX_73 rfl dX10_latestFor_73 ?_
      refine lv_iload hx hb dX10_latestFor_76 (lv_at hl 5 rfl) ?_
      obtain ⟨g11, h⟩ := xgd h
      refine xa_i C hW KX_75 g11 (x := σ.1 75 x4.toNatClampNeg) rfl dX10_latestFor_78 ?_
      refine lv_icmp_lt (tgt := 86) hx hb dX10_latestFor_79 (by decide) (fun c12 => ?_) (fun c12 => ?_)
      · have h := xit c12 h
        refine lv_iinc (v := x5 + 1) (lv' := [(5, .int (x5 + 1)), (6, .int t0), (0, .ref (g.q 73)), (1, .int x1), (2, .int x2), (3, .int x3), (4, .int x4)]) hx hb dX10_latestFor_86 hl (k := 6) rfl rfl (Nat.le_of_ble_eq_true rfl) rfl (fun ls hl => ?_)
        refine lv_goto (tgt := 6) hx hb dX10_latestFor_89 (by decide) ?_
        exact hk6 x1 x2 x3 x4 (x5 + 1) _ _ _ hW (lv_sub hl [2, 3, 4, 5, 6, 0] rfl) h
      · have h := xif c12 h
        refine lv_iload hx hb dX10_latestFor_82 (lv_at hl 6 rfl) ?_
        refine lv_istore (lv' := [(4, .int x5), (6, .int t0), (0, .ref (g.q 73)), (1, .int x1), (2, .int x2), (3, .int x3), (5, .int x5)]) hx hb dX10_latestFor_84 hl (Nat.le_of_ble_eq_true rfl) rfl (fun ls hl => ?_)
        refine lv_iinc (v := x5 + 1) (lv' := [(5, .int (x5 + 1)), (4, .int x5), (6, .int t0), (0, .ref (g.q 73)), (1, .int x1), (2, .int x2), (3, .int x3)]) hx hb dX10_latestFor_86 hl (k := 6) rfl rfl (Nat.le_of_ble_eq_true rfl) rfl (fun ls hl => ?_)
        refine lv_goto (tgt := 6) hx hb dX10_latestFor_89 (by decide) ?_
        exact hk6 x1 x2 x3 x5 (x5 + 1) _ _ _ hW (lv_sub hl [3, 4, 5, 6, 1, 0] rfl) h
set_option maxRecDepth 4000 in
theorem w_X10_latestFor_6 (N : Nat) (σ : St) {r : Int32} (C : xC KX g RX10 cX10_latestFor 7 (some .int) p s m args meth c) : ∀ (n : Nat), ∀ (x1 : Int32) (x2 : Int32) (x3 : Int32) (x4 : Int32) (x5 : Int32) (H : Heap) (locs : List Loc) (ls : Array Slot), xW KX g s σ H locs → lv_has ls 7 [(0, .ref (g.q 73)), (1, .int x1), (2, .int x2), (3, .int x3), (4, .int x4), (5, .int x5)] → f_X10_latestFor_6 N n x1 x2 x3 x4 x5 σ = some r → W p l e rm_X10_latestFor s m args below meth c H locs 0 0 (MQ below (xPost KX g (some (.int r)) σ) args s 0 0 (xA KX g.q)) (F0 m 6 ls []) := by
  have hx := C.1
  have hb := C.2.1
  intro n
  induction n with
  | zero => intro x1 x2 x3 x4 x5 H locs ls hW hl h; rw [f_X10_latestFor_6] at h; cases h
  | succ n ih =>
    intro x1 x2 x3 x4 x5 H locs ls hW hl h
    rw [f_X10_latestFor_6] at h
    refine lv_iload hx hb dX10_latestFor_6 (lv_at hl 5 rfl) ?_
    refine lv_aload_n hx hb dX10_latestFor_8 rfl (lv_at hl 0 rfl) ?_
    refine xg_i C hW fg_10_27 KX_73 rfl (v := 15600) rfl (x := σ.1 15600 0) rfl dX10_latestFor_9 ?_
    refine lv_icmp_ge (tgt := 92) hx hb dX10_latestFor_12 (by decide) (fun c1 => ?_) (fun c1 => ?_)
    · have h := xit c1 h
      refine lv_iload hx hb dX10_latestFor_92 (lv_at hl 4 rfl) ?_
      cases h
      exact xr_i C hW dX10_latestFor_94
    · have h := xif c1 h
      refine lv_aload_n hx hb dX10_latestFor_15 rfl (lv_at hl 0 rfl) ?_
      refine xg_r C hW fg_10_11 KX_73 rfl dX10_latestFor_16 ?_
      refine lv_iload hx hb dX10_latestFor_19 (lv_at hl 5 rfl) ?_
      obtain ⟨g2, h⟩ := xgd h
      refine xa_i C hW KX_74 g2 (x := σ.1 74 x5.toNatClampNeg) rfl dX10_latestFor_21 ?_
      refine lv_iload_n hx hb dX10_latestFor_22 rfl (lv_at hl 1 rfl) ?_
      refine lv_icmp_ne (tgt := 52) hx hb dX10_latestFor_23 (by decide) (fun c3 => ?_) (fun c3 => ?_)
      · have h := xif c3 h
        refine lv_iconst (v := 0) hx hb dX10_latestFor_52 rfl ?_
        exact w_X10_latestFor_53 N (f_X10_latestFor_6 N n) σ C ih x1 x2 x3 x4 x5 0 _ _ _ hW (lv_sub hl [0, 1, 2, 3, 4, 5] rfl) h
      · have h := xit c3 h
        refine lv_aload_n hx hb dX10_latestFor_26 rfl (lv_at hl 0 rfl) ?_
        refine xg_r C hW fg_10_18 KX_73 rfl dX10_latestFor_27 ?_
        refine lv_iload hx hb dX10_latestFor_30 (lv_at hl 5 rfl) ?_
        obtain ⟨g4, h⟩ := xgd h
        refine xa_i C hW KX_76 g4 (x := σ.1 76 x5.toNatClampNeg) rfl dX10_latestFor_32 ?_
        refine lv_iload_n hx hb dX10_latestFor_33 rfl (lv_at hl 3 rfl) ?_
        refine lv_icmp_gt (tgt := 52) hx hb dX10_latestFor_34 (by decide) (fun c5 => ?_) (fun c5 => ?_)
        · have h := xit c5 h
          refine lv_iconst (v := 0) hx hb dX10_latestFor_52 rfl ?_
          exact w_X10_latestFor_53 N (f_X10_latestFor_6 N n) σ C ih x1 x2 x3 x4 x5 0 _ _ _ hW (lv_sub hl [0, 1, 2, 3, 4, 5] rfl) h
        · have h := xif c5 h
          refine lv_aload_n hx hb dX10_latestFor_37 rfl (lv_at hl 0 rfl) ?_
          refine xg_r C hW fg_10_15 KX_73 rfl dX10_latestFor_38 ?_
          refine lv_iload hx hb dX10_latestFor_41 (lv_at hl 5 rfl) ?_
          obtain ⟨g6, h⟩ := xgd h
          refine xa_i C hW KX_75 g6 (x := σ.1 75 x5.toNatClampNeg) rfl dX10_latestFor_43 ?_
          refine lv_iload_n hx hb dX10_latestFor_44 rfl (lv_at hl 2 rfl) ?_
          refine lv_icmp_gt (tgt := 52) hx hb dX10_latestFor_45 (by decide) (fun c7 => ?_) (fun c7 => ?_)
          · have h := xit c7 h
            refine lv_iconst (v := 0) hx hb dX10_latestFor_52 rfl ?_
            exact w_X10_latestFor_53 N (f_X10_latestFor_6 N n) σ C ih x1 x2 x3 x4 x5 0 _ _ _ hW (lv_sub hl [0, 1, 2, 3, 4, 5] rfl) h
          · have h := xif c7 h
            refine lv_iconst (v := 1) hx hb dX10_latestFor_48 rfl ?_
            refine lv_goto (tgt := 53) hx hb dX10_latestFor_49 (by decide) ?_
            exact w_X10_latestFor_53 N (f_X10_latestFor_6 N n) σ C ih x1 x2 x3 x4 x5 1 _ _ _ hW (lv_sub hl [0, 1, 2, 3, 4, 5] rfl) h
set_option maxRecDepth 4000 in
theorem m_X10_latestFor (N : Nat) (x1 : Int32) (x2 : Int32) (x3 : Int32) (σ : St) {r : Int32} (h : f_X10_latestFor N x1 x2 x3 σ = some r) : xM l KX g yX10_latestFor cX10_latestFor 7 (some .int) rm_X10_latestFor [.ref (g.q 73), .int x1, .int x2, .int x3] σ (some (.int r)) σ := by
  refine xmet pn_X10 rfl (Nat.le_of_ble_eq_true rfl) (lv := [(0, .ref (g.q 73)), (1, .int x1), (2, .int x2), (3, .int x3)]) rfl (fun p e s m args below meth c ls C hW hl => ?_)
  have hx := C.1
  have hb := C.2.1
  unfold f_X10_latestFor at h
  refine lv_iconst (v := (-1)) hx hb dX10_latestFor_0 rfl ?_
  refine lv_istore (lv' := [(4, .int ((-1))), (0, .ref (g.q 73)), (1, .int x1), (2, .int x2), (3, .int x3)]) hx hb dX10_latestFor_1 hl (Nat.le_of_ble_eq_true rfl) rfl (fun ls hl => ?_)
  refine lv_iconst (v := 0) hx hb dX10_latestFor_3 rfl ?_
  refine lv_istore (lv' := [(5, .int 0), (4, .int ((-1))), (0, .ref (g.q 73)), (1, .int x1), (2, .int x2), (3, .int x3)]) hx hb dX10_latestFor_4 hl (Nat.le_of_ble_eq_true rfl) rfl (fun ls hl => ?_)
  exact w_X10_latestFor_6 N σ C N x1 x2 x3 ((-1)) 0 _ _ _ hW (lv_sub hl [2, 3, 4, 5, 1, 0] rfl) h
end
