theorem dX10_applyTo_0 : decode cX10_applyTo 0 = .ok (.iconst 0, 1) := by decide +kernel
theorem dX10_applyTo_1 : decode cX10_applyTo 1 = .ok (.istore 4, 2) := by decide +kernel
theorem dX10_applyTo_3 : decode cX10_applyTo 3 = .ok (.iload 4, 2) := by decide +kernel
theorem dX10_applyTo_5 : decode cX10_applyTo 5 = .ok (.aload_n 1, 1) := by decide +kernel
theorem dX10_applyTo_6 : decode cX10_applyTo 6 = .ok (.getfield 34, 3) := by decide +kernel
theorem dX10_applyTo_9 : decode cX10_applyTo 9 = .ok (.if_icmp .ge 44, 3) := by decide +kernel
theorem dX10_applyTo_12 : decode cX10_applyTo 12 = .ok (.aload_n 0, 1) := by decide +kernel
theorem dX10_applyTo_13 : decode cX10_applyTo 13 = .ok (.iload 4, 2) := by decide +kernel
theorem dX10_applyTo_15 : decode cX10_applyTo 15 = .ok (.iload_n 2, 1) := by decide +kernel
theorem dX10_applyTo_16 : decode cX10_applyTo 16 = .ok (.iload_n 3, 1) := by decide +kernel
theorem dX10_applyTo_17 : decode cX10_applyTo 17 = .ok (.invokevirtual 37, 3) := by decide +kernel
theorem dX10_applyTo_20 : decode cX10_applyTo 20 = .ok (.istore 5, 2) := by decide +kernel
theorem dX10_applyTo_22 : decode cX10_applyTo 22 = .ok (.iload 5, 2) := by decide +kernel
theorem dX10_applyTo_24 : decode cX10_applyTo 24 = .ok (.ifCond .lt 23, 3) := by decide +kernel
theorem dX10_applyTo_27 : decode cX10_applyTo 27 = .ok (.aload_n 1, 1) := by decide +kernel
theorem dX10_applyTo_28 : decode cX10_applyTo 28 = .ok (.iload 4, 2) := by decide +kernel
theorem dX10_applyTo_30 : decode cX10_applyTo 30 = .ok (.aload_n 0, 1) := by decide +kernel
theorem dX10_applyTo_31 : decode cX10_applyTo 31 = .ok (.getfield 21, 3) := by decide +kernel
theorem dX10_applyTo_34 : decode cX10_applyTo 34 = .ok (.iload 5, 2) := by decide +kernel
theorem dX10_applyTo_36 : decode cX10_applyTo 36 = .ok (.iaload, 1) := by decide +kernel
theorem dX10_applyTo_37 : decode cX10_applyTo 37 = .ok (.aload_n 0, 1) := by decide +kernel
theorem dX10_applyTo_38 : decode cX10_applyTo 38 = .ok (.getfield 24, 3) := by decide +kernel
theorem dX10_applyTo_41 : decode cX10_applyTo 41 = .ok (.iload 5, 2) := by decide +kernel
theorem dX10_applyTo_43 : decode cX10_applyTo 43 = .ok (.iaload, 1) := by decide +kernel
theorem dX10_applyTo_44 : decode cX10_applyTo 44 = .ok (.invokevirtual 41, 3) := by decide +kernel
theorem dX10_applyTo_47 : decode cX10_applyTo 47 = .ok (.iinc 4 1, 3) := by decide +kernel
theorem dX10_applyTo_50 : decode cX10_applyTo 50 = .ok (.goto (-47), 3) := by decide +kernel
theorem dX10_applyTo_53 : decode cX10_applyTo 53 = .ok (.return_, 1) := by decide +kernel
abbrev rm_X10_applyTo : Room := { frames := 1, cells := 0, slots := 0, locals := 26 }
def f_X10_applyTo_3 (o1 : Nat) (N : Nat) : Nat → Int32 → Int32 → Int32 → St → Option St
  | 0, _, _, _, _ => none
  | n + 1, x2, x3, x4, σ => (if (σ.1 (1000 + 200 * o1 + 0) 0) ≤ x4 then some σ else bo (f_X10_latestFor N x4 x2 x3 σ) (fun r2_ => (if r2_ < 0 then f_X10_applyTo_3 o1 N n x2 x3 (x4 + 1) σ else grd (ib r2_ 60) (grd (ib r2_ 60) (bo (f_X6_putSounds o1 x4 (σ.1 77 r2_.toNatClampNeg) (σ.1 78 r2_.toNatClampNeg) σ) (fun σ6 => f_X10_applyTo_3 o1 N n x2 x3 (x4 + 1) σ6))))))
def f_X10_applyTo (o1 : Nat) (N : Nat) (x2 : Int32) (x3 : Int32) (σ : St) : Option St := f_X10_applyTo_3 o1 N N x2 x3 0 σ
section
variable {p : Program} {l : Launch} {e : Env} {s : State} {m : MethodId} {args : Array Value} {below : List Frame} {meth : Method} {c : Code} {g : XG}
set_option maxRecDepth 4000 in
theorem w_X10_applyTo_3 (o1 : Nat) (ho1 : o1 = 1 ∨ o1 = 2) (N : Nat) {σ' : St} (C : xC KX g RX10 cX10_applyTo 6 none p s m args meth c) : ∀ (n : Nat), ∀ (x2 : Int32) (x3 : Int32) (x4 : Int32) (σ : St) (H : Heap) (locs : List Loc) (ls : Array Slot), xW KX g s σ H locs → lv_has ls 6 [(0, .ref (g.q 73)), (1, .ref (g.q o1)), (2, .int x2), (3, .int x3), (4, .int x4)] → f_X10_applyTo_3 o1 N n x2 x3 x4 σ = some σ' → W p l e rm_X10_applyTo s m args below meth c H locs 0 0 (MQ below (xPost KX g none σ') args s 0 0 (xA KX g.q)) (F0 m 3 ls []) := by
  have hx := C.1
  have hb := C.2.1
  intro n
  induction n with
  | zero => intro x2 x3 x4 σ H locs ls hW hl h; rw [f_X10_applyTo_3] at h; cases h
  | succ n ih =>
    intro x2 x3 x4 σ H locs ls hW hl h
    rw [f_X10_applyTo_3] at h
    refine lv_iload hx hb dX10_applyTo_3 (lv_at hl 4 rfl) ?_
    refine lv_aload_n hx hb dX10_applyTo_5 rfl (lv_at hl 1 rfl) ?_
    refine xg_i C hW fg_10_34 (KX_sl ho1) rfl (v := (1000 + 200 * o1 + 0)) rfl (x := σ.1 (1000 + 200 * o1 + 0) 0) rfl dX10_applyTo_6 ?_
    refine lv_icmp_ge (tgt := 53) hx hb dX10_applyTo_9 (by decide) (fun c1 => ?_) (fun c1 => ?_)
    · have h := xit c1 h
      cases h
      exact xr_v C hW dX10_applyTo_53
    · have h := xif c1 h
      refine lv_aload_n hx hb dX10_applyTo_12 rfl (lv_at hl 0 rfl) ?_
      refine lv_iload hx hb dX10_applyTo_13 (lv_at hl 4 rfl) ?_
      refine lv_iload_n hx hb dX10_applyTo_15 rfl (lv_at hl 2 rfl) ?_
      refine lv_iload_n hx hb dX10_applyTo_16 rfl (lv_at hl 3 rfl) ?_
      obtain ⟨r2_, e2, h⟩ := xbo h
      refine xc_V (As := [.int x4, .int x2, .int x3]) (rest := []) C hW (m_X10_latestFor N x4 x2 x3 _ e2) mf_X10_latestFor mv_X10_latestFor ml_X10_37 ⟨rfl, rfl⟩ ⟨Nat.le_of_ble_eq_true rfl, Nat.le_of_ble_eq_true rfl⟩ KX_73 rfl hl.1 rfl rfl (Nat.le_of_ble_eq_true rfl) dX10_applyTo_17 (fun H locs hW => W.eq (g2 := F0 m 20 ls [.int r2_]) rfl ?_)
      refine lv_istore (lv' := [(5, .int r2_), (0, .ref (g.q 73)), (1, .ref (g.q o1)), (2, .int x2), (3, .int x3), (4, .int x4)]) hx hb dX10_applyTo_20 hl (Nat.le_of_ble_eq_true rfl) rfl (fun ls hl => ?_)
      refine lv_iload hx hb dX10_applyTo_22 (lv_at hl 0 rfl) ?_
      refine lv_if_lt (tgt := 47) hx hb dX10_applyTo_24 (by decide) (fun c3 => ?_) (fun c3 => ?_)
      · have h := xit c3 h
        refine lv_iinc (v := x4 + 1) (lv' := [(4, .int (x4 + 1)), (5, .int r2_), (0, .ref (g.q 73)), (1, .ref (g.q o1)), (2, .int x2), (3, .int x3)]) hx hb dX10_applyTo_47 hl (k := 5) rfl rfl (Nat.le_of_ble_eq_true rfl) rfl (fun ls hl => ?_)
        refine lv_goto (tgt := 3) hx hb dX10_applyTo_50 (by decide) ?_
        exact ih x2 x3 (x4 + 1) _ _ _ _ hW (lv_sub hl [2, 3, 4, 5, 0] rfl) h
      · have h := xif c3 h
        refine lv_aload_n hx hb dX10_applyTo_27 rfl (lv_at hl 2 rfl) ?_
        refine lv_iload hx hb dX10_applyTo_28 (lv_at hl 5 rfl) ?_
        refine lv_aload_n hx hb dX10_applyTo_30 rfl (lv_at hl 1 rfl) ?_
        refine xg_r C hW fg_10_21 KX_73 rfl dX10_applyTo_31 ?_
        refine lv_iload hx hb dX10_applyTo_34 (lv_at hl 0 rfl) ?_
        obtain ⟨g4, h⟩ := xgd h
        refine xa_i C hW KX_77 g4 (x := σ.1 77 r2_.toNatClampNeg) rfl dX10_applyTo_36 ?_
        refine lv_aload_n hx hb dX10_applyTo_37 rfl (lv_at hl 1 rfl) ?_
        refine xg_r C hW fg_10_24 KX_73 rfl dX10_applyTo_38 ?_
        refine lv_iload hx hb dX10_applyTo_41 (lv_at hl 0 rfl) ?_
        obtain ⟨g5, h⟩ := xgd h
        refine xa_i C hW KX_78 g5 (x := σ.1 78 r2_.toNatClampNeg) rfl dX10_applyTo_43 ?_
        obtain ⟨σ6, e6, h⟩ := xbo h
        refine xc_V (As := [.int x4, .int (σ.1 77 r2_.toNatClampNeg), .int (σ.1 78 r2_.toNatClampNeg)]) (rest := []) C hW (m_X6_putSounds o1 ho1 x4 (σ.1 77 r2_.toNatClampNeg) (σ.1 78 r2_.toNatClampNeg) _ e6) mf_X6_putSounds mv_X6_putSounds ml_X10_41 ⟨rfl, rfl⟩ ⟨Nat.le_of_ble_eq_true rfl, Nat.le_of_ble_eq_true rfl⟩ (KX_sl ho1) rfl hl.1 rfl rfl (Nat.le_of_ble_eq_true rfl) dX10_applyTo_44 (fun H locs hW => W.eq (g2 := F0 m 47 ls []) rfl ?_)
        refine lv_iinc (v := x4 + 1) (lv' := [(4, .int (x4 + 1)), (5, .int r2_), (0, .ref (g.q 73)), (1, .ref (g.q o1)), (2, .int x2), (3, .int x3)]) hx hb dX10_applyTo_47 hl (k := 5) rfl rfl (Nat.le_of_ble_eq_true rfl) rfl (fun ls hl => ?_)
        refine lv_goto (tgt := 3) hx hb dX10_applyTo_50 (by decide) ?_
        exact ih x2 x3 (x4 + 1) _ _ _ _ hW (lv_sub hl [2, 3, 4, 5, 0] rfl) h
set_option maxRecDepth 4000 in
theorem m_X10_applyTo (o1 : Nat) (ho1 : o1 = 1 ∨ o1 = 2) (N : Nat) (x2 : Int32) (x3 : Int32) (σ : St) {σ' : St} (h : f_X10_applyTo o1 N x2 x3 σ = some σ') : xM l KX g yX10_applyTo cX10_applyTo 6 none rm_X10_applyTo [.ref (g.q 73), .ref (g.q o1), .int x2, .int x3] σ none σ' := by
  refine xmet pn_X10 rfl (Nat.le_of_ble_eq_true rfl) (lv := [(0, .ref (g.q 73)), (1, .ref (g.q o1)), (2, .int x2), (3, .int x3)]) rfl (fun p e s m args below meth c ls C hW hl => ?_)
  have hx := C.1
  have hb := C.2.1
  unfold f_X10_applyTo at h
  refine lv_iconst (v := 0) hx hb dX10_applyTo_0 rfl ?_
  refine lv_istore (lv' := [(4, .int 0), (0, .ref (g.q 73)), (1, .ref (g.q o1)), (2, .int x2), (3, .int x3)]) hx hb dX10_applyTo_1 hl (Nat.le_of_ble_eq_true rfl) rfl (fun ls hl => ?_)
  exact w_X10_applyTo_3 o1 ho1 N C N x2 x3 0 _ _ _ _ hW (lv_sub hl [1, 2, 3, 4, 0] rfl) h
end
theorem dX11_feed_0 : decode cX11_feed 0 = .ok (.aload_n 0, 1) := by decide +kernel
theorem dX11_feed_1 : decode cX11_feed 1 = .ok (.getfield 10, 3) := by decide +kernel
theorem dX11_feed_4 : decode cX11_feed 4 = .ok (.getfield 101, 3) := by decide +kernel
theorem dX11_feed_7 : decode cX11_feed 7 = .ok (.bipush 20, 2) := by decide +kernel
theorem dX11_feed_9 : decode cX11_feed 9 = .ok (.iadd, 1) := by decide +kernel
theorem dX11_feed_10 : decode cX11_feed 10 = .ok (.sipush 800, 3) := by decide +kernel
theorem dX11_feed_13 : decode cX11_feed 13 = .ok (.if_icmp .le 6, 3) := by decide +kernel
theorem dX11_feed_16 : decode cX11_feed 16 = .ok (.bipush (-3), 2) := by decide +kernel
theorem dX11_feed_18 : decode cX11_feed 18 = .ok (.ireturn, 1) := by decide +kernel
theorem dX11_feed_19 : decode cX11_feed 19 = .ok (.aload_n 0, 1) := by decide +kernel
theorem dX11_feed_20 : decode cX11_feed 20 = .ok (.getfield 10, 3) := by decide +kernel
theorem dX11_feed_23 : decode cX11_feed 23 = .ok (.iload_n 1, 1) := by decide +kernel
theorem dX11_feed_24 : decode cX11_feed 24 = .ok (.invokevirtual 105, 3) := by decide +kernel
theorem dX11_feed_27 : decode cX11_feed 27 = .ok (.aload_n 0, 1) := by decide +kernel
theorem dX11_feed_28 : decode cX11_feed 28 = .ok (.getfield 10, 3) := by decide +kernel
theorem dX11_feed_31 : decode cX11_feed 31 = .ok (.iload_n 2, 1) := by decide +kernel
theorem dX11_feed_32 : decode cX11_feed 32 = .ok (.invokevirtual 105, 3) := by decide +kernel
theorem dX11_feed_35 : decode cX11_feed 35 = .ok (.aload_n 0, 1) := by decide +kernel
theorem dX11_feed_36 : decode cX11_feed 36 = .ok (.getfield 10, 3) := by decide +kernel
theorem dX11_feed_39 : decode cX11_feed 39 = .ok (.iload_n 3, 1) := by decide +kernel
theorem dX11_feed_40 : decode cX11_feed 40 = .ok (.invokevirtual 105, 3) := by decide +kernel
theorem dX11_feed_43 : decode cX11_feed 43 = .ok (.aload_n 0, 1) := by decide +kernel
theorem dX11_feed_44 : decode cX11_feed 44 = .ok (.getfield 10, 3) := by decide +kernel
theorem dX11_feed_47 : decode cX11_feed 47 = .ok (.iload 4, 2) := by decide +kernel
theorem dX11_feed_49 : decode cX11_feed 49 = .ok (.invokevirtual 105, 3) := by decide +kernel
theorem dX11_feed_52 : decode cX11_feed 52 = .ok (.aload_n 0, 1) := by decide +kernel
theorem dX11_feed_53 : decode cX11_feed 53 = .ok (.getfield 10, 3) := by decide +kernel
theorem dX11_feed_56 : decode cX11_feed 56 = .ok (.iload 5, 2) := by decide +kernel
theorem dX11_feed_58 : decode cX11_feed 58 = .ok (.invokevirtual 105, 3) := by decide +kernel
theorem dX11_feed_61 : decode cX11_feed 61 = .ok (.aload_n 0, 1) := by decide +kernel
theorem dX11_feed_62 : decode cX11_feed 62 = .ok (.getfield 10, 3) := by decide +kernel
theorem dX11_feed_65 : decode cX11_feed 65 = .ok (.getfield 101, 3) := by decide +kernel
theorem dX11_feed_68 : decode cX11_feed 68 = .ok (.ireturn, 1) := by decide +kernel
abbrev rm_X11_feed : Room := { frames := 1, cells := 0, slots := 0, locals := 22 }
def f_X11_feed (N : Nat) (x1 : Int32) (x2 : Int32) (x3 : Int32) (x4 : Int32) (x5 : Int32) (σ : St) : Option (Int32 × St) := (if ((σ.1 4801 0) + 20) ≤ 800 then bo (f_X8_put N x1 σ) (fun σ2 => bo (f_X8_put N x2 σ2) (fun σ3 => bo (f_X8_put N x3 σ3) (fun σ4 => bo (f_X8_put N x4 σ4) (fun σ5 => bo (f_X8_put N x5 σ5) (fun σ6 => some (σ6.1 4801 0, σ6)))))) else some ((-3), σ))
section
variable {p : Program} {l : Launch} {e : Env} {s : State} {m : MethodId} {args : Array Value} {below : List Frame} {meth : Method} {c : Code} {g : XG}
set_option maxRecDepth 4000 in
theorem m_X11_feed (N : Nat) (x1 : Int32) (x2 : Int32) (x3 : Int32) (x4 : Int32) (x5 : Int32) (σ : St) {r : Int32} {σ' : St} (h : f_X11_feed N x1 x2 x3 x4 x5 σ = some (r, σ')) : xM l KX g yX11_feed cX11_feed 6 (some .int) rm_X11_feed [.ref (g.q 0), .int x1, .int x2, .int x3, .int x4, .int x5] σ (some (.int r)) σ' := by
  refine xmet pn_X11 rfl (Nat.le_of_ble_eq_true rfl) (lv := [(0, .ref (g.q 0)), (1, .int x1), (2, .int x2), (3, .int x3), (4, .int x4), (5, .int x5)]) rfl (fun p e s m args below meth c ls C hW hl => ?_)
  have hx := C.1
  have hb := C.2.1
  unfold f_X11_feed at h
  refine lv_aload_n hx hb dX11_feed_0 rfl (lv_at hl 0 rfl) ?_
  refine xg_r C hW fg_11_10 KX_0 rfl dX11_feed_1 ?_
  refine xg_i C hW fg_11_101 KX_19 rfl (v := 4801) rfl (x := σ.1 4801 0) rfl dX11_feed_4 ?_
  refine lv_bipush (v := 20) hx hb dX11_feed_7 rfl ?_
  refine lv_iadd hx hb dX11_feed_9 ?_
  refine lv_sipush (v := 800) hx hb dX11_feed_10 rfl ?_
  refine lv_icmp_le (tgt := 19) hx hb dX11_feed_13 (by decide) (fun c1 => ?_) (fun c1 => ?_)
  · have h := xit c1 h
    refine lv_aload_n hx hb dX11_feed_19 rfl (lv_at hl 0 rfl) ?_
    refine xg_r C hW fg_11_10 KX_0 rfl dX11_feed_20 ?_
    refine lv_iload_n hx hb dX11_feed_23 rfl (lv_at hl 1 rfl) ?_
    obtain ⟨σ2, e2, h⟩ := xbo h
    refine xc_V (As := [.int x1]) (rest := []) C hW (m_X8_put N x1 _ e2) mf_X8_put mv_X8_put ml_X11_105 ⟨rfl, rfl⟩ ⟨Nat.le_of_ble_eq_true rfl, Nat.le_of_ble_eq_true rfl⟩ KX_19 rfl hl.1 rfl rfl (Nat.le_of_ble_eq_true rfl) dX11_feed_24 (fun H locs hW => W.eq (g2 := F0 m 27 ls []) rfl ?_)
    refine lv_aload_n hx hb dX11_feed_27 rfl (lv_at hl 0 rfl) ?_
    refine xg_r C hW fg_11_10 KX_0 rfl dX11_feed_28 ?_
    refine lv_iload_n hx hb dX11_feed_31 rfl (lv_at hl 2 rfl) ?_
    obtain ⟨σ3, e3, h⟩ := xbo h
    refine xc_V (As := [.int x2]) (rest := []) C hW (m_X8_put N x2 _ e3) mf_X8_put mv_X8_put ml_X11_105 ⟨rfl, rfl⟩ ⟨Nat.le_of_ble_eq_true rfl, Nat.le_of_ble_eq_true rfl⟩ KX_19 rfl hl.1 rfl rfl (Nat.le_of_ble_eq_true rfl) dX11_feed_32 (fun H locs hW => W.eq (g2 := F0 m 35 ls []) rfl ?_)
    refine lv_aload_n hx hb dX11_feed_35 rfl (lv_at hl 0 rfl) ?_
    refine xg_r C hW fg_11_10 KX_0 rfl dX11_feed_36 ?_
    refine lv_iload_n hx hb dX11_feed_39 rfl (lv_at hl 3 rfl) ?_
    obtain ⟨σ4, e4, h⟩ := xbo h
    refine xc_V (As := [.int x3]) (rest := []) C hW (m_X8_put N x3 _ e4) mf_X8_put mv_X8_put ml_X11_105 ⟨rfl, rfl⟩ ⟨Nat.le_of_ble_eq_true rfl, Nat.le_of_ble_eq_true rfl⟩ KX_19 rfl hl.1 rfl rfl (Nat.le_of_ble_eq_true rfl) dX11_feed_40 (fun H locs hW => W.eq (g2 := F0 m 43 ls []) rfl ?_)
    refine lv_aload_n hx hb dX11_feed_43 rfl (lv_at hl 0 rfl) ?_
    refine xg_r C hW fg_11_10 KX_0 rfl dX11_feed_44 ?_
    refine lv_iload hx hb dX11_feed_47 (lv_at hl 4 rfl) ?_
    obtain ⟨σ5, e5, h⟩ := xbo h
    refine xc_V (As := [.int x4]) (rest := []) C hW (m_X8_put N x4 _ e5) mf_X8_put mv_X8_put ml_X11_105 ⟨rfl, rfl⟩ ⟨Nat.le_of_ble_eq_true rfl, Nat.le_of_ble_eq_true rfl⟩ KX_19 rfl hl.1 rfl rfl (Nat.le_of_ble_eq_true rfl) dX11_feed_49 (fun H locs hW => W.eq (g2 := F0 m 52 ls []) rfl ?_)
    refine lv_aload_n hx hb dX11_feed_52 rfl (lv_at hl 0 rfl) ?_
    refine xg_r C hW fg_11_10 KX_0 rfl dX11_feed_53 ?_
    refine lv_iload hx hb dX11_feed_56 (lv_at hl 5 rfl) ?_
    obtain ⟨σ6, e6, h⟩ := xbo h
    refine xc_V (As := [.int x5]) (rest := []) C hW (m_X8_put N x5 _ e6) mf_X8_put mv_X8_put ml_X11_105 ⟨rfl, rfl⟩ ⟨Nat.le_of_ble_eq_true rfl, Nat.le_of_ble_eq_true rfl⟩ KX_19 rfl hl.1 rfl rfl (Nat.le_of_ble_eq_true rfl) dX11_feed_58 (fun H locs hW => W.eq (g2 := F0 m 61 ls []) rfl ?_)
    refine lv_aload_n hx hb dX11_feed_61 rfl (lv_at hl 0 rfl) ?_
    refine xg_r C hW fg_11_10 KX_0 rfl dX11_feed_62 ?_
    refine xg_i C hW fg_11_101 KX_19 rfl (v := 4801) rfl (x := σ6.1 4801 0) rfl dX11_feed_65 ?_
    cases h
    exact xr_i C hW dX11_feed_68
  · have h := xif c1 h
    refine lv_bipush (v := (-3)) hx hb dX11_feed_16 rfl ?_
    cases h
    exact xr_i C hW dX11_feed_18
end
theorem dX11_end_0 : decode cX11_end 0 = .ok (.iload_n 1, 1) := by decide +kernel
theorem dX11_end_1 : decode cX11_end 1 = .ok (.ifCond .lt 14, 3) := by decide +kernel
theorem dX11_end_4 : decode cX11_end 4 = .ok (.iload_n 1, 1) := by decide +kernel
theorem dX11_end_5 : decode cX11_end 5 = .ok (.aload_n 0, 1) := by decide +kernel
theorem dX11_end_6 : decode cX11_end 6 = .ok (.getfield 10, 3) := by decide +kernel
theorem dX11_end_9 : decode cX11_end 9 = .ok (.getfield 101, 3) := by decide +kernel
theorem dX11_end_12 : decode cX11_end 12 = .ok (.if_icmp .le 5, 3) := by decide +kernel
theorem dX11_end_15 : decode cX11_end 15 = .ok (.iconst (-1), 1) := by decide +kernel
theorem dX11_end_16 : decode cX11_end 16 = .ok (.ireturn, 1) := by decide +kernel
theorem dX11_end_17 : decode cX11_end 17 = .ok (.aload_n 0, 1) := by decide +kernel
theorem dX11_end_18 : decode cX11_end 18 = .ok (.getfield 10, 3) := by decide +kernel
theorem dX11_end_21 : decode cX11_end 21 = .ok (.iload_n 1, 1) := by decide +kernel
theorem dX11_end_22 : decode cX11_end 22 = .ok (.putfield 101, 3) := by decide +kernel
theorem dX11_end_25 : decode cX11_end 25 = .ok (.iload_n 1, 1) := by decide +kernel
theorem dX11_end_26 : decode cX11_end 26 = .ok (.ireturn, 1) := by decide +kernel
abbrev rm_X11_end : Room := { frames := 0, cells := 0, slots := 0, locals := 0 }
def f_X11_end (x1 : Int32) (σ : St) : Option (Int32 × St) := (if x1 < 0 then some ((-1), σ) else (if x1 ≤ (σ.1 4801 0) then some (x1, (si σ 4801 0 x1)) else some ((-1), σ)))
section
variable {p : Program} {l : Launch} {e : Env} {s : State} {m : MethodId} {args : Array Value} {below : List Frame} {meth : Method} {c : Code} {g : XG}
set_option maxRecDepth 4000 in
theorem m_X11_end (x1 : Int32) (σ : St) {r : Int32} {σ' : St} (h : f_X11_end x1 σ = some (r, σ')) : xM l KX g yX11_end cX11_end 2 (some .int) rm_X11_end [.ref (g.q 0), .int x1] σ (some (.int r)) σ' := by
  refine xmet pn_X11 rfl (Nat.le_of_ble_eq_true rfl) (lv := [(0, .ref (g.q 0)), (1, .int x1)]) rfl (fun p e s m args below meth c ls C hW hl => ?_)
  have hx := C.1
  have hb := C.2.1
  unfold f_X11_end at h
  refine lv_iload_n hx hb dX11_end_0 rfl (lv_at hl 1 rfl) ?_
  refine lv_if_lt (tgt := 15) hx hb dX11_end_1 (by decide) (fun c1 => ?_) (fun c1 => ?_)
  · have h := xit c1 h
    refine lv_iconst (v := (-1)) hx hb dX11_end_15 rfl ?_
    cases h
    exact xr_i C hW dX11_end_16
  · have h := xif c1 h
    refine lv_iload_n hx hb dX11_end_4 rfl (lv_at hl 1 rfl) ?_
    refine lv_aload_n hx hb dX11_end_5 rfl (lv_at hl 0 rfl) ?_
    refine xg_r C hW fg_11_10 KX_0 rfl dX11_end_6 ?_
    refine xg_i C hW fg_11_101 KX_19 rfl (v := 4801) rfl (x := σ.1 4801 0) rfl dX11_end_9 ?_
    refine lv_icmp_le (tgt := 17) hx hb dX11_end_12 (by decide) (fun c2 => ?_) (fun c2 => ?_)
    · have h := xit c2 h
      refine lv_aload_n hx hb dX11_end_17 rfl (lv_at hl 0 rfl) ?_
      refine xg_r C hW fg_11_10 KX_0 rfl dX11_end_18 ?_
      refine lv_iload_n hx hb dX11_end_21 rfl (lv_at hl 1 rfl) ?_
      refine xp_i C hW fp_11_101 KX_19 rfl (v := 4801) rfl rfl rfl dX11_end_22 (fun H locs hW => ?_)
      refine lv_iload_n hx hb dX11_end_25 rfl (lv_at hl 1 rfl) ?_
      cases h
      exact xr_i C hW dX11_end_26
    · have h := xif c2 h
      refine lv_iconst (v := (-1)) hx hb dX11_end_15 rfl ?_
      cases h
      exact xr_i C hW dX11_end_16
end
theorem dX11_list_0 : decode cX11_list 0 = .ok (.aload_n 0, 1) := by decide +kernel
theorem dX11_list_1 : decode cX11_list 1 = .ok (.getfield 10, 3) := by decide +kernel
theorem dX11_list_4 : decode cX11_list 4 = .ok (.invokevirtual 109, 3) := by decide +kernel
theorem dX11_list_7 : decode cX11_list 7 = .ok (.aload_n 0, 1) := by decide +kernel
theorem dX11_list_8 : decode cX11_list 8 = .ok (.getfield 10, 3) := by decide +kernel
theorem dX11_list_11 : decode cX11_list 11 = .ok (.invokevirtual 112, 3) := by decide +kernel
theorem dX11_list_14 : decode cX11_list 14 = .ok (.aload_n 0, 1) := by decide +kernel
theorem dX11_list_15 : decode cX11_list 15 = .ok (.getfield 23, 3) := by decide +kernel
theorem dX11_list_18 : decode cX11_list 18 = .ok (.aload_n 0, 1) := by decide +kernel
theorem dX11_list_19 : decode cX11_list 19 = .ok (.getfield 10, 3) := by decide +kernel
theorem dX11_list_22 : decode cX11_list 22 = .ok (.invokevirtual 115, 3) := by decide +kernel
theorem dX11_list_25 : decode cX11_list 25 = .ok (.istore_n 1, 1) := by decide +kernel
theorem dX11_list_26 : decode cX11_list 26 = .ok (.aload_n 0, 1) := by decide +kernel
theorem dX11_list_27 : decode cX11_list 27 = .ok (.getfield 10, 3) := by decide +kernel
theorem dX11_list_30 : decode cX11_list 30 = .ok (.invokevirtual 119, 3) := by decide +kernel
theorem dX11_list_33 : decode cX11_list 33 = .ok (.iload_n 1, 1) := by decide +kernel
theorem dX11_list_34 : decode cX11_list 34 = .ok (.ifCond .ge 5, 3) := by decide +kernel
theorem dX11_list_37 : decode cX11_list 37 = .ok (.iconst (-1), 1) := by decide +kernel
theorem dX11_list_38 : decode cX11_list 38 = .ok (.ireturn, 1) := by decide +kernel
theorem dX11_list_39 : decode cX11_list 39 = .ok (.aload_n 0, 1) := by decide +kernel
theorem dX11_list_40 : decode cX11_list 40 = .ok (.getfield 19, 3) := by decide +kernel
theorem dX11_list_43 : decode cX11_list 43 = .ok (.aload_n 0, 1) := by decide +kernel
theorem dX11_list_44 : decode cX11_list 44 = .ok (.getfield 23, 3) := by decide +kernel
theorem dX11_list_47 : decode cX11_list 47 = .ok (.invokevirtual 122, 3) := by decide +kernel
theorem dX11_list_50 : decode cX11_list 50 = .ok (.aload_n 0, 1) := by decide +kernel
theorem dX11_list_51 : decode cX11_list 51 = .ok (.getfield 40, 3) := by decide +kernel
theorem dX11_list_54 : decode cX11_list 54 = .ok (.invokevirtual 125, 3) := by decide +kernel
theorem dX11_list_57 : decode cX11_list 57 = .ok (.aload_n 0, 1) := by decide +kernel
theorem dX11_list_58 : decode cX11_list 58 = .ok (.getfield 81, 3) := by decide +kernel
theorem dX11_list_61 : decode cX11_list 61 = .ok (.invokevirtual 128, 3) := by decide +kernel
theorem dX11_list_64 : decode cX11_list 64 = .ok (.aload_n 0, 1) := by decide +kernel
theorem dX11_list_65 : decode cX11_list 65 = .ok (.getfield 63, 3) := by decide +kernel
theorem dX11_list_68 : decode cX11_list 68 = .ok (.invokevirtual 129, 3) := by decide +kernel
theorem dX11_list_71 : decode cX11_list 71 = .ok (.aload_n 0, 1) := by decide +kernel
theorem dX11_list_72 : decode cX11_list 72 = .ok (.getfield 97, 3) := by decide +kernel
theorem dX11_list_75 : decode cX11_list 75 = .ok (.invokevirtual 130, 3) := by decide +kernel
theorem dX11_list_78 : decode cX11_list 78 = .ok (.aload_n 0, 1) := by decide +kernel
theorem dX11_list_79 : decode cX11_list 79 = .ok (.getfield 72, 3) := by decide +kernel
theorem dX11_list_82 : decode cX11_list 82 = .ok (.invokevirtual 131, 3) := by decide +kernel
theorem dX11_list_85 : decode cX11_list 85 = .ok (.aload_n 0, 1) := by decide +kernel
theorem dX11_list_86 : decode cX11_list 86 = .ok (.getfield 90, 3) := by decide +kernel
theorem dX11_list_89 : decode cX11_list 89 = .ok (.invokevirtual 132, 3) := by decide +kernel
theorem dX11_list_92 : decode cX11_list 92 = .ok (.iload_n 1, 1) := by decide +kernel
theorem dX11_list_93 : decode cX11_list 93 = .ok (.ireturn, 1) := by decide +kernel
abbrev rm_X11_list : Room := { frames := 8, cells := 0, slots := 0, locals := 209 }
def f_X11_list (N : Nat) (σ : St) : Option (Int32 × St) := bo (f_X8_rewind σ) (fun σ1 => bo (f_X8_forgetFault σ1) (fun σ2 => bd (f_X6_take 2 N σ2) (fun r3_ σ3 => bo (f_X8_drain σ3) (fun σ4 => (if 0 ≤ r3_ then bo (f_X6_become 1 2 σ4) (fun σ6 => bo (f_X1_forget σ6) (fun σ7 => bo (f_X5_forget σ7) (fun σ8 => bo (f_X3_forget σ8) (fun σ9 => bo (f_X10_forget σ9) (fun σ10 => bo (f_X2_forget N σ10) (fun σ11 => bo (f_X4_forgetFilled σ11) (fun σ12 => some (r3_, σ12)))))))) else some ((-1), σ4))))))
section
variable {p : Program} {l : Launch} {e : Env} {s : State} {m : MethodId} {args : Array Value} {below : List Frame} {meth : Method} {c : Code} {g : XG}
set_option maxRecDepth 4000 in
theorem m_X11_list (N : Nat) (σ : St) {r : Int32} {σ' : St} (h : f_X11_list N σ = some (r, σ')) : xM l KX g yX11_list cX11_list 2 (some .int) rm_X11_list [.ref (g.q 0)] σ (some (.int r)) σ' := by
  refine xmet pn_X11 rfl (Nat.le_of_ble_eq_true rfl) (lv := [(0, .ref (g.q 0))]) rfl (fun p e s m args below meth c ls C hW hl => ?_)
  have hx := C.1
  have hb := C.2.1
  unfold f_X11_list at h
  refine lv_aload_n hx hb dX11_list_0 rfl (lv_at hl 0 rfl) ?_
  refine xg_r C hW fg_11_10 KX_0 rfl dX11_list_1 ?_
  obtain ⟨σ1, e1, h⟩ := xbo h
  refine xc_V (As := []) (rest := []) C hW (m_X8_rewind _ e1) mf_X8_rewind mv_X8_rewind ml_X11_109 ⟨rfl, rfl⟩ ⟨Nat.le_of_ble_eq_true rfl, Nat.le_of_ble_eq_true rfl⟩ KX_19 rfl hl.1 rfl rfl (Nat.le_of_ble_eq_true rfl) dX11_list_4 (fun H locs hW => W.eq (g2 := F0 m 7 ls []) rfl ?_)
  refine lv_aload_n hx hb dX11_list_7 rfl (lv_at hl 0 rfl) ?_
  refine xg_r C hW fg_11_10 KX_0 rfl dX11_list_8 ?_
  obtain ⟨σ2, e2, h⟩ := xbo h
  refine xc_V (As := []) (rest := []) C hW (m_X8_forgetFault _ e2) mf_X8_forgetFault mv_X8_forgetFault ml_X11_112 ⟨rfl, rfl⟩ ⟨Nat.le_of_ble_eq_true rfl, Nat.le_of_ble_eq_true rfl⟩ KX_19 rfl hl.1 rfl rfl (Nat.le_of_ble_eq_true rfl) dX11_list_11 (fun H locs hW => W.eq (g2 := F0 m 14 ls []) rfl ?_)
  refine lv_aload_n hx hb dX11_list_14 rfl (lv_at hl 0 rfl) ?_
  refine xg_r C hW fg_11_23 KX_0 rfl dX11_list_15 ?_
  refine lv_aload_n hx hb dX11_list_18 rfl (lv_at hl 0 rfl) ?_
  refine xg_r C hW fg_11_10 KX_0 rfl dX11_list_19 ?_
  obtain ⟨r3_, σ3, e3, h⟩ := xbd h
  refine xc_V (As := [.ref (g.q 19)]) (rest := []) C hW (m_X6_take 2 (Or.inr rfl) N _ e3) mf_X6_take mv_X6_take ml_X11_115 ⟨rfl, rfl⟩ ⟨Nat.le_of_ble_eq_true rfl, Nat.le_of_ble_eq_true rfl⟩ (KX_sl (Or.inr rfl)) rfl hl.1 rfl rfl (Nat.le_of_ble_eq_true rfl) dX11_list_22 (fun H locs hW => W.eq (g2 := F0 m 25 ls [.int r3_]) rfl ?_)
  refine lv_istore_n (lv' := [(1, .int r3_), (0, .ref (g.q 0))]) hx hb dX11_list_25 rfl hl (Nat.le_of_ble_eq_true rfl) rfl (fun ls hl => ?_)
  refine lv_aload_n hx hb dX11_list_26 rfl (lv_at hl 1 rfl) ?_
  refine xg_r C hW fg_11_10 KX_0 rfl dX11_list_27 ?_
  obtain ⟨σ4, e4, h⟩ := xbo h
  refine xc_V (As := []) (rest := []) C hW (m_X8_drain _ e4) mf_X8_drain mv_X8_drain ml_X11_119 ⟨rfl, rfl⟩ ⟨Nat.le_of_ble_eq_true rfl, Nat.le_of_ble_eq_true rfl⟩ KX_19 rfl hl.1 rfl rfl (Nat.le_of_ble_eq_true rfl) dX11_list_30 (fun H locs hW => W.eq (g2 := F0 m 33 ls []) rfl ?_)
  refine lv_iload_n hx hb dX11_list_33 rfl (lv_at hl 0 rfl) ?_
  refine lv_if_ge (tgt := 39) hx hb dX11_list_34 (by decide) (fun c5 => ?_) (fun c5 => ?_)
  · have h := xit c5 h
    refine lv_aload_n hx hb dX11_list_39 rfl (lv_at hl 1 rfl) ?_
    refine xg_r C hW fg_11_19 KX_0 rfl dX11_list_40 ?_
    refine lv_aload_n hx hb dX11_list_43 rfl (lv_at hl 1 rfl) ?_
    refine xg_r C hW fg_11_23 KX_0 rfl dX11_list_44 ?_
    obtain ⟨σ6, e6, h⟩ := xbo h
    refine xc_V (As := [.ref (g.q 2)]) (rest := []) C hW (m_X6_become 1 (Or.inl rfl) 2 (Or.inr rfl) _ e6) mf_X6_become mv_X6_become ml_X11_122 ⟨rfl, rfl⟩ ⟨Nat.le_of_ble_eq_true rfl, Nat.le_of_ble_eq_true rfl⟩ (KX_sl (Or.inl rfl)) rfl hl.1 rfl rfl (Nat.le_of_ble_eq_true rfl) dX11_list_47 (fun H locs hW => W.eq (g2 := F0 m 50 ls []) rfl ?_)
    refine lv_aload_n hx hb dX11_list_50 rfl (lv_at hl 1 rfl) ?_
    refine xg_r C hW fg_11_40 KX_0 rfl dX11_list_51 ?_
    obtain ⟨σ7, e7, h⟩ := xbo h
    refine xc_V (As := []) (rest := []) C hW (m_X1_forget _ e7) mf_X1_forget mv_X1_forget ml_X11_125 ⟨rfl, rfl⟩ ⟨Nat.le_of_ble_eq_true rfl, Nat.le_of_ble_eq_true rfl⟩ KX_23 rfl hl.1 rfl rfl (Nat.le_of_ble_eq_true rfl) dX11_list_54 (fun H locs hW => W.eq (g2 := F0 m 57 ls []) rfl ?_)
    refine lv_aload_n hx hb dX11_list_57 rfl (lv_at hl 1 rfl) ?_
    refine xg_r C hW fg_11_81 KX_0 rfl dX11_list_58 ?_
    obtain ⟨σ8, e8, h⟩ := xbo h
    refine xc_V (As := []) (rest := []) C hW (m_X5_forget _ e8) mf_X5_forget mv_X5_forget ml_X11_128 ⟨rfl, rfl⟩ ⟨Nat.le_of_ble_eq_true rfl, Nat.le_of_ble_eq_true rfl⟩ KX_57 rfl hl.1 rfl rfl (Nat.le_of_ble_eq_true rfl) dX11_list_61 (fun H locs hW => W.eq (g2 := F0 m 64 ls []) rfl ?_)
    refine lv_aload_n hx hb dX11_list_64 rfl (lv_at hl 1 rfl) ?_
    refine xg_r C hW fg_11_63 KX_0 rfl dX11_list_65 ?_
    obtain ⟨σ9, e9, h⟩ := xbo h
    refine xc_V (As := []) (rest := []) C hW (m_X3_forget _ e9) mf_X3_forget mv_X3_forget ml_X11_129 ⟨rfl, rfl⟩ ⟨Nat.le_of_ble_eq_true rfl, Nat.le_of_ble_eq_true rfl⟩ KX_40 rfl hl.1 rfl rfl (Nat.le_of_ble_eq_true rfl) dX11_list_68 (fun H locs hW => W.eq (g2 := F0 m 71 ls []) rfl ?_)
    refine lv_aload_n hx hb dX11_list_71 rfl (lv_at hl 1 rfl) ?_
    refine xg_r C hW fg_11_97 KX_0 rfl dX11_list_72 ?_
    obtain ⟨σ10, e10, h⟩ := xbo h
    refine xc_V (As := []) (rest := []) C hW (m_X10_forget _ e10) mf_X10_forget mv_X10_forget ml_X11_130 ⟨rfl, rfl⟩ ⟨Nat.le_of_ble_eq_true rfl, Nat.le_of_ble_eq_true rfl⟩ KX_73 rfl hl.1 rfl rfl (Nat.le_of_ble_eq_true rfl) dX11_list_75 (fun H locs hW => W.eq (g2 := F0 m 78 ls []) rfl ?_)
    refine lv_aload_n hx hb dX11_list_78 rfl (lv_at hl 1 rfl) ?_
    refine xg_r C hW fg_11_72 KX_0 rfl dX11_list_79 ?_
    obtain ⟨σ11, e11, h⟩ := xbo h
    refine xc_V (As := []) (rest := []) C hW (m_X2_forget N _ e11) mf_X2_forget mv_X2_forget ml_X11_131 ⟨rfl, rfl⟩ ⟨Nat.le_of_ble_eq_true rfl, Nat.le_of_ble_eq_true rfl⟩ KX_46 rfl hl.1 rfl rfl (Nat.le_of_ble_eq_true rfl) dX11_list_82 (fun H locs hW => W.eq (g2 := F0 m 85 ls []) rfl ?_)
    refine lv_aload_n hx hb dX11_list_85 rfl (lv_at hl 1 rfl) ?_
    refine xg_r C hW fg_11_90 KX_0 rfl dX11_list_86 ?_
    obtain ⟨σ12, e12, h⟩ := xbo h
    refine xc_V (As := []) (rest := []) C hW (m_X4_forgetFilled _ e12) mf_X4_forgetFilled mv_X4_forgetFilled ml_X11_132 ⟨rfl, rfl⟩ ⟨Nat.le_of_ble_eq_true rfl, Nat.le_of_ble_eq_true rfl⟩ KX_67 rfl hl.1 rfl rfl (Nat.le_of_ble_eq_true rfl) dX11_list_89 (fun H locs hW => W.eq (g2 := F0 m 92 ls []) rfl ?_)
    refine lv_iload_n hx hb dX11_list_92 rfl (lv_at hl 0 rfl) ?_
    cases h
    exact xr_i C hW dX11_list_93
  · have h := xif c5 h
    refine lv_iconst (v := (-1)) hx hb dX11_list_37 rfl ?_
    cases h
    exact xr_i C hW dX11_list_38
end
theorem dX11_fault_0 : decode cX11_fault 0 = .ok (.iload_n 1, 1) := by decide +kernel
theorem dX11_fault_1 : decode cX11_fault 1 = .ok (.ifCond .ne 11, 3) := by decide +kernel
theorem dX11_fault_4 : decode cX11_fault 4 = .ok (.aload_n 0, 1) := by decide +kernel
theorem dX11_fault_5 : decode cX11_fault 5 = .ok (.getfield 10, 3) := by decide +kernel
theorem dX11_fault_8 : decode cX11_fault 8 = .ok (.getfield 135, 3) := by decide +kernel
theorem dX11_fault_11 : decode cX11_fault 11 = .ok (.ireturn, 1) := by decide +kernel
theorem dX11_fault_12 : decode cX11_fault 12 = .ok (.iload_n 1, 1) := by decide +kernel
theorem dX11_fault_13 : decode cX11_fault 13 = .ok (.iconst 1, 1) := by decide +kernel
theorem dX11_fault_14 : decode cX11_fault 14 = .ok (.if_icmp .ne 13, 3) := by decide +kernel
theorem dX11_fault_17 : decode cX11_fault 17 = .ok (.aload_n 0, 1) := by decide +kernel
theorem dX11_fault_18 : decode cX11_fault 18 = .ok (.getfield 10, 3) := by decide +kernel
theorem dX11_fault_21 : decode cX11_fault 21 = .ok (.getfield 138, 3) := by decide +kernel
theorem dX11_fault_24 : decode cX11_fault 24 = .ok (.goto 4, 3) := by decide +kernel
theorem dX11_fault_27 : decode cX11_fault 27 = .ok (.iconst (-1), 1) := by decide +kernel
theorem dX11_fault_28 : decode cX11_fault 28 = .ok (.ireturn, 1) := by decide +kernel
abbrev rm_X11_fault : Room := { frames := 0, cells := 0, slots := 0, locals := 0 }
def f_X11_fault (x1 : Int32) (σ : St) : Int32 := (if x1 = 0 then σ.1 4811 0 else (if x1 = 1 then σ.1 4812 0 else (-1)))
section
variable {p : Program} {l : Launch} {e : Env} {s : State} {m : MethodId} {args : Array Value} {below : List Frame} {meth : Method} {c : Code} {g : XG}
set_option maxRecDepth 4000 in
theorem m_X11_fault (x1 : Int32) (σ : St) {r : Int32} (h : f_X11_fault x1 σ = r) : xM l KX g yX11_fault cX11_fault 2 (some .int) rm_X11_fault [.ref (g.q 0), .int x1] σ (some (.int r)) σ := by
  refine xmet pn_X11 rfl (Nat.le_of_ble_eq_true rfl) (lv := [(0, .ref (g.q 0)), (1, .int x1)]) rfl (fun p e s m args below meth c ls C hW hl => ?_)
  have hx := C.1
  have hb := C.2.1
  unfold f_X11_fault at h
  refine lv_iload_n hx hb dX11_fault_0 rfl (lv_at hl 1 rfl) ?_
  refine lv_if_ne (tgt := 12) hx hb dX11_fault_1 (by decide) (fun c1 => ?_) (fun c1 => ?_)
  · have h := xif c1 h
    refine lv_iload_n hx hb dX11_fault_12 rfl (lv_at hl 1 rfl) ?_
    refine lv_iconst (v := 1) hx hb dX11_fault_13 rfl ?_
    refine lv_icmp_ne (tgt := 27) hx hb dX11_fault_14 (by decide) (fun c2 => ?_) (fun c2 => ?_)
    · have h := xif c2 h
      refine lv_iconst (v := (-1)) hx hb dX11_fault_27 rfl ?_
      cases h
      exact xr_i C hW dX11_fault_28
    · have h := xit c2 h
      refine lv_aload_n hx hb dX11_fault_17 rfl (lv_at hl 0 rfl) ?_
      refine xg_r C hW fg_11_10 KX_0 rfl dX11_fault_18 ?_
      refine xg_i C hW fg_11_138 KX_19 rfl (v := 4812) rfl (x := σ.1 4812 0) rfl dX11_fault_21 ?_
      refine lv_goto (tgt := 28) hx hb dX11_fault_24 (by decide) ?_
      cases h
      exact xr_i C hW dX11_fault_28
  · have h := xit c1 h
    refine lv_aload_n hx hb dX11_fault_4 rfl (lv_at hl 0 rfl) ?_
    refine xg_r C hW fg_11_10 KX_0 rfl dX11_fault_5 ?_
    refine xg_i C hW fg_11_135 KX_19 rfl (v := 4811) rfl (x := σ.1 4811 0) rfl dX11_fault_8 ?_
    cases h
    exact xr_i C hW dX11_fault_11
end
theorem dX11_rule_0 : decode cX11_rule 0 = .ok (.iload_n 1, 1) := by decide +kernel
theorem dX11_rule_1 : decode cX11_rule 1 = .ok (.ifCond .ne 11, 3) := by decide +kernel
theorem dX11_rule_4 : decode cX11_rule 4 = .ok (.aload_n 0, 1) := by decide +kernel
theorem dX11_rule_5 : decode cX11_rule 5 = .ok (.getfield 19, 3) := by decide +kernel
theorem dX11_rule_8 : decode cX11_rule 8 = .ok (.getfield 141, 3) := by decide +kernel
theorem dX11_rule_11 : decode cX11_rule 11 = .ok (.ireturn, 1) := by decide +kernel
theorem dX11_rule_12 : decode cX11_rule 12 = .ok (.iload_n 1, 1) := by decide +kernel
theorem dX11_rule_13 : decode cX11_rule 13 = .ok (.iconst 1, 1) := by decide +kernel
theorem dX11_rule_14 : decode cX11_rule 14 = .ok (.if_icmp .lt 8, 3) := by decide +kernel
theorem dX11_rule_17 : decode cX11_rule 17 = .ok (.iload_n 1, 1) := by decide +kernel
theorem dX11_rule_18 : decode cX11_rule 18 = .ok (.iconst 4, 1) := by decide +kernel
theorem dX11_rule_19 : decode cX11_rule 19 = .ok (.if_icmp .le 6, 3) := by decide +kernel
theorem dX11_rule_22 : decode cX11_rule 22 = .ok (.bipush (-9), 2) := by decide +kernel
theorem dX11_rule_24 : decode cX11_rule 24 = .ok (.ireturn, 1) := by decide +kernel
theorem dX11_rule_25 : decode cX11_rule 25 = .ok (.aload_n 0, 1) := by decide +kernel
theorem dX11_rule_26 : decode cX11_rule 26 = .ok (.getfield 19, 3) := by decide +kernel
theorem dX11_rule_29 : decode cX11_rule 29 = .ok (.getfield 142, 3) := by decide +kernel
theorem dX11_rule_32 : decode cX11_rule 32 = .ok (.iload_n 1, 1) := by decide +kernel
theorem dX11_rule_33 : decode cX11_rule 33 = .ok (.iconst 1, 1) := by decide +kernel
theorem dX11_rule_34 : decode cX11_rule 34 = .ok (.isub, 1) := by decide +kernel
theorem dX11_rule_35 : decode cX11_rule 35 = .ok (.iaload, 1) := by decide +kernel
theorem dX11_rule_36 : decode cX11_rule 36 = .ok (.ireturn, 1) := by decide +kernel
abbrev rm_X11_rule : Room := { frames := 0, cells := 0, slots := 0, locals := 0 }
def f_X11_rule (x1 : Int32) (σ : St) : Option Int32 := (if x1 = 0 then some (σ.1 1200 0) else (if x1 < 1 then some ((-9)) else (if x1 ≤ 4 then grd (ib (x1 - 1) 4) (some (σ.1 10 (x1 - 1).toNatClampNeg)) else some ((-9)))))
section
variable {p : Program} {l : Launch} {e : Env} {s : State} {m : MethodId} {args : Array Value} {below : List Frame} {meth : Method} {c : Code} {g : XG}
set_option maxRecDepth 4000 in
theorem m_X11_rule (x1 : Int32) (σ : St) {r : Int32} (h : f_X11_rule x1 σ = some r) : xM l KX g yX11_rule cX11_rule 2 (some .int) rm_X11_rule [.ref (g.q 0), .int x1] σ (some (.int r)) σ := by
  refine xmet pn_X11 rfl (Nat.le_of_ble_eq_true rfl) (lv := [(0, .ref (g.q 0)), (1, .int x1)]) rfl (fun p e s m args below meth c ls C hW hl => ?_)
  have hx := C.1
  have hb := C.2.1
  unfold f_X11_rule at h
  refine lv_iload_n hx hb dX11_rule_0 rfl (lv_at hl 1 rfl) ?_
  refine lv_if_ne (tgt := 12) hx hb dX11_rule_1 (by decide) (fun c1 => ?_) (fun c1 => ?_)
  · have h := xif c1 h
    refine lv_iload_n hx hb dX11_rule_12 rfl (lv_at hl 1 rfl) ?_
    refine lv_iconst (v := 1) hx hb dX11_rule_13 rfl ?_
    refine lv_icmp_lt (tgt := 22) hx hb dX11_rule_14 (by decide) (fun c2 => ?_) (fun c2 => ?_)
    · have h := xit c2 h
      refine lv_bipush (v := (-9)) hx hb dX11_rule_22 rfl ?_
      cases h
      exact xr_i C hW dX11_rule_24
    · have h := xif c2 h
      refine lv_iload_n hx hb dX11_rule_17 rfl (lv_at hl 1 rfl) ?_
      refine lv_iconst (v := 4) hx hb dX11_rule_18 rfl ?_
      refine lv_icmp_le (tgt := 25) hx hb dX11_rule_19 (by decide) (fun c3 => ?_) (fun c3 => ?_)
      · have h := xit c3 h
        refine lv_aload_n hx hb dX11_rule_25 rfl (lv_at hl 0 rfl) ?_
        refine xg_r C hW fg_11_19 KX_0 rfl dX11_rule_26 ?_
        refine xg_r C hW fg_11_142 KX_1 rfl dX11_rule_29 ?_
        refine lv_iload_n hx hb dX11_rule_32 rfl (lv_at hl 1 rfl) ?_
        refine lv_iconst (v := 1) hx hb dX11_rule_33 rfl ?_
        refine lv_isub hx hb dX11_rule_34 ?_
        obtain ⟨g4, h⟩ := xgd h
        refine xa_i C hW KX_10 g4 (x := σ.1 10 (x1 - 1).toNatClampNeg) rfl dX11_rule_35 ?_
        cases h
        exact xr_i C hW dX11_rule_36
      · have h := xif c3 h
        refine lv_bipush (v := (-9)) hx hb dX11_rule_22 rfl ?_
        cases h
        exact xr_i C hW dX11_rule_24
  · have h := xit c1 h
    refine lv_aload_n hx hb dX11_rule_4 rfl (lv_at hl 0 rfl) ?_
    refine xg_r C hW fg_11_19 KX_0 rfl dX11_rule_5 ?_
    refine xg_i C hW fg_11_141 KX_1 rfl (v := 1200) rfl (x := σ.1 1200 0) rfl dX11_rule_8 ?_
    cases h
    exact xr_i C hW dX11_rule_11
end
theorem dX11_soundOf_0 : decode cX11_soundOf 0 = .ok (.iload_n 2, 1) := by decide +kernel
theorem dX11_soundOf_1 : decode cX11_soundOf 1 = .ok (.bipush 10, 2) := by decide +kernel
theorem dX11_soundOf_3 : decode cX11_soundOf 3 = .ok (.isub, 1) := by decide +kernel
theorem dX11_soundOf_4 : decode cX11_soundOf 4 = .ok (.istore 4, 2) := by decide +kernel
theorem dX11_soundOf_6 : decode cX11_soundOf 6 = .ok (.iload 4, 2) := by decide +kernel
theorem dX11_soundOf_8 : decode cX11_soundOf 8 = .ok (.ifCond .lt 9, 3) := by decide +kernel
theorem dX11_soundOf_11 : decode cX11_soundOf 11 = .ok (.iload 4, 2) := by decide +kernel
theorem dX11_soundOf_13 : decode cX11_soundOf 13 = .ok (.iload_n 1, 1) := by decide +kernel
theorem dX11_soundOf_14 : decode cX11_soundOf 14 = .ok (.if_icmp .lt 7, 3) := by decide +kernel
theorem dX11_soundOf_17 : decode cX11_soundOf 17 = .ok (.iload_n 3, 1) := by decide +kernel
theorem dX11_soundOf_18 : decode cX11_soundOf 18 = .ok (.goto 9, 3) := by decide +kernel
theorem dX11_soundOf_21 : decode cX11_soundOf 21 = .ok (.iload_n 0, 1) := by decide +kernel
theorem dX11_soundOf_22 : decode cX11_soundOf 22 = .ok (.iload 4, 2) := by decide +kernel
theorem dX11_soundOf_24 : decode cX11_soundOf 24 = .ok (.invokestatic 376, 3) := by decide +kernel
theorem dX11_soundOf_27 : decode cX11_soundOf 27 = .ok (.ireturn, 1) := by decide +kernel
abbrev rm_X11_soundOf : Room := { frames := 1, cells := 0, slots := 0, locals := 21 }
def f_X11_soundOf (x0 : Int32) (x1 : Int32) (x2 : Int32) (x3 : Int32) (σ : St) : Int32 := (if (x2 - 10) < 0 then x3 else (if (x2 - 10) < x1 then f_X11_soundAt x0 (x2 - 10) σ else x3))
section
variable {p : Program} {l : Launch} {e : Env} {s : State} {m : MethodId} {args : Array Value} {below : List Frame} {meth : Method} {c : Code} {g : XG}
set_option maxRecDepth 4000 in
theorem m_X11_soundOf (x0 : Int32) (x1 : Int32) (x2 : Int32) (x3 : Int32) (σ : St) {r : Int32} (h : f_X11_soundOf x0 x1 x2 x3 σ = r) : xM l KX g yX11_soundOf cX11_soundOf 5 (some .int) rm_X11_soundOf [.int x0, .int x1, .int x2, .int x3] σ (some (.int r)) σ := by
  refine xmet pn_X11 rfl (Nat.le_of_ble_eq_true rfl) (lv := [(0, .int x0), (1, .int x1), (2, .int x2), (3, .int x3)]) rfl (fun p e s m args below meth c ls C hW hl => ?_)
  have hx := C.1
  have hb := C.2.1
  unfold f_X11_soundOf at h
  refine lv_iload_n hx hb dX11_soundOf_0 rfl (lv_at hl 2 rfl) ?_
  refine lv_bipush (v := 10) hx hb dX11_soundOf_1 rfl ?_
  refine lv_isub hx hb dX11_soundOf_3 ?_
  refine lv_istore (lv' := [(4, .int (x2 - 10)), (0, .int x0), (1, .int x1), (2, .int x2), (3, .int x3)]) hx hb dX11_soundOf_4 hl (Nat.le_of_ble_eq_true rfl) rfl (fun ls hl => ?_)
  refine lv_iload hx hb dX11_soundOf_6 (lv_at hl 0 rfl) ?_
  refine lv_if_lt (tgt := 17) hx hb dX11_soundOf_8 (by decide) (fun c1 => ?_) (fun c1 => ?_)
  · have h := xit c1 h
    refine lv_iload_n hx hb dX11_soundOf_17 rfl (lv_at hl 4 rfl) ?_
    refine lv_goto (tgt := 27) hx hb dX11_soundOf_18 (by decide) ?_
    cases h
    exact xr_i C hW dX11_soundOf_27
  · have h := xif c1 h
    refine lv_iload hx hb dX11_soundOf_11 (lv_at hl 0 rfl) ?_
    refine lv_iload_n hx hb dX11_soundOf_13 rfl (lv_at hl 2 rfl) ?_
    refine lv_icmp_lt (tgt := 21) hx hb dX11_soundOf_14 (by decide) (fun c2 => ?_) (fun c2 => ?_)
    · have h := xit c2 h
      refine lv_iload_n hx hb dX11_soundOf_21 rfl (lv_at hl 1 rfl) ?_
      refine lv_iload hx hb dX11_soundOf_22 (lv_at hl 0 rfl) ?_
      refine xc_S (As := [.int x0, .int (x2 - 10)]) (rest := []) C hW (m_X11_soundAt x0 (x2 - 10) _ rfl) mf_X11_soundAt mt_X11_soundAt ml_X11_376 ⟨rfl, rfl⟩ ⟨Nat.le_of_ble_eq_true rfl, Nat.le_of_ble_eq_true rfl⟩ hl.1 rfl rfl (Nat.le_of_ble_eq_true rfl) dX11_soundOf_24 (fun H locs hW => W.eq (g2 := F0 m 27 ls [.int (f_X11_soundAt x0 (x2 - 10) σ)]) rfl ?_)
      cases h
      exact xr_i C hW dX11_soundOf_27
    · have h := xif c2 h
      refine lv_iload_n hx hb dX11_soundOf_17 rfl (lv_at hl 4 rfl) ?_
      refine lv_goto (tgt := 27) hx hb dX11_soundOf_18 (by decide) ?_
      cases h
      exact xr_i C hW dX11_soundOf_27
end
theorem dX11_sign_0 : decode cX11_sign 0 = .ok (.aload_n 0, 1) := by decide +kernel
theorem dX11_sign_1 : decode cX11_sign 1 = .ok (.getfield 19, 3) := by decide +kernel
theorem dX11_sign_4 : decode cX11_sign 4 = .ok (.iload_n 1, 1) := by decide +kernel
theorem dX11_sign_5 : decode cX11_sign 5 = .ok (.invokevirtual 146, 3) := by decide +kernel
theorem dX11_sign_8 : decode cX11_sign 8 = .ok (.ifCond .ne 6, 3) := by decide +kernel
theorem dX11_sign_11 : decode cX11_sign 11 = .ok (.bipush (-9), 2) := by decide +kernel
theorem dX11_sign_13 : decode cX11_sign 13 = .ok (.ireturn, 1) := by decide +kernel
theorem dX11_sign_14 : decode cX11_sign 14 = .ok (.iload_n 2, 1) := by decide +kernel
theorem dX11_sign_15 : decode cX11_sign 15 = .ok (.tableswitch 69 0 3 #[29, 39, 49, 59], 29) := by decide +kernel
theorem dX11_sign_44 : decode cX11_sign 44 = .ok (.aload_n 0, 1) := by decide +kernel
theorem dX11_sign_45 : decode cX11_sign 45 = .ok (.getfield 19, 3) := by decide +kernel
theorem dX11_sign_48 : decode cX11_sign 48 = .ok (.getfield 150, 3) := by decide +kernel
theorem dX11_sign_51 : decode cX11_sign 51 = .ok (.iload_n 1, 1) := by decide +kernel
theorem dX11_sign_52 : decode cX11_sign 52 = .ok (.iaload, 1) := by decide +kernel
theorem dX11_sign_53 : decode cX11_sign 53 = .ok (.ireturn, 1) := by decide +kernel
theorem dX11_sign_54 : decode cX11_sign 54 = .ok (.aload_n 0, 1) := by decide +kernel
theorem dX11_sign_55 : decode cX11_sign 55 = .ok (.getfield 19, 3) := by decide +kernel
theorem dX11_sign_58 : decode cX11_sign 58 = .ok (.getfield 153, 3) := by decide +kernel
theorem dX11_sign_61 : decode cX11_sign 61 = .ok (.iload_n 1, 1) := by decide +kernel
theorem dX11_sign_62 : decode cX11_sign 62 = .ok (.iaload, 1) := by decide +kernel
theorem dX11_sign_63 : decode cX11_sign 63 = .ok (.ireturn, 1) := by decide +kernel
theorem dX11_sign_64 : decode cX11_sign 64 = .ok (.aload_n 0, 1) := by decide +kernel
theorem dX11_sign_65 : decode cX11_sign 65 = .ok (.getfield 19, 3) := by decide +kernel
theorem dX11_sign_68 : decode cX11_sign 68 = .ok (.getfield 156, 3) := by decide +kernel
theorem dX11_sign_71 : decode cX11_sign 71 = .ok (.iload_n 1, 1) := by decide +kernel
theorem dX11_sign_72 : decode cX11_sign 72 = .ok (.iaload, 1) := by decide +kernel
theorem dX11_sign_73 : decode cX11_sign 73 = .ok (.ireturn, 1) := by decide +kernel
theorem dX11_sign_74 : decode cX11_sign 74 = .ok (.aload_n 0, 1) := by decide +kernel
theorem dX11_sign_75 : decode cX11_sign 75 = .ok (.getfield 19, 3) := by decide +kernel
theorem dX11_sign_78 : decode cX11_sign 78 = .ok (.getfield 159, 3) := by decide +kernel
theorem dX11_sign_81 : decode cX11_sign 81 = .ok (.iload_n 1, 1) := by decide +kernel
theorem dX11_sign_82 : decode cX11_sign 82 = .ok (.iaload, 1) := by decide +kernel
theorem dX11_sign_83 : decode cX11_sign 83 = .ok (.ireturn, 1) := by decide +kernel
theorem dX11_sign_84 : decode cX11_sign 84 = .ok (.aload_n 0, 1) := by decide +kernel
theorem dX11_sign_85 : decode cX11_sign 85 = .ok (.getfield 19, 3) := by decide +kernel
theorem dX11_sign_88 : decode cX11_sign 88 = .ok (.getfield 162, 3) := by decide +kernel
theorem dX11_sign_91 : decode cX11_sign 91 = .ok (.iload_n 1, 1) := by decide +kernel
theorem dX11_sign_92 : decode cX11_sign 92 = .ok (.iaload, 1) := by decide +kernel
theorem dX11_sign_93 : decode cX11_sign 93 = .ok (.aload_n 0, 1) := by decide +kernel
theorem dX11_sign_94 : decode cX11_sign 94 = .ok (.getfield 19, 3) := by decide +kernel
theorem dX11_sign_97 : decode cX11_sign 97 = .ok (.getfield 159, 3) := by decide +kernel
theorem dX11_sign_100 : decode cX11_sign 100 = .ok (.iload_n 1, 1) := by decide +kernel
theorem dX11_sign_101 : decode cX11_sign 101 = .ok (.iaload, 1) := by decide +kernel
theorem dX11_sign_102 : decode cX11_sign 102 = .ok (.iload_n 2, 1) := by decide +kernel
theorem dX11_sign_103 : decode cX11_sign 103 = .ok (.bipush (-9), 2) := by decide +kernel
theorem dX11_sign_105 : decode cX11_sign 105 = .ok (.invokestatic 165, 3) := by decide +kernel
theorem dX11_sign_108 : decode cX11_sign 108 = .ok (.ireturn, 1) := by decide +kernel
abbrev rm_X11_sign : Room := { frames := 2, cells := 0, slots := 0, locals := 45 }
def f_X11_sign (x1 : Int32) (x2 : Int32) (σ : St) : Option Int32 := (if (f_X6_has 1 x1 σ) = 0 then some ((-9)) else (if x2 = 0 then grd (ib x1 40) (some (σ.1 4 x1.toNatClampNeg)) else (if x2 = 1 then grd (ib x1 40) (some (σ.1 5 x1.toNatClampNeg)) else (if x2 = 2 then grd (ib x1 40) (some (σ.1 6 x1.toNatClampNeg)) else (if x2 = 3 then grd (ib x1 40) (some (σ.1 7 x1.toNatClampNeg)) else grd (ib x1 40) (grd (ib x1 40) (some (f_X11_soundOf (σ.1 8 x1.toNatClampNeg) (σ.1 7 x1.toNatClampNeg) x2 ((-9)) σ))))))))
section
variable {p : Program} {l : Launch} {e : Env} {s : State} {m : MethodId} {args : Array Value} {below : List Frame} {meth : Method} {c : Code} {g : XG}
set_option maxRecDepth 4000 in
theorem m_X11_sign (x1 : Int32) (x2 : Int32) (σ : St) {r : Int32} (h : f_X11_sign x1 x2 σ = some r) : xM l KX g yX11_sign cX11_sign 3 (some .int) rm_X11_sign [.ref (g.q 0), .int x1, .int x2] σ (some (.int r)) σ := by
  refine xmet pn_X11 rfl (Nat.le_of_ble_eq_true rfl) (lv := [(0, .ref (g.q 0)), (1, .int x1), (2, .int x2)]) rfl (fun p e s m args below meth c ls C hW hl => ?_)
  have hx := C.1
  have hb := C.2.1
  unfold f_X11_sign at h
  refine lv_aload_n hx hb dX11_sign_0 rfl (lv_at hl 0 rfl) ?_
  refine xg_r C hW fg_11_19 KX_0 rfl dX11_sign_1 ?_
  refine lv_iload_n hx hb dX11_sign_4 rfl (lv_at hl 1 rfl) ?_
  refine xc_V (As := [.int x1]) (rest := []) C hW (m_X6_has 1 (Or.inl rfl) x1 _ rfl) mf_X6_has mv_X6_has ml_X11_146 ⟨rfl, rfl⟩ ⟨Nat.le_of_ble_eq_true rfl, Nat.le_of_ble_eq_true rfl⟩ (KX_sl (Or.inl rfl)) rfl hl.1 rfl rfl (Nat.le_of_ble_eq_true rfl) dX11_sign_5 (fun H locs hW => W.eq (g2 := F0 m 8 ls [.int (f_X6_has 1 x1 σ)]) rfl ?_)
  refine lv_if_ne (tgt := 14) hx hb dX11_sign_8 (by decide) (fun c1 => ?_) (fun c1 => ?_)
  · have h := xif c1 h
    refine lv_iload_n hx hb dX11_sign_14 rfl (lv_at hl 2 rfl) ?_
    by_cases c2 : x2 = 0
    · have h := xit c2 h
      refine lv_tableIn (off := 29) (tgt := 44) hx hb dX11_sign_15 (by rw [c2]; decide) (by rw [c2]; decide) (by rw [c2]; rfl) (by decide) ?_
      refine lv_aload_n hx hb dX11_sign_44 rfl (lv_at hl 0 rfl) ?_
      refine xg_r C hW fg_11_19 KX_0 rfl dX11_sign_45 ?_
      refine xg_r C hW fg_11_150 KX_1 rfl dX11_sign_48 ?_
      refine lv_iload_n hx hb dX11_sign_51 rfl (lv_at hl 1 rfl) ?_
      obtain ⟨g3, h⟩ := xgd h
      refine xa_i C hW KX_4 g3 (x := σ.1 4 x1.toNatClampNeg) rfl dX11_sign_52 ?_
      cases h
      exact xr_i C hW dX11_sign_53
    · have h := xif c2 h
      by_cases c4 : x2 = 1
      · have h := xit c4 h
        refine lv_tableIn (off := 39) (tgt := 54) hx hb dX11_sign_15 (by rw [c4]; decide) (by rw [c4]; decide) (by rw [c4]; rfl) (by decide) ?_
        refine lv_aload_n hx hb dX11_sign_54 rfl (lv_at hl 0 rfl) ?_
        refine xg_r C hW fg_11_19 KX_0 rfl dX11_sign_55 ?_
        refine xg_r C hW fg_11_153 KX_1 rfl dX11_sign_58 ?_
        refine lv_iload_n hx hb dX11_sign_61 rfl (lv_at hl 1 rfl) ?_
        obtain ⟨g5, h⟩ := xgd h
        refine xa_i C hW KX_5 g5 (x := σ.1 5 x1.toNatClampNeg) rfl dX11_sign_62 ?_
        cases h
        exact xr_i C hW dX11_sign_63
      · have h := xif c4 h
        by_cases c6 : x2 = 2
        · have h := xit c6 h
          refine lv_tableIn (off := 49) (tgt := 64) hx hb dX11_sign_15 (by rw [c6]; decide) (by rw [c6]; decide) (by rw [c6]; rfl) (by decide) ?_
          refine lv_aload_n hx hb dX11_sign_64 rfl (lv_at hl 0 rfl) ?_
          refine xg_r C hW fg_11_19 KX_0 rfl dX11_sign_65 ?_
          refine xg_r C hW fg_11_156 KX_1 rfl dX11_sign_68 ?_
          refine lv_iload_n hx hb dX11_sign_71 rfl (lv_at hl 1 rfl) ?_
          obtain ⟨g7, h⟩ := xgd h
          refine xa_i C hW KX_6 g7 (x := σ.1 6 x1.toNatClampNeg) rfl dX11_sign_72 ?_
          cases h
          exact xr_i C hW dX11_sign_73
        · have h := xif c6 h
          by_cases c8 : x2 = 3
          · have h := xit c8 h
            refine lv_tableIn (off := 59) (tgt := 74) hx hb dX11_sign_15 (by rw [c8]; decide) (by rw [c8]; decide) (by rw [c8]; rfl) (by decide) ?_
            refine lv_aload_n hx hb dX11_sign_74 rfl (lv_at hl 0 rfl) ?_
            refine xg_r C hW fg_11_19 KX_0 rfl dX11_sign_75 ?_
            refine xg_r C hW fg_11_159 KX_1 rfl dX11_sign_78 ?_
            refine lv_iload_n hx hb dX11_sign_81 rfl (lv_at hl 1 rfl) ?_
            obtain ⟨g9, h⟩ := xgd h
            refine xa_i C hW KX_7 g9 (x := σ.1 7 x1.toNatClampNeg) rfl dX11_sign_82 ?_
            cases h
            exact xr_i C hW dX11_sign_83
          · have h := xif c8 h
            refine lv_tableOut (tgt := 84) hx hb dX11_sign_15 (xsw_out (fun k h1 h2 => ?_)) (by decide) ?_
            · rcases (show k = 0 ∨ k = 1 ∨ k = 2 ∨ k = 3 by omega) with rfl | rfl | rfl | rfl
              · exact c2
              · exact c4
              · exact c6
              · exact c8
            · refine lv_aload_n hx hb dX11_sign_84 rfl (lv_at hl 0 rfl) ?_
              refine xg_r C hW fg_11_19 KX_0 rfl dX11_sign_85 ?_
              refine xg_r C hW fg_11_162 KX_1 rfl dX11_sign_88 ?_
              refine lv_iload_n hx hb dX11_sign_91 rfl (lv_at hl 1 rfl) ?_
              obtain ⟨g10, h⟩ := xgd h
              refine xa_i C hW KX_8 g10 (x := σ.1 8 x1.toNatClampNeg) rfl dX11_sign_92 ?_
              refine lv_aload_n hx hb dX11_sign_93 rfl (lv_at hl 0 rfl) ?_
              refine xg_r C hW fg_11_19 KX_0 rfl dX11_sign_94 ?_
              refine xg_r C hW fg_11_159 KX_1 rfl dX11_sign_97 ?_
              refine lv_iload_n hx hb dX11_sign_100 rfl (lv_at hl 1 rfl) ?_
              obtain ⟨g11, h⟩ := xgd h
              refine xa_i C hW KX_7 g11 (x := σ.1 7 x1.toNatClampNeg) rfl dX11_sign_101 ?_
              refine lv_iload_n hx hb dX11_sign_102 rfl (lv_at hl 2 rfl) ?_
              refine lv_bipush (v := (-9)) hx hb dX11_sign_103 rfl ?_
              refine xc_S (As := [.int (σ.1 8 x1.toNatClampNeg), .int (σ.1 7 x1.toNatClampNeg), .int x2, .int ((-9))]) (rest := []) C hW (m_X11_soundOf (σ.1 8 x1.toNatClampNeg) (σ.1 7 x1.toNatClampNeg) x2 ((-9)) _ rfl) mf_X11_soundOf mt_X11_soundOf ml_X11_165 ⟨rfl, rfl⟩ ⟨Nat.le_of_ble_eq_true rfl, Nat.le_of_ble_eq_true rfl⟩ hl.1 rfl rfl (Nat.le_of_ble_eq_true rfl) dX11_sign_105 (fun H locs hW => W.eq (g2 := F0 m 108 ls [.int (f_X11_soundOf (σ.1 8 x1.toNatClampNeg) (σ.1 7 x1.toNatClampNeg) x2 ((-9)) σ)]) rfl ?_)
              cases h
              exact xr_i C hW dX11_sign_108
  · have h := xit c1 h
    refine lv_bipush (v := (-9)) hx hb dX11_sign_11 rfl ?_
    cases h
    exact xr_i C hW dX11_sign_13
end
theorem dX11_named_0 : decode cX11_named 0 = .ok (.aload_n 0, 1) := by decide +kernel
theorem dX11_named_1 : decode cX11_named 1 = .ok (.getfield 10, 3) := by decide +kernel
theorem dX11_named_4 : decode cX11_named 4 = .ok (.invokevirtual 109, 3) := by decide +kernel
theorem dX11_named_7 : decode cX11_named 7 = .ok (.aload_n 0, 1) := by decide +kernel
theorem dX11_named_8 : decode cX11_named 8 = .ok (.getfield 10, 3) := by decide +kernel
theorem dX11_named_11 : decode cX11_named 11 = .ok (.invokevirtual 169, 3) := by decide +kernel
theorem dX11_named_14 : decode cX11_named 14 = .ok (.aload_n 0, 1) := by decide +kernel
theorem dX11_named_15 : decode cX11_named 15 = .ok (.getfield 10, 3) := by decide +kernel
theorem dX11_named_18 : decode cX11_named 18 = .ok (.getfield 172, 3) := by decide +kernel
theorem dX11_named_21 : decode cX11_named 21 = .ok (.iconst 1, 1) := by decide +kernel
theorem dX11_named_22 : decode cX11_named 22 = .ok (.if_icmp .ne 7, 3) := by decide +kernel
theorem dX11_named_25 : decode cX11_named 25 = .ok (.iconst 1, 1) := by decide +kernel
theorem dX11_named_26 : decode cX11_named 26 = .ok (.goto 4, 3) := by decide +kernel
theorem dX11_named_29 : decode cX11_named 29 = .ok (.iconst 0, 1) := by decide +kernel
theorem dX11_named_30 : decode cX11_named 30 = .ok (.istore_n 1, 1) := by decide +kernel
theorem dX11_named_31 : decode cX11_named 31 = .ok (.aload_n 0, 1) := by decide +kernel
theorem dX11_named_32 : decode cX11_named 32 = .ok (.getfield 10, 3) := by decide +kernel
theorem dX11_named_35 : decode cX11_named 35 = .ok (.getfield 175, 3) := by decide +kernel
theorem dX11_named_38 : decode cX11_named 38 = .ok (.lstore_n 2, 1) := by decide +kernel
theorem dX11_named_39 : decode cX11_named 39 = .ok (.aload_n 0, 1) := by decide +kernel
theorem dX11_named_40 : decode cX11_named 40 = .ok (.getfield 10, 3) := by decide +kernel
theorem dX11_named_43 : decode cX11_named 43 = .ok (.invokevirtual 169, 3) := by decide +kernel
theorem dX11_named_46 : decode cX11_named 46 = .ok (.aload_n 0, 1) := by decide +kernel
theorem dX11_named_47 : decode cX11_named 47 = .ok (.getfield 10, 3) := by decide +kernel
theorem dX11_named_50 : decode cX11_named 50 = .ok (.getfield 172, 3) := by decide +kernel
theorem dX11_named_53 : decode cX11_named 53 = .ok (.ifCond .ne 7, 3) := by decide +kernel
theorem dX11_named_56 : decode cX11_named 56 = .ok (.iconst 1, 1) := by decide +kernel
theorem dX11_named_57 : decode cX11_named 57 = .ok (.goto 4, 3) := by decide +kernel
theorem dX11_named_60 : decode cX11_named 60 = .ok (.iconst 0, 1) := by decide +kernel
theorem dX11_named_61 : decode cX11_named 61 = .ok (.istore 4, 2) := by decide +kernel
theorem dX11_named_63 : decode cX11_named 63 = .ok (.aload_n 0, 1) := by decide +kernel
theorem dX11_named_64 : decode cX11_named 64 = .ok (.getfield 10, 3) := by decide +kernel
theorem dX11_named_67 : decode cX11_named 67 = .ok (.invokevirtual 119, 3) := by decide +kernel
theorem dX11_named_70 : decode cX11_named 70 = .ok (.iload_n 1, 1) := by decide +kernel
theorem dX11_named_71 : decode cX11_named 71 = .ok (.ifCond .eq 19, 3) := by decide +kernel
theorem dX11_named_74 : decode cX11_named 74 = .ok (.iload 4, 2) := by decide +kernel
theorem dX11_named_76 : decode cX11_named 76 = .ok (.ifCond .eq 14, 3) := by decide +kernel
theorem dX11_named_79 : decode cX11_named 79 = .ok (.aload_n 0, 1) := by decide +kernel
theorem dX11_named_80 : decode cX11_named 80 = .ok (.getfield 19, 3) := by decide +kernel
theorem dX11_named_83 : decode cX11_named 83 = .ok (.lload_n 2, 1) := by decide +kernel
theorem dX11_named_84 : decode cX11_named 84 = .ok (.invokevirtual 179, 3) := by decide +kernel
theorem dX11_named_87 : decode cX11_named 87 = .ok (.goto 4, 3) := by decide +kernel
theorem dX11_named_90 : decode cX11_named 90 = .ok (.iconst (-1), 1) := by decide +kernel
theorem dX11_named_91 : decode cX11_named 91 = .ok (.ireturn, 1) := by decide +kernel
abbrev rm_X11_named : Room := { frames := 3, cells := 0, slots := 0, locals := 61 }
def f_X11_named_61 (N : Nat) (x1 : Int32) (x2 : Int64) (t0 : Int32) (σ : St) : Option (Int32 × St) := bo (f_X8_drain σ) (fun σ6 => (if x1 = 0 then some ((-1), σ6) else (if t0 = 0 then some ((-1), σ6) else bo (f_X6_find 1 N x2 σ6) (fun r9_ => some (r9_, σ6)))))
def f_X11_named_30 (N : Nat) (t0 : Int32) (σ : St) : Option (Int32 × St) := bo (f_X8_next N σ) (fun σ4 => (if (σ4.1 4803 0) = 0 then f_X11_named_61 N t0 (σ.2 4806 0) 1 σ4 else f_X11_named_61 N t0 (σ.2 4806 0) 0 σ4))
def f_X11_named (N : Nat) (σ : St) : Option (Int32 × St) := bo (f_X8_rewind σ) (fun σ1 => bo (f_X8_next N σ1) (fun σ2 => (if (σ2.1 4803 0) = 1 then f_X11_named_30 N 1 σ2 else f_X11_named_30 N 0 σ2)))
section
variable {p : Program} {l : Launch} {e : Env} {s : State} {m : MethodId} {args : Array Value} {below : List Frame} {meth : Method} {c : Code} {g : XG}
set_option maxRecDepth 4000 in
theorem w_X11_named_61 (N : Nat) {r : Int32} {σ' : St} (C : xC KX g RX11 cX11_named 5 (some .int) p s m args meth c) : ∀ (x1 : Int32) (x2 : Int64) (t0 : Int32) (σ : St) (H : Heap) (locs : List Loc) (ls : Array Slot), xW KX g s σ H locs → lv_has ls 5 [(0, .ref (g.q 0)), (1, .int x1), (2, .long x2)] → f_X11_named_61 N x1 x2 t0 σ = some (r, σ') → W p l e rm_X11_named s m args below meth c H locs 0 0 (MQ below (xPost KX g (some (.int r)) σ') args s 0 0 (xA KX g.q)) (F0 m 61 ls [.int t0]) := by
  have hx := C.1
  have hb := C.2.1
  intro x1 x2 t0 σ H locs ls hW hl h
  unfold f_X11_named_61 at h
  refine lv_istore (lv' := [(4, .int t0), (0, .ref (g.q 0)), (1, .int x1), (2, .long x2)]) hx hb dX11_named_61 hl (Nat.le_of_ble_eq_true rfl) rfl (fun ls hl => ?_)
  refine lv_aload_n hx hb dX11_named_63 rfl (lv_at hl 1 rfl) ?_
  refine xg_r C hW fg_11_10 KX_0 rfl dX11_named_64 ?_
  obtain ⟨σ6, e6, h⟩ := xbo h
  refine xc_V (As := []) (rest := []) C hW (m_X8_drain _ e6) mf_X8_drain mv_X8_drain ml_X11_119 ⟨rfl, rfl⟩ ⟨Nat.le_of_ble_eq_true rfl, Nat.le_of_ble_eq_true rfl⟩ KX_19 rfl hl.1 rfl rfl (Nat.le_of_ble_eq_true rfl) dX11_named_67 (fun H locs hW => W.eq (g2 := F0 m 70 ls []) rfl ?_)
  refine lv_iload_n hx hb dX11_named_70 rfl (lv_at hl 2 rfl) ?_
  refine lv_if_eq (tgt := 90) hx hb dX11_named_71 (by decide) (fun c7 => ?_) (fun c7 => ?_)
  · have h := xit c7 h
    refine lv_iconst (v := (-1)) hx hb dX11_named_90 rfl ?_
    cases h
    exact xr_i C hW dX11_named_91
  · have h := xif c7 h
    refine lv_iload hx hb dX11_named_74 (lv_at hl 0 rfl) ?_
    refine lv_if_eq (tgt := 90) hx hb dX11_named_76 (by decide) (fun c8 => ?_) (fun c8 => ?_)
    · have h := xit c8 h
      refine lv_iconst (v := (-1)) hx hb dX11_named_90 rfl ?_
      cases h
      exact xr_i C hW dX11_named_91
    · have h := xif c8 h
      refine lv_aload_n hx hb dX11_named_79 rfl (lv_at hl 1 rfl) ?_
      refine xg_r C hW fg_11_19 KX_0 rfl dX11_named_80 ?_
      refine lv_lload_n hx hb dX11_named_83 rfl (lv_at hl 3 rfl) ?_
      obtain ⟨r9_, e9, h⟩ := xbo h
      refine xc_V (As := [.long x2]) (rest := []) C hW (m_X6_find 1 (Or.inl rfl) N x2 _ e9) mf_X6_find mv_X6_find ml_X11_179 ⟨rfl, rfl⟩ ⟨Nat.le_of_ble_eq_true rfl, Nat.le_of_ble_eq_true rfl⟩ (KX_sl (Or.inl rfl)) rfl hl.1 rfl rfl (Nat.le_of_ble_eq_true rfl) dX11_named_84 (fun H locs hW => W.eq (g2 := F0 m 87 ls [.int r9_]) rfl ?_)
      refine lv_goto (tgt := 91) hx hb dX11_named_87 (by decide) ?_
      cases h
      exact xr_i C hW dX11_named_91
set_option maxRecDepth 4000 in
theorem w_X11_named_30 (N : Nat) {r : Int32} {σ' : St} (C : xC KX g RX11 cX11_named 5 (some .int) p s m args meth c) : ∀ (t0 : Int32) (σ : St) (H : Heap) (locs : List Loc) (ls : Array Slot), xW KX g s σ H locs → lv_has ls 5 [(0, .ref (g.q 0))] → f_X11_named_30 N t0 σ = some (r, σ') → W p l e rm_X11_named s m args below meth c H locs 0 0 (MQ below (xPost KX g (some (.int r)) σ') args s 0 0 (xA KX g.q)) (F0 m 30 ls [.int t0]) := by
  have hx := C.1
  have hb := C.2.1
  intro t0 σ H locs ls hW hl h
  unfold f_X11_named_30 at h
  refine lv_istore_n (lv' := [(1, .int t0), (0, .ref (g.q 0))]) hx hb dX11_named_30 rfl hl (Nat.le_of_ble_eq_true rfl) rfl (fun ls hl => ?_)
  refine lv_aload_n hx hb dX11_named_31 rfl (lv_at hl 1 rfl) ?_
  refine xg_r C hW fg_11_10 KX_0 rfl dX11_named_32 ?_
  refine xg_l C hW fg_11_175 KX_19 rfl (v := 4806) rfl (x := σ.2 4806 0) rfl dX11_named_35 ?_
  refine lv_lstore_n (lv' := [(2, .long (σ.2 4806 0)), (1, .int t0), (0, .ref (g.q 0))]) hx hb dX11_named_38 rfl hl (Nat.le_of_ble_eq_true rfl) rfl (fun ls hl => ?_)
  refine lv_aload_n hx hb dX11_named_39 rfl (lv_at hl 2 rfl) ?_
  refine xg_r C hW fg_11_10 KX_0 rfl dX11_named_40 ?_
  obtain ⟨σ4, e4, h⟩ := xbo h
  refine xc_V (As := []) (rest := []) C hW (m_X8_next N _ e4) mf_X8_next mv_X8_next ml_X11_169 ⟨rfl, rfl⟩ ⟨Nat.le_of_ble_eq_true rfl, Nat.le_of_ble_eq_true rfl⟩ KX_19 rfl hl.1 rfl rfl (Nat.le_of_ble_eq_true rfl) dX11_named_43 (fun H locs hW => W.eq (g2 := F0 m 46 ls []) rfl ?_)
  refine lv_aload_n hx hb dX11_named_46 rfl (lv_at hl 2 rfl) ?_
  refine xg_r C hW fg_11_10 KX_0 rfl dX11_named_47 ?_
  refine xg_i C hW fg_11_172 KX_19 rfl (v := 4803) rfl (x := σ4.1 4803 0) rfl dX11_named_50 ?_
  refine lv_if_ne (tgt := 60) hx hb dX11_named_53 (by decide) (fun c5 => ?_) (fun c5 => ?_)
  · have h := xif c5 h
    refine lv_iconst (v := 0) hx hb dX11_named_60 rfl ?_
    exact w_X11_named_61 N C t0 (σ.2 4806 0) 0 _ _ _ _ hW (lv_sub hl [2, 1, 0] rfl) h
  · have h := xit c5 h
    refine lv_iconst (v := 1) hx hb dX11_named_56 rfl ?_
    refine lv_goto (tgt := 61) hx hb dX11_named_57 (by decide) ?_
    exact w_X11_named_61 N C t0 (σ.2 4806 0) 1 _ _ _ _ hW (lv_sub hl [2, 1, 0] rfl) h
set_option maxRecDepth 4000 in
theorem m_X11_named (N : Nat) (σ : St) {r : Int32} {σ' : St} (h : f_X11_named N σ = some (r, σ')) : xM l KX g yX11_named cX11_named 5 (some .int) rm_X11_named [.ref (g.q 0)] σ (some (.int r)) σ' := by
  refine xmet pn_X11 rfl (Nat.le_of_ble_eq_true rfl) (lv := [(0, .ref (g.q 0))]) rfl (fun p e s m args below meth c ls C hW hl => ?_)
  have hx := C.1
  have hb := C.2.1
  unfold f_X11_named at h
  refine lv_aload_n hx hb dX11_named_0 rfl (lv_at hl 0 rfl) ?_
  refine xg_r C hW fg_11_10 KX_0 rfl dX11_named_1 ?_
  obtain ⟨σ1, e1, h⟩ := xbo h
  refine xc_V (As := []) (rest := []) C hW (m_X8_rewind _ e1) mf_X8_rewind mv_X8_rewind ml_X11_109 ⟨rfl, rfl⟩ ⟨Nat.le_of_ble_eq_true rfl, Nat.le_of_ble_eq_true rfl⟩ KX_19 rfl hl.1 rfl rfl (Nat.le_of_ble_eq_true rfl) dX11_named_4 (fun H locs hW => W.eq (g2 := F0 m 7 ls []) rfl ?_)
  refine lv_aload_n hx hb dX11_named_7 rfl (lv_at hl 0 rfl) ?_
  refine xg_r C hW fg_11_10 KX_0 rfl dX11_named_8 ?_
  obtain ⟨σ2, e2, h⟩ := xbo h
  refine xc_V (As := []) (rest := []) C hW (m_X8_next N _ e2) mf_X8_next mv_X8_next ml_X11_169 ⟨rfl, rfl⟩ ⟨Nat.le_of_ble_eq_true rfl, Nat.le_of_ble_eq_true rfl⟩ KX_19 rfl hl.1 rfl rfl (Nat.le_of_ble_eq_true rfl) dX11_named_11 (fun H locs hW => W.eq (g2 := F0 m 14 ls []) rfl ?_)
  refine lv_aload_n hx hb dX11_named_14 rfl (lv_at hl 0 rfl) ?_
  refine xg_r C hW fg_11_10 KX_0 rfl dX11_named_15 ?_
  refine xg_i C hW fg_11_172 KX_19 rfl (v := 4803) rfl (x := σ2.1 4803 0) rfl dX11_named_18 ?_
  refine lv_iconst (v := 1) hx hb dX11_named_21 rfl ?_
  refine lv_icmp_ne (tgt := 29) hx hb dX11_named_22 (by decide) (fun c3 => ?_) (fun c3 => ?_)
  · have h := xif c3 h
    refine lv_iconst (v := 0) hx hb dX11_named_29 rfl ?_
    exact w_X11_named_30 N C 0 _ _ _ _ hW (lv_sub hl [0] rfl) h
  · have h := xit c3 h
    refine lv_iconst (v := 1) hx hb dX11_named_25 rfl ?_
    refine lv_goto (tgt := 30) hx hb dX11_named_26 (by decide) ?_
    exact w_X11_named_30 N C 1 _ _ _ _ hW (lv_sub hl [0] rfl) h
end
theorem dX11_blocks_0 : decode cX11_blocks 0 = .ok (.aload_n 0, 1) := by decide +kernel
theorem dX11_blocks_1 : decode cX11_blocks 1 = .ok (.getfield 10, 3) := by decide +kernel
theorem dX11_blocks_4 : decode cX11_blocks 4 = .ok (.invokevirtual 109, 3) := by decide +kernel
theorem dX11_blocks_7 : decode cX11_blocks 7 = .ok (.aload_n 0, 1) := by decide +kernel
theorem dX11_blocks_8 : decode cX11_blocks 8 = .ok (.getfield 10, 3) := by decide +kernel
theorem dX11_blocks_11 : decode cX11_blocks 11 = .ok (.invokevirtual 112, 3) := by decide +kernel
theorem dX11_blocks_14 : decode cX11_blocks 14 = .ok (.aload_n 0, 1) := by decide +kernel
theorem dX11_blocks_15 : decode cX11_blocks 15 = .ok (.getfield 31, 3) := by decide +kernel
theorem dX11_blocks_18 : decode cX11_blocks 18 = .ok (.aload_n 0, 1) := by decide +kernel
theorem dX11_blocks_19 : decode cX11_blocks 19 = .ok (.getfield 10, 3) := by decide +kernel
theorem dX11_blocks_22 : decode cX11_blocks 22 = .ok (.invokevirtual 183, 3) := by decide +kernel
theorem dX11_blocks_25 : decode cX11_blocks 25 = .ok (.istore_n 1, 1) := by decide +kernel
theorem dX11_blocks_26 : decode cX11_blocks 26 = .ok (.aload_n 0, 1) := by decide +kernel
theorem dX11_blocks_27 : decode cX11_blocks 27 = .ok (.getfield 10, 3) := by decide +kernel
theorem dX11_blocks_30 : decode cX11_blocks 30 = .ok (.invokevirtual 119, 3) := by decide +kernel
theorem dX11_blocks_33 : decode cX11_blocks 33 = .ok (.iload_n 1, 1) := by decide +kernel
theorem dX11_blocks_34 : decode cX11_blocks 34 = .ok (.ifCond .ne 5, 3) := by decide +kernel
theorem dX11_blocks_37 : decode cX11_blocks 37 = .ok (.iconst (-1), 1) := by decide +kernel
theorem dX11_blocks_38 : decode cX11_blocks 38 = .ok (.ireturn, 1) := by decide +kernel
theorem dX11_blocks_39 : decode cX11_blocks 39 = .ok (.aload_n 0, 1) := by decide +kernel
theorem dX11_blocks_40 : decode cX11_blocks 40 = .ok (.getfield 40, 3) := by decide +kernel
theorem dX11_blocks_43 : decode cX11_blocks 43 = .ok (.invokevirtual 186, 3) := by decide +kernel
theorem dX11_blocks_46 : decode cX11_blocks 46 = .ok (.aload_n 0, 1) := by decide +kernel
theorem dX11_blocks_47 : decode cX11_blocks 47 = .ok (.getfield 40, 3) := by decide +kernel
theorem dX11_blocks_50 : decode cX11_blocks 50 = .ok (.getfield 189, 3) := by decide +kernel
theorem dX11_blocks_53 : decode cX11_blocks 53 = .ok (.ireturn, 1) := by decide +kernel
abbrev rm_X11_blocks : Room := { frames := 65, cells := 0, slots := 0, locals := 1554 }
def f_X11_blocks (N : Nat) (σ : St) : Option (Int32 × St) := bo (f_X8_rewind σ) (fun σ1 => bo (f_X8_forgetFault σ1) (fun σ2 => bd (f_X0_take N σ2) (fun r3_ σ3 => bo (f_X8_drain σ3) (fun σ4 => (if r3_ = 0 then some ((-1), σ4) else bo (f_X1_layOut N σ4) (fun σ6 => some (σ6.1 5602 0, σ6)))))))
section
variable {p : Program} {l : Launch} {e : Env} {s : State} {m : MethodId} {args : Array Value} {below : List Frame} {meth : Method} {c : Code} {g : XG}
set_option maxRecDepth 4000 in
theorem m_X11_blocks (N : Nat) (σ : St) {r : Int32} {σ' : St} (h : f_X11_blocks N σ = some (r, σ')) : xM l KX g yX11_blocks cX11_blocks 2 (some .int) rm_X11_blocks [.ref (g.q 0)] σ (some (.int r)) σ' := by
  refine xmet pn_X11 rfl (Nat.le_of_ble_eq_true rfl) (lv := [(0, .ref (g.q 0))]) rfl (fun p e s m args below meth c ls C hW hl => ?_)
  have hx := C.1
  have hb := C.2.1
  unfold f_X11_blocks at h
  refine lv_aload_n hx hb dX11_blocks_0 rfl (lv_at hl 0 rfl) ?_
  refine xg_r C hW fg_11_10 KX_0 rfl dX11_blocks_1 ?_
  obtain ⟨σ1, e1, h⟩ := xbo h
  refine xc_V (As := []) (rest := []) C hW (m_X8_rewind _ e1) mf_X8_rewind mv_X8_rewind ml_X11_109 ⟨rfl, rfl⟩ ⟨Nat.le_of_ble_eq_true rfl, Nat.le_of_ble_eq_true rfl⟩ KX_19 rfl hl.1 rfl rfl (Nat.le_of_ble_eq_true rfl) dX11_blocks_4 (fun H locs hW => W.eq (g2 := F0 m 7 ls []) rfl ?_)
  refine lv_aload_n hx hb dX11_blocks_7 rfl (lv_at hl 0 rfl) ?_
  refine xg_r C hW fg_11_10 KX_0 rfl dX11_blocks_8 ?_
  obtain ⟨σ2, e2, h⟩ := xbo h
  refine xc_V (As := []) (rest := []) C hW (m_X8_forgetFault _ e2) mf_X8_forgetFault mv_X8_forgetFault ml_X11_112 ⟨rfl, rfl⟩ ⟨Nat.le_of_ble_eq_true rfl, Nat.le_of_ble_eq_true rfl⟩ KX_19 rfl hl.1 rfl rfl (Nat.le_of_ble_eq_true rfl) dX11_blocks_11 (fun H locs hW => W.eq (g2 := F0 m 14 ls []) rfl ?_)
  refine lv_aload_n hx hb dX11_blocks_14 rfl (lv_at hl 0 rfl) ?_
  refine xg_r C hW fg_11_31 KX_0 rfl dX11_blocks_15 ?_
  refine lv_aload_n hx hb dX11_blocks_18 rfl (lv_at hl 0 rfl) ?_
  refine xg_r C hW fg_11_10 KX_0 rfl dX11_blocks_19 ?_
  obtain ⟨r3_, σ3, e3, h⟩ := xbd h
  refine xc_V (As := [.ref (g.q 19)]) (rest := []) C hW (m_X0_take N _ e3) mf_X0_take mv_X0_take ml_X11_183 ⟨rfl, rfl⟩ ⟨Nat.le_of_ble_eq_true rfl, Nat.le_of_ble_eq_true rfl⟩ KX_21 rfl hl.1 rfl rfl (Nat.le_of_ble_eq_true rfl) dX11_blocks_22 (fun H locs hW => W.eq (g2 := F0 m 25 ls [.int r3_]) rfl ?_)
  refine lv_istore_n (lv' := [(1, .int r3_), (0, .ref (g.q 0))]) hx hb dX11_blocks_25 rfl hl (Nat.le_of_ble_eq_true rfl) rfl (fun ls hl => ?_)
  refine lv_aload_n hx hb dX11_blocks_26 rfl (lv_at hl 1 rfl) ?_
  refine xg_r C hW fg_11_10 KX_0 rfl dX11_blocks_27 ?_
  obtain ⟨σ4, e4, h⟩ := xbo h
  refine xc_V (As := []) (rest := []) C hW (m_X8_drain _ e4) mf_X8_drain mv_X8_drain ml_X11_119 ⟨rfl, rfl⟩ ⟨Nat.le_of_ble_eq_true rfl, Nat.le_of_ble_eq_true rfl⟩ KX_19 rfl hl.1 rfl rfl (Nat.le_of_ble_eq_true rfl) dX11_blocks_30 (fun H locs hW => W.eq (g2 := F0 m 33 ls []) rfl ?_)
  refine lv_iload_n hx hb dX11_blocks_33 rfl (lv_at hl 0 rfl) ?_
  refine lv_if_ne (tgt := 39) hx hb dX11_blocks_34 (by decide) (fun c5 => ?_) (fun c5 => ?_)
  · have h := xif c5 h
    refine lv_aload_n hx hb dX11_blocks_39 rfl (lv_at hl 1 rfl) ?_
    refine xg_r C hW fg_11_40 KX_0 rfl dX11_blocks_40 ?_
    obtain ⟨σ6, e6, h⟩ := xbo h
    refine xc_V (As := []) (rest := []) C hW (m_X1_layOut N _ e6) mf_X1_layOut mv_X1_layOut ml_X11_186 ⟨rfl, rfl⟩ ⟨Nat.le_of_ble_eq_true rfl, Nat.le_of_ble_eq_true rfl⟩ KX_23 rfl hl.1 rfl rfl (Nat.le_of_ble_eq_true rfl) dX11_blocks_43 (fun H locs hW => W.eq (g2 := F0 m 46 ls []) rfl ?_)
    refine lv_aload_n hx hb dX11_blocks_46 rfl (lv_at hl 1 rfl) ?_
    refine xg_r C hW fg_11_40 KX_0 rfl dX11_blocks_47 ?_
    refine xg_i C hW fg_11_189 KX_23 rfl (v := 5602) rfl (x := σ6.1 5602 0) rfl dX11_blocks_50 ?_
    cases h
    exact xr_i C hW dX11_blocks_53
  · have h := xit c5 h
    refine lv_iconst (v := (-1)) hx hb dX11_blocks_37 rfl ?_
    cases h
    exact xr_i C hW dX11_blocks_38
end
theorem dX11_block_0 : decode cX11_block 0 = .ok (.iload_n 1, 1) := by decide +kernel
theorem dX11_block_1 : decode cX11_block 1 = .ok (.ifCond .lt 14, 3) := by decide +kernel
theorem dX11_block_4 : decode cX11_block 4 = .ok (.iload_n 1, 1) := by decide +kernel
theorem dX11_block_5 : decode cX11_block 5 = .ok (.aload_n 0, 1) := by decide +kernel
theorem dX11_block_6 : decode cX11_block 6 = .ok (.getfield 40, 3) := by decide +kernel
theorem dX11_block_9 : decode cX11_block 9 = .ok (.getfield 189, 3) := by decide +kernel
theorem dX11_block_12 : decode cX11_block 12 = .ok (.if_icmp .lt 6, 3) := by decide +kernel
theorem dX11_block_15 : decode cX11_block 15 = .ok (.bipush (-9), 2) := by decide +kernel
theorem dX11_block_17 : decode cX11_block 17 = .ok (.ireturn, 1) := by decide +kernel
theorem dX11_block_18 : decode cX11_block 18 = .ok (.aload_n 0, 1) := by decide +kernel
theorem dX11_block_19 : decode cX11_block 19 = .ok (.getfield 40, 3) := by decide +kernel
theorem dX11_block_22 : decode cX11_block 22 = .ok (.getfield 190, 3) := by decide +kernel
theorem dX11_block_25 : decode cX11_block 25 = .ok (.iload_n 1, 1) := by decide +kernel
theorem dX11_block_26 : decode cX11_block 26 = .ok (.iaload, 1) := by decide +kernel
theorem dX11_block_27 : decode cX11_block 27 = .ok (.istore_n 3, 1) := by decide +kernel
theorem dX11_block_28 : decode cX11_block 28 = .ok (.iload_n 3, 1) := by decide +kernel
theorem dX11_block_29 : decode cX11_block 29 = .ok (.invokestatic 193, 3) := by decide +kernel
theorem dX11_block_32 : decode cX11_block 32 = .ok (.istore 4, 2) := by decide +kernel
theorem dX11_block_34 : decode cX11_block 34 = .ok (.iload_n 2, 1) := by decide +kernel
theorem dX11_block_35 : decode cX11_block 35 = .ok (.tableswitch 117 0 6 #[41, 46, 51, 61, 71, 89, 103], 41) := by decide +kernel
theorem dX11_block_76 : decode cX11_block 76 = .ok (.iload_n 3, 1) := by decide +kernel
theorem dX11_block_77 : decode cX11_block 77 = .ok (.invokestatic 197, 3) := by decide +kernel
theorem dX11_block_80 : decode cX11_block 80 = .ok (.ireturn, 1) := by decide +kernel
theorem dX11_block_81 : decode cX11_block 81 = .ok (.iload_n 3, 1) := by decide +kernel
theorem dX11_block_82 : decode cX11_block 82 = .ok (.invokestatic 200, 3) := by decide +kernel
theorem dX11_block_85 : decode cX11_block 85 = .ok (.ireturn, 1) := by decide +kernel
theorem dX11_block_86 : decode cX11_block 86 = .ok (.aload_n 0, 1) := by decide +kernel
theorem dX11_block_87 : decode cX11_block 87 = .ok (.getfield 40, 3) := by decide +kernel
theorem dX11_block_90 : decode cX11_block 90 = .ok (.getfield 203, 3) := by decide +kernel
theorem dX11_block_93 : decode cX11_block 93 = .ok (.iload_n 1, 1) := by decide +kernel
theorem dX11_block_94 : decode cX11_block 94 = .ok (.iaload, 1) := by decide +kernel
theorem dX11_block_95 : decode cX11_block 95 = .ok (.ireturn, 1) := by decide +kernel
theorem dX11_block_96 : decode cX11_block 96 = .ok (.aload_n 0, 1) := by decide +kernel
theorem dX11_block_97 : decode cX11_block 97 = .ok (.getfield 19, 3) := by decide +kernel
theorem dX11_block_100 : decode cX11_block 100 = .ok (.iload 4, 2) := by decide +kernel
theorem dX11_block_102 : decode cX11_block 102 = .ok (.invokevirtual 206, 3) := by decide +kernel
theorem dX11_block_105 : decode cX11_block 105 = .ok (.ireturn, 1) := by decide +kernel
theorem dX11_block_106 : decode cX11_block 106 = .ok (.aload_n 0, 1) := by decide +kernel
theorem dX11_block_107 : decode cX11_block 107 = .ok (.getfield 19, 3) := by decide +kernel
theorem dX11_block_110 : decode cX11_block 110 = .ok (.iload 4, 2) := by decide +kernel
theorem dX11_block_112 : decode cX11_block 112 = .ok (.invokevirtual 209, 3) := by decide +kernel
theorem dX11_block_115 : decode cX11_block 115 = .ok (.ifCond .eq 7, 3) := by decide +kernel
theorem dX11_block_118 : decode cX11_block 118 = .ok (.iconst 1, 1) := by decide +kernel
theorem dX11_block_119 : decode cX11_block 119 = .ok (.goto 4, 3) := by decide +kernel
theorem dX11_block_122 : decode cX11_block 122 = .ok (.iconst 0, 1) := by decide +kernel
theorem dX11_block_123 : decode cX11_block 123 = .ok (.ireturn, 1) := by decide +kernel
theorem dX11_block_124 : decode cX11_block 124 = .ok (.aload_n 0, 1) := by decide +kernel
theorem dX11_block_125 : decode cX11_block 125 = .ok (.getfield 19, 3) := by decide +kernel
theorem dX11_block_128 : decode cX11_block 128 = .ok (.iload_n 3, 1) := by decide +kernel
theorem dX11_block_129 : decode cX11_block 129 = .ok (.invokestatic 197, 3) := by decide +kernel
theorem dX11_block_132 : decode cX11_block 132 = .ok (.iload 4, 2) := by decide +kernel
theorem dX11_block_134 : decode cX11_block 134 = .ok (.invokevirtual 212, 3) := by decide +kernel
theorem dX11_block_137 : decode cX11_block 137 = .ok (.ireturn, 1) := by decide +kernel
theorem dX11_block_138 : decode cX11_block 138 = .ok (.aload_n 0, 1) := by decide +kernel
theorem dX11_block_139 : decode cX11_block 139 = .ok (.getfield 19, 3) := by decide +kernel
theorem dX11_block_142 : decode cX11_block 142 = .ok (.iload_n 3, 1) := by decide +kernel
theorem dX11_block_143 : decode cX11_block 143 = .ok (.invokestatic 200, 3) := by decide +kernel
theorem dX11_block_146 : decode cX11_block 146 = .ok (.iload 4, 2) := by decide +kernel
theorem dX11_block_148 : decode cX11_block 148 = .ok (.invokevirtual 212, 3) := by decide +kernel
theorem dX11_block_151 : decode cX11_block 151 = .ok (.ireturn, 1) := by decide +kernel
theorem dX11_block_152 : decode cX11_block 152 = .ok (.bipush (-9), 2) := by decide +kernel
theorem dX11_block_154 : decode cX11_block 154 = .ok (.ireturn, 1) := by decide +kernel
abbrev rm_X11_block : Room := { frames := 2, cells := 0, slots := 0, locals := 80 }
def f_X11_block (x1 : Int32) (x2 : Int32) (σ : St) : Option Int32 := (if x1 < 0 then some ((-9)) else (if x1 < (σ.1 5602 0) then grd (ib x1 12) ((if x2 = 0 then some (f_X11_widthOf (σ.1 24 x1.toNatClampNeg) σ) else (if x2 = 1 then some (f_X11_heightOf (σ.1 24 x1.toNatClampNeg) σ) else (if x2 = 2 then grd (ib x1 12) (some (σ.1 25 x1.toNatClampNeg)) else (if x2 = 3 then bo (f_X6_percentOf 1 (f_X11_edgeOf (σ.1 24 x1.toNatClampNeg) σ) σ) (fun r9_ => some r9_) else (if x2 = 4 then bo (f_X6_isLegible 1 (f_X11_edgeOf (σ.1 24 x1.toNatClampNeg) σ) σ) (fun r11_ => (if r11_ = 0 then some 0 else some 1)) else (if x2 = 5 then bo (f_X6_shrunk 1 (f_X11_widthOf (σ.1 24 x1.toNatClampNeg) σ) (f_X11_edgeOf (σ.1 24 x1.toNatClampNeg) σ) σ) (fun r14_ => some r14_) else (if x2 = 6 then bo (f_X6_shrunk 1 (f_X11_heightOf (σ.1 24 x1.toNatClampNeg) σ) (f_X11_edgeOf (σ.1 24 x1.toNatClampNeg) σ) σ) (fun r16_ => some r16_) else some ((-9)))))))))) else some ((-9))))
section
variable {p : Program} {l : Launch} {e : Env} {s : State} {m : MethodId} {args : Array Value} {below : List Frame} {meth : Method} {c : Code} {g : XG}
set_option maxRecDepth 4000 in
theorem m_X11_block (x1 : Int32) (x2 : Int32) (σ : St) {r : Int32} (h : f_X11_block x1 x2 σ = some r) : xM l KX g yX11_block cX11_block 5 (some .int) rm_X11_block [.ref (g.q 0), .int x1, .int x2] σ (some (.int r)) σ := by
  refine xmet pn_X11 rfl (Nat.le_of_ble_eq_true rfl) (lv := [(0, .ref (g.q 0)), (1, .int x1), (2, .int x2)]) rfl (fun p e s m args below meth c ls C hW hl => ?_)
  have hx := C.1
  have hb := C.2.1
  unfold f_X11_block at h
  refine lv_iload_n hx hb dX11_block_0 rfl (lv_at hl 1 rfl) ?_
  refine lv_if_lt (tgt := 15) hx hb dX11_block_1 (by decide) (fun c1 => ?_) (fun c1 => ?_)
  · have h := xit c1 h
    refine lv_bipush (v := (-9)) hx hb dX11_block_15 rfl ?_
    cases h
    exact xr_i C hW dX11_block_17
  · have h := xif c1 h
    refine lv_iload_n hx hb dX11_block_4 rfl (lv_at hl 1 rfl) ?_
    refine lv_aload_n hx hb dX11_block_5 rfl (lv_at hl 0 rfl) ?_
    refine xg_r C hW fg_11_40 KX_0 rfl dX11_block_6 ?_
    refine xg_i C hW fg_11_189 KX_23 rfl (v := 5602) rfl (x := σ.1 5602 0) rfl dX11_block_9 ?_
    refine lv_icmp_lt (tgt := 18) hx hb dX11_block_12 (by decide) (fun c2 => ?_) (fun c2 => ?_)
    · have h := xit c2 h
      refine lv_aload_n hx hb dX11_block_18 rfl (lv_at hl 0 rfl) ?_
      refine xg_r C hW fg_11_40 KX_0 rfl dX11_block_19 ?_
      refine xg_r C hW fg_11_190 KX_23 rfl dX11_block_22 ?_
      refine lv_iload_n hx hb dX11_block_25 rfl (lv_at hl 1 rfl) ?_
      obtain ⟨g3, h⟩ := xgd h
      refine xa_i C hW KX_24 g3 (x := σ.1 24 x1.toNatClampNeg) rfl dX11_block_26 ?_
      refine lv_istore_n (lv' := [(3, .int (σ.1 24 x1.toNatClampNeg)), (0, .ref (g.q 0)), (1, .int x1), (2, .int x2)]) hx hb dX11_block_27 rfl hl (Nat.le_of_ble_eq_true rfl) rfl (fun ls hl => ?_)
      refine lv_iload_n hx hb dX11_block_28 rfl (lv_at hl 0 rfl) ?_
      refine xc_S (As := [.int (σ.1 24 x1.toNatClampNeg)]) (rest := []) C hW (m_X11_edgeOf (σ.1 24 x1.toNatClampNeg) _ rfl) mf_X11_edgeOf mt_X11_edgeOf ml_X11_193 ⟨rfl, rfl⟩ ⟨Nat.le_of_ble_eq_true rfl, Nat.le_of_ble_eq_true rfl⟩ hl.1 rfl rfl (Nat.le_of_ble_eq_true rfl) dX11_block_29 (fun H locs hW => W.eq (g2 := F0 m 32 ls [.int (f_X11_edgeOf (σ.1 24 x1.toNatClampNeg) σ)]) rfl ?_)
      refine lv_istore (lv' := [(4, .int (f_X11_edgeOf (σ.1 24 x1.toNatClampNeg) σ)), (3, .int (σ.1 24 x1.toNatClampNeg)), (0, .ref (g.q 0)), (1, .int x1), (2, .int x2)]) hx hb dX11_block_32 hl (Nat.le_of_ble_eq_true rfl) rfl (fun ls hl => ?_)
      refine lv_iload_n hx hb dX11_block_34 rfl (lv_at hl 4 rfl) ?_
      by_cases c4 : x2 = 0
      · have h := xit c4 h
        refine lv_tableIn (off := 41) (tgt := 76) hx hb dX11_block_35 (by rw [c4]; decide) (by rw [c4]; decide) (by rw [c4]; rfl) (by decide) ?_
        refine lv_iload_n hx hb dX11_block_76 rfl (lv_at hl 1 rfl) ?_
        refine xc_S (As := [.int (σ.1 24 x1.toNatClampNeg)]) (rest := []) C hW (m_X11_widthOf (σ.1 24 x1.toNatClampNeg) _ rfl) mf_X11_widthOf mt_X11_widthOf ml_X11_197 ⟨rfl, rfl⟩ ⟨Nat.le_of_ble_eq_true rfl, Nat.le_of_ble_eq_true rfl⟩ hl.1 rfl rfl (Nat.le_of_ble_eq_true rfl) dX11_block_77 (fun H locs hW => W.eq (g2 := F0 m 80 ls [.int (f_X11_widthOf (σ.1 24 x1.toNatClampNeg) σ)]) rfl ?_)
        cases h
        exact xr_i C hW dX11_block_80
      · have h := xif c4 h
        by_cases c5 : x2 = 1
        · have h := xit c5 h
          refine lv_tableIn (off := 46) (tgt := 81) hx hb dX11_block_35 (by rw [c5]; decide) (by rw [c5]; decide) (by rw [c5]; rfl) (by decide) ?_
          refine lv_iload_n hx hb dX11_block_81 rfl (lv_at hl 1 rfl) ?_
          refine xc_S (As := [.int (σ.1 24 x1.toNatClampNeg)]) (rest := []) C hW (m_X11_heightOf (σ.1 24 x1.toNatClampNeg) _ rfl) mf_X11_heightOf mt_X11_heightOf ml_X11_200 ⟨rfl, rfl⟩ ⟨Nat.le_of_ble_eq_true rfl, Nat.le_of_ble_eq_true rfl⟩ hl.1 rfl rfl (Nat.le_of_ble_eq_true rfl) dX11_block_82 (fun H locs hW => W.eq (g2 := F0 m 85 ls [.int (f_X11_heightOf (σ.1 24 x1.toNatClampNeg) σ)]) rfl ?_)
          cases h
          exact xr_i C hW dX11_block_85
        · have h := xif c5 h
          by_cases c6 : x2 = 2
          · have h := xit c6 h
            refine lv_tableIn (off := 51) (tgt := 86) hx hb dX11_block_35 (by rw [c6]; decide) (by rw [c6]; decide) (by rw [c6]; rfl) (by decide) ?_
            refine lv_aload_n hx hb dX11_block_86 rfl (lv_at hl 2 rfl) ?_
            refine xg_r C hW fg_11_40 KX_0 rfl dX11_block_87 ?_
            refine xg_r C hW fg_11_203 KX_23 rfl dX11_block_90 ?_
            refine lv_iload_n hx hb dX11_block_93 rfl (lv_at hl 3 rfl) ?_
            obtain ⟨g7, h⟩ := xgd h
            refine xa_i C hW KX_25 g7 (x := σ.1 25 x1.toNatClampNeg) rfl dX11_block_94 ?_
            cases h
            exact xr_i C hW dX11_block_95
          · have h := xif c6 h
            by_cases c8 : x2 = 3
            · have h := xit c8 h
              refine lv_tableIn (off := 61) (tgt := 96) hx hb dX11_block_35 (by rw [c8]; decide) (by rw [c8]; decide) (by rw [c8]; rfl) (by decide) ?_
              refine lv_aload_n hx hb dX11_block_96 rfl (lv_at hl 2 rfl) ?_
              refine xg_r C hW fg_11_19 KX_0 rfl dX11_block_97 ?_
              refine lv_iload hx hb dX11_block_100 (lv_at hl 0 rfl) ?_
              obtain ⟨r9_, e9, h⟩ := xbo h
              refine xc_V (As := [.int (f_X11_edgeOf (σ.1 24 x1.toNatClampNeg) σ)]) (rest := []) C hW (m_X6_percentOf 1 (Or.inl rfl) (f_X11_edgeOf (σ.1 24 x1.toNatClampNeg) σ) _ e9) mf_X6_percentOf mv_X6_percentOf ml_X11_206 ⟨rfl, rfl⟩ ⟨Nat.le_of_ble_eq_true rfl, Nat.le_of_ble_eq_true rfl⟩ (KX_sl (Or.inl rfl)) rfl hl.1 rfl rfl (Nat.le_of_ble_eq_true rfl) dX11_block_102 (fun H locs hW => W.eq (g2 := F0 m 105 ls [.int r9_]) rfl ?_)
              cases h
              exact xr_i C hW dX11_block_105
            · have h := xif c8 h
              by_cases c10 : x2 = 4
              · have h := xit c10 h
                refine lv_tableIn (off := 71) (tgt := 106) hx hb dX11_block_35 (by rw [c10]; decide) (by rw [c10]; decide) (by rw [c10]; rfl) (by decide) ?_
                refine lv_aload_n hx hb dX11_block_106 rfl (lv_at hl 2 rfl) ?_
                refine xg_r C hW fg_11_19 KX_0 rfl dX11_block_107 ?_
                refine lv_iload hx hb dX11_block_110 (lv_at hl 0 rfl) ?_
                obtain ⟨r11_, e11, h⟩ := xbo h
                refine xc_V (As := [.int (f_X11_edgeOf (σ.1 24 x1.toNatClampNeg) σ)]) (rest := []) C hW (m_X6_isLegible 1 (Or.inl rfl) (f_X11_edgeOf (σ.1 24 x1.toNatClampNeg) σ) _ e11) mf_X6_isLegible mv_X6_isLegible ml_X11_209 ⟨rfl, rfl⟩ ⟨Nat.le_of_ble_eq_true rfl, Nat.le_of_ble_eq_true rfl⟩ (KX_sl (Or.inl rfl)) rfl hl.1 rfl rfl (Nat.le_of_ble_eq_true rfl) dX11_block_112 (fun H locs hW => W.eq (g2 := F0 m 115 ls [.int r11_]) rfl ?_)
                refine lv_if_eq (tgt := 122) hx hb dX11_block_115 (by decide) (fun c12 => ?_) (fun c12 => ?_)
                · have h := xit c12 h
                  refine lv_iconst (v := 0) hx hb dX11_block_122 rfl ?_
                  cases h
                  exact xr_i C hW dX11_block_123
                · have h := xif c12 h
                  refine lv_iconst (v := 1) hx hb dX11_block_118 rfl ?_
                  refine lv_goto (tgt := 123) hx hb dX11_block_119 (by decide) ?_
                  cases h
                  exact xr_i C hW dX11_block_123
              · have h := xif c10 h
                by_cases c13 : x2 = 5
                · have h := xit c13 h
                  refine lv_tableIn (off := 89) (tgt := 124) hx hb dX11_block_35 (by rw [c13]; decide) (by rw [c13]; decide) (by rw [c13]; rfl) (by decide) ?_
                  refine lv_aload_n hx hb dX11_block_124 rfl (lv_at hl 2 rfl) ?_
                  refine xg_r C hW fg_11_19 KX_0 rfl dX11_block_125 ?_
                  refine lv_iload_n hx hb dX11_block_128 rfl (lv_at hl 1 rfl) ?_
                  refine xc_S (As := [.int (σ.1 24 x1.toNatClampNeg)]) (rest := [.ref (g.q 1)]) C hW (m_X11_widthOf (σ.1 24 x1.toNatClampNeg) _ rfl) mf_X11_widthOf mt_X11_widthOf ml_X11_197 ⟨rfl, rfl⟩ ⟨Nat.le_of_ble_eq_true rfl, Nat.le_of_ble_eq_true rfl⟩ hl.1 rfl rfl (Nat.le_of_ble_eq_true rfl) dX11_block_129 (fun H locs hW => W.eq (g2 := F0 m 132 ls [.int (f_X11_widthOf (σ.1 24 x1.toNatClampNeg) σ), .ref (g.q 1)]) rfl ?_)
                  refine lv_iload hx hb dX11_block_132 (lv_at hl 0 rfl) ?_
                  obtain ⟨r14_, e14, h⟩ := xbo h
                  refine xc_V (As := [.int (f_X11_widthOf (σ.1 24 x1.toNatClampNeg) σ), .int (f_X11_edgeOf (σ.1 24 x1.toNatClampNeg) σ)]) (rest := []) C hW (m_X6_shrunk 1 (Or.inl rfl) (f_X11_widthOf (σ.1 24 x1.toNatClampNeg) σ) (f_X11_edgeOf (σ.1 24 x1.toNatClampNeg) σ) _ e14) mf_X6_shrunk mv_X6_shrunk ml_X11_212 ⟨rfl, rfl⟩ ⟨Nat.le_of_ble_eq_true rfl, Nat.le_of_ble_eq_true rfl⟩ (KX_sl (Or.inl rfl)) rfl hl.1 rfl rfl (Nat.le_of_ble_eq_true rfl) dX11_block_134 (fun H locs hW => W.eq (g2 := F0 m 137 ls [.int r14_]) rfl ?_)
                  cases h
                  exact xr_i C hW dX11_block_137
                · have h := xif c13 h
                  by_cases c15 : x2 = 6
                  · have h := xit c15 h
                    refine lv_tableIn (off := 103) (tgt := 138) hx hb dX11_block_35 (by rw [c15]; decide) (by rw [c15]; decide) (by rw [c15]; rfl) (by decide) ?_
                    refine lv_aload_n hx hb dX11_block_138 rfl (lv_at hl 2 rfl) ?_
                    refine xg_r C hW fg_11_19 KX_0 rfl dX11_block_139 ?_
                    refine lv_iload_n hx hb dX11_block_142 rfl (lv_at hl 1 rfl) ?_
                    refine xc_S (As := [.int (σ.1 24 x1.toNatClampNeg)]) (rest := [.ref (g.q 1)]) C hW (m_X11_heightOf (σ.1 24 x1.toNatClampNeg) _ rfl) mf_X11_heightOf mt_X11_heightOf ml_X11_200 ⟨rfl, rfl⟩ ⟨Nat.le_of_ble_eq_true rfl, Nat.le_of_ble_eq_true rfl⟩ hl.1 rfl rfl (Nat.le_of_ble_eq_true rfl) dX11_block_143 (fun H locs hW => W.eq (g2 := F0 m 146 ls [.int (f_X11_heightOf (σ.1 24 x1.toNatClampNeg) σ), .ref (g.q 1)]) rfl ?_)
                    refine lv_iload hx hb dX11_block_146 (lv_at hl 0 rfl) ?_
                    obtain ⟨r16_, e16, h⟩ := xbo h
                    refine xc_V (As := [.int (f_X11_heightOf (σ.1 24 x1.toNatClampNeg) σ), .int (f_X11_edgeOf (σ.1 24 x1.toNatClampNeg) σ)]) (rest := []) C hW (m_X6_shrunk 1 (Or.inl rfl) (f_X11_heightOf (σ.1 24 x1.toNatClampNeg) σ) (f_X11_edgeOf (σ.1 24 x1.toNatClampNeg) σ) _ e16) mf_X6_shrunk mv_X6_shrunk ml_X11_212 ⟨rfl, rfl⟩ ⟨Nat.le_of_ble_eq_true rfl, Nat.le_of_ble_eq_true rfl⟩ (KX_sl (Or.inl rfl)) rfl hl.1 rfl rfl (Nat.le_of_ble_eq_true rfl) dX11_block_148 (fun H locs hW => W.eq (g2 := F0 m 151 ls [.int r16_]) rfl ?_)
                    cases h
                    exact xr_i C hW dX11_block_151
                  · have h := xif c15 h
                    refine lv_tableOut (tgt := 152) hx hb dX11_block_35 (xsw_out (fun k h1 h2 => ?_)) (by decide) ?_
                    · rcases (show k = 0 ∨ k = 1 ∨ k = 2 ∨ k = 3 ∨ k = 4 ∨ k = 5 ∨ k = 6 by omega) with rfl | rfl | rfl | rfl | rfl | rfl | rfl
                      · exact c4
                      · exact c5
                      · exact c6
                      · exact c8
                      · exact c10
                      · exact c13
                      · exact c15
                    · refine lv_bipush (v := (-9)) hx hb dX11_block_152 rfl ?_
                      cases h
                      exact xr_i C hW dX11_block_154
    · have h := xif c2 h
      refine lv_bipush (v := (-9)) hx hb dX11_block_15 rfl ?_
      cases h
      exact xr_i C hW dX11_block_17
end
